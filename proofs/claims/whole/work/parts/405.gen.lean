abbrev mX8_aboard : MD := (yX8_aboard, cX8_aboard, 4, (some .int), { frames := 2, cells := 0, slots := 0, locals := 43 }, none)
theorem kD_X8_aboard : CodeIn mX8_aboard 2 := ⟨kC_X8_aboard, by decide +kernel⟩
def f_X8_aboard (x1 : Int32) (x2 : Int32) (h : Hp) : Option (Int32 × Hp) := ((f_X8_isBoat x1 h).bind fun r1 => (if r1 = true then ((f_X8_within x2 (0 : Int32) (16777215 : Int32) h).bind fun r3 => (if r3 = true then (if 0 ≤ x1 ∧ x1 < 8 then (if 0 ≤ x1 ∧ x1 < 8 then (some ((gI h 40 0 (Int32.toNatClampNeg x1)), (wI h 40 0 (Int32.toNatClampNeg x1) x2))) else none) else none) else ((f_X8_finding (-1000001 : Int32) h).bind fun r4 => (some (r4.1, r4.2))))) else ((f_X8_finding (-1000001 : Int32) h).bind fun r2 => (some (r2.1, r2.2)))))
set_option maxRecDepth 100000 in
set_option maxHeartbeats 4000000 in
theorem a_X8_aboard (x1 : Int32) (x2 : Int32) (h : Hp) : CtA eI mX8_aboard U0 U0 [vr 8 (some 0), vi x1, vi x2] h (f_X8_aboard x1 x2 h) := by
  refine Ct.of (ls := [some (vr 8 (some 0)), some (vi x1), some (vi x2), none]) (n := 1) (by decide +kernel) rfl rfl rfl ?_
  unfold f_X8_aboard
  refine A_aload_n (pc := 0) (i := 0) dX8_aboard_0 rfl rfl ?_
  refine A_iload_n (pc := 1) (i := 1) dX8_aboard_1 rfl rfl ?_
  refine A_callV (pc := 2) (M' := mX8_isBoat) (As := [vi x1]) (st := []) (0, 0) (fun r1 => [vi (bi r1)]) (fun _ => h) (a_X8_isBoat x1 h) kD_X8_isBoat kM_X8_131 kI_X8_isBoat kS_X8_isBoat kN_X8 ⟨(Nat.le_of_ble_eq_true rfl), (Nat.le_of_ble_eq_true rfl)⟩ dX8_aboard_2 rfl rfl rfl (by decide) rfl (Nat.le_of_ble_eq_true rfl) (Nat.le_of_ble_eq_true rfl) (Nat.le_of_ble_eq_true rfl) (fun _ => rfl) (fun _ => rfl) (fun r1 => ?_)
  refine A_ifb_eq (pc := 5) (tgt := 18) dX8_aboard_5 (by decide) ?_ ?_
  · refine A_aload_n (pc := 18) (i := 0) dX8_aboard_18 rfl rfl ?_
    refine A_ldc (pc := 19) (v := (-1000001 : Int32)) dX8_aboard_19 kK_X8_125 ?_
    refine A_callV (pc := 21) (M' := mX8_finding) (As := [vi (-1000001 : Int32)]) (st := []) (0, 0) (fun r2 => [vi r2.1]) (fun r2 => r2.2) (a_X8_finding (-1000001 : Int32) h) kD_X8_finding kM_X8_126 kI_X8_finding kS_X8_finding kN_X8 ⟨(Nat.le_of_ble_eq_true rfl), (Nat.le_of_ble_eq_true rfl)⟩ dX8_aboard_21 rfl rfl rfl (by decide) rfl (Nat.le_of_ble_eq_true rfl) (Nat.le_of_ble_eq_true rfl) (Nat.le_of_ble_eq_true rfl) (fun _ => rfl) (fun _ => rfl) (fun r2 => ?_)
    exact A_retI rfl dX8_aboard_24
  · refine A_iload_n (pc := 8) (i := 2) dX8_aboard_8 rfl rfl ?_
    refine A_iconst (pc := 9) (v := (0 : Int32)) dX8_aboard_9 (by decide) ?_
    refine A_ldc (pc := 10) (v := (16777215 : Int32)) dX8_aboard_10 kK_X8_56 ?_
    refine A_callS (pc := 12) (M' := mX8_within) (As := [vi x2, vi (0 : Int32), vi (16777215 : Int32)]) (st := []) (0, 0) (fun r3 => [vi (bi r3)]) (fun _ => h) (a_X8_within x2 (0 : Int32) (16777215 : Int32) h) kD_X8_within kM_X8_118 kT_X8_within kN_X8 ⟨(Nat.le_of_ble_eq_true rfl), (Nat.le_of_ble_eq_true rfl)⟩ dX8_aboard_12 rfl rfl (Nat.le_of_ble_eq_true rfl) (Nat.le_of_ble_eq_true rfl) (Nat.le_of_ble_eq_true rfl) (fun _ => rfl) (fun _ => rfl) (fun r3 => ?_)
    refine A_ifb_ne (pc := 15) (tgt := 25) dX8_aboard_15 (by decide) ?_ ?_
    · refine A_aload_n (pc := 25) (i := 0) dX8_aboard_25 rfl rfl ?_
      refine A_getS (pc := 26) (k := 13) (tp := 40) clX8 (Nat.le_of_ble_eq_true rfl) dX8_aboard_26 kF_X8_41 rfl rfl rfl ?_
      refine A_iload_n (pc := 29) (i := 1) dX8_aboard_29 rfl rfl ?_
      refine A_iaload (pc := 30) (n := 8) (by decide) (by decide) rfl dX8_aboard_30 (by decide) ?_
      refine A_istore_n (pc := 31) (i := 3) (ls2 := [some (vr 8 (some 0)), some (vi x1), some (vi x2), some (vi (gI h 40 0 (Int32.toNatClampNeg x1)))]) dX8_aboard_31 rfl (Nat.le_of_ble_eq_true rfl) rfl ?_
      refine A_aload_n (pc := 32) (i := 0) dX8_aboard_32 rfl rfl ?_
      refine A_getS (pc := 33) (k := 13) (tp := 40) clX8 (Nat.le_of_ble_eq_true rfl) dX8_aboard_33 kF_X8_41 rfl rfl rfl ?_
      refine A_iload_n (pc := 36) (i := 1) dX8_aboard_36 rfl rfl ?_
      refine A_iload_n (pc := 37) (i := 2) dX8_aboard_37 rfl rfl ?_
      refine A_iastore (pc := 38) (n := 8) (by decide) (by decide) rfl dX8_aboard_38 (by decide) ?_
      refine A_iload_n (pc := 39) (i := 3) dX8_aboard_39 rfl rfl ?_
      exact A_retI rfl dX8_aboard_40
    · refine A_aload_n (pc := 18) (i := 0) dX8_aboard_18 rfl rfl ?_
      refine A_ldc (pc := 19) (v := (-1000001 : Int32)) dX8_aboard_19 kK_X8_125 ?_
      refine A_callV (pc := 21) (M' := mX8_finding) (As := [vi (-1000001 : Int32)]) (st := []) (0, 0) (fun r4 => [vi r4.1]) (fun r4 => r4.2) (a_X8_finding (-1000001 : Int32) h) kD_X8_finding kM_X8_126 kI_X8_finding kS_X8_finding kN_X8 ⟨(Nat.le_of_ble_eq_true rfl), (Nat.le_of_ble_eq_true rfl)⟩ dX8_aboard_21 rfl rfl rfl (by decide) rfl (Nat.le_of_ble_eq_true rfl) (Nat.le_of_ble_eq_true rfl) (Nat.le_of_ble_eq_true rfl) (fun _ => rfl) (fun _ => rfl) (fun r4 => ?_)
      exact A_retI rfl dX8_aboard_24

abbrev mX8_over : MD := (yX8_over, cX8_over, 3, (some .int), { frames := 1, cells := 0, slots := 0, locals := 22 }, none)
theorem kD_X8_over : CodeIn mX8_over 1 := ⟨kC_X8_over, by decide +kernel⟩
def f_X8_over (x1 : Int32) (h : Hp) : Option (Int32 × Hp) := ((f_X8_within x1 (0 : Int32) (20 : Int32) h).bind fun r1 => (if r1 = true then (some ((gI h 8 0 5), (wI h 8 0 5 x1))) else ((f_X8_finding (-1000001 : Int32) h).bind fun r2 => (some (r2.1, r2.2)))))
set_option maxRecDepth 100000 in
set_option maxHeartbeats 4000000 in
theorem a_X8_over (x1 : Int32) (h : Hp) : CtA eI mX8_over U0 U0 [vr 8 (some 0), vi x1] h (f_X8_over x1 h) := by
  refine Ct.of (ls := [some (vr 8 (some 0)), some (vi x1), none]) (n := 1) (by decide +kernel) rfl rfl rfl ?_
  unfold f_X8_over
  refine A_iload_n (pc := 0) (i := 1) dX8_over_0 rfl rfl ?_
  refine A_iconst (pc := 1) (v := (0 : Int32)) dX8_over_1 (by decide) ?_
  refine A_bipush (pc := 2) (v := (20 : Int32)) dX8_over_2 (by decide) ?_
  refine A_callS (pc := 4) (M' := mX8_within) (As := [vi x1, vi (0 : Int32), vi (20 : Int32)]) (st := []) (0, 0) (fun r1 => [vi (bi r1)]) (fun _ => h) (a_X8_within x1 (0 : Int32) (20 : Int32) h) kD_X8_within kM_X8_118 kT_X8_within kN_X8 ⟨(Nat.le_of_ble_eq_true rfl), (Nat.le_of_ble_eq_true rfl)⟩ dX8_over_4 rfl rfl (Nat.le_of_ble_eq_true rfl) (Nat.le_of_ble_eq_true rfl) (Nat.le_of_ble_eq_true rfl) (fun _ => rfl) (fun _ => rfl) (fun r1 => ?_)
  refine A_ifb_ne (pc := 7) (tgt := 17) dX8_over_7 (by decide) ?_ ?_
  · refine A_aload_n (pc := 17) (i := 0) dX8_over_17 rfl rfl ?_
    refine A_getI (pc := 18) (k := 5) clX8 (Nat.le_of_ble_eq_true rfl) dX8_over_18 kF_X8_138 rfl ?_
    refine A_istore_n (pc := 21) (i := 2) (ls2 := [some (vr 8 (some 0)), some (vi x1), some (vi (gI h 8 0 5))]) dX8_over_21 rfl (Nat.le_of_ble_eq_true rfl) rfl ?_
    refine A_aload_n (pc := 22) (i := 0) dX8_over_22 rfl rfl ?_
    refine A_iload_n (pc := 23) (i := 1) dX8_over_23 rfl rfl ?_
    refine A_putI (pc := 24) (k := 5) clX8 (Nat.le_of_ble_eq_true rfl) dX8_over_24 kF_X8_138 rfl (Or.inl rfl) ⟨rfl, rfl⟩ ?_
    refine A_iload_n (pc := 27) (i := 2) dX8_over_27 rfl rfl ?_
    exact A_retI rfl dX8_over_28
  · refine A_aload_n (pc := 10) (i := 0) dX8_over_10 rfl rfl ?_
    refine A_ldc (pc := 11) (v := (-1000001 : Int32)) dX8_over_11 kK_X8_125 ?_
    refine A_callV (pc := 13) (M' := mX8_finding) (As := [vi (-1000001 : Int32)]) (st := []) (0, 0) (fun r2 => [vi r2.1]) (fun r2 => r2.2) (a_X8_finding (-1000001 : Int32) h) kD_X8_finding kM_X8_126 kI_X8_finding kS_X8_finding kN_X8 ⟨(Nat.le_of_ble_eq_true rfl), (Nat.le_of_ble_eq_true rfl)⟩ dX8_over_13 rfl rfl rfl (by decide) rfl (Nat.le_of_ble_eq_true rfl) (Nat.le_of_ble_eq_true rfl) (Nat.le_of_ble_eq_true rfl) (fun _ => rfl) (fun _ => rfl) (fun r2 => ?_)
    exact A_retI rfl dX8_over_16

abbrev mX8_isUnder : MD := (yX8_isUnder, cX8_isUnder, 2, (some .boolean), { frames := 0, cells := 0, slots := 0, locals := 0 }, none)
theorem kD_X8_isUnder : CodeIn mX8_isUnder 2 := ⟨kC_X8_isUnder, by decide +kernel⟩
def f_X8_isUnder (x0 : Int32) (x1 : Int32) (h : Hp) : Option Bool := (if x1 = 0 then (some true) else (if x0 = x1 then (some true) else (if x1 = (2 : Int32) then (if x0 = (3 : Int32) then (some true) else (some false)) else (some false))))
set_option maxRecDepth 100000 in
set_option maxHeartbeats 4000000 in
theorem a_X8_isUnder (x0 : Int32) (x1 : Int32) (h : Hp) : CtA (eBr h) mX8_isUnder U0 U0 [vi x0, vi x1] h (f_X8_isUnder x0 x1 h) := by
  refine Ct.of (ls := [some (vi x0), some (vi x1)]) (n := 0) (by decide +kernel) rfl rfl rfl ?_
  unfold f_X8_isUnder
  refine A_iload_n (pc := 0) (i := 1) dX8_isUnder_0 rfl rfl ?_
  refine A_if_eq (pc := 1) (tgt := 19) dX8_isUnder_1 (by decide) ?_ ?_
  · refine A_iconst (pc := 19) (v := (1 : Int32)) dX8_isUnder_19 (by decide) ?_
    refine A_goto (pc := 20) (tgt := 24) dX8_isUnder_20 (by decide) ?_
    exact A_retBr rfl rfl dX8_isUnder_24
  · refine A_iload_n (pc := 4) (i := 0) dX8_isUnder_4 rfl rfl ?_
    refine A_iload_n (pc := 5) (i := 1) dX8_isUnder_5 rfl rfl ?_
    refine A_icmp_eq (pc := 6) (tgt := 19) dX8_isUnder_6 (by decide) ?_ ?_
    · refine A_iconst (pc := 19) (v := (1 : Int32)) dX8_isUnder_19 (by decide) ?_
      refine A_goto (pc := 20) (tgt := 24) dX8_isUnder_20 (by decide) ?_
      exact A_retBr rfl rfl dX8_isUnder_24
    · refine A_iload_n (pc := 9) (i := 1) dX8_isUnder_9 rfl rfl ?_
      refine A_iconst (pc := 10) (v := (2 : Int32)) dX8_isUnder_10 (by decide) ?_
      refine A_icmp_ne (pc := 11) (tgt := 23) dX8_isUnder_11 (by decide) ?_ ?_
      · refine A_iconst (pc := 23) (v := (0 : Int32)) dX8_isUnder_23 (by decide) ?_
        exact A_retBr rfl rfl dX8_isUnder_24
      · refine A_iload_n (pc := 14) (i := 0) dX8_isUnder_14 rfl rfl ?_
        refine A_iconst (pc := 15) (v := (3 : Int32)) dX8_isUnder_15 (by decide) ?_
        refine A_icmp_ne (pc := 16) (tgt := 23) dX8_isUnder_16 (by decide) ?_ ?_
        · refine A_iconst (pc := 23) (v := (0 : Int32)) dX8_isUnder_23 (by decide) ?_
          exact A_retBr rfl rfl dX8_isUnder_24
        · refine A_iconst (pc := 19) (v := (1 : Int32)) dX8_isUnder_19 (by decide) ?_
          refine A_goto (pc := 20) (tgt := 24) dX8_isUnder_20 (by decide) ?_
          exact A_retBr rfl rfl dX8_isUnder_24

abbrev mX8_as : MD := (yX8_as, cX8_as, 3, (some .int), { frames := 2, cells := 0, slots := 0, locals := 43 }, none)
theorem kD_X8_as : CodeIn mX8_as 2 := ⟨kC_X8_as, by decide +kernel⟩
def f_X8_as (x1 : Int32) (x2 : Int32) (h : Hp) : Option (Int32 × Hp) := ((f_X8_isBoat x1 h).bind fun r1 => (if r1 = true then ((f_X8_within x2 (0 : Int32) (3 : Int32) h).bind fun r3 => (if r3 = true then (if 0 ≤ x1 ∧ x1 < 8 then ((f_X8_isUnder (gI h 34 0 (Int32.toNatClampNeg x1)) x2 h).bind fun r4 => (if r4 = true then (some (x1, h)) else ((f_X8_finding (-1000003 : Int32) h).bind fun r5 => (some (r5.1, r5.2))))) else none) else ((f_X8_finding (-1000001 : Int32) h).bind fun r6 => (some (r6.1, r6.2))))) else ((f_X8_finding (-1000001 : Int32) h).bind fun r2 => (some (r2.1, r2.2)))))
set_option maxRecDepth 100000 in
set_option maxHeartbeats 4000000 in
theorem a_X8_as (x1 : Int32) (x2 : Int32) (h : Hp) : CtA eI mX8_as U0 U0 [vr 8 (some 0), vi x1, vi x2] h (f_X8_as x1 x2 h) := by
  refine Ct.of (ls := [some (vr 8 (some 0)), some (vi x1), some (vi x2)]) (n := 0) (by decide +kernel) rfl rfl rfl ?_
  unfold f_X8_as
  refine A_aload_n (pc := 0) (i := 0) dX8_as_0 rfl rfl ?_
  refine A_iload_n (pc := 1) (i := 1) dX8_as_1 rfl rfl ?_
  refine A_callV (pc := 2) (M' := mX8_isBoat) (As := [vi x1]) (st := []) (0, 0) (fun r1 => [vi (bi r1)]) (fun _ => h) (a_X8_isBoat x1 h) kD_X8_isBoat kM_X8_131 kI_X8_isBoat kS_X8_isBoat kN_X8 ⟨(Nat.le_of_ble_eq_true rfl), (Nat.le_of_ble_eq_true rfl)⟩ dX8_as_2 rfl rfl rfl (by decide) rfl (Nat.le_of_ble_eq_true rfl) (Nat.le_of_ble_eq_true rfl) (Nat.le_of_ble_eq_true rfl) (fun _ => rfl) (fun _ => rfl) (fun r1 => ?_)
  refine A_ifb_eq (pc := 5) (tgt := 17) dX8_as_5 (by decide) ?_ ?_
  · refine A_aload_n (pc := 17) (i := 0) dX8_as_17 rfl rfl ?_
    refine A_ldc (pc := 18) (v := (-1000001 : Int32)) dX8_as_18 kK_X8_125 ?_
    refine A_callV (pc := 20) (M' := mX8_finding) (As := [vi (-1000001 : Int32)]) (st := []) (0, 0) (fun r2 => [vi r2.1]) (fun r2 => r2.2) (a_X8_finding (-1000001 : Int32) h) kD_X8_finding kM_X8_126 kI_X8_finding kS_X8_finding kN_X8 ⟨(Nat.le_of_ble_eq_true rfl), (Nat.le_of_ble_eq_true rfl)⟩ dX8_as_20 rfl rfl rfl (by decide) rfl (Nat.le_of_ble_eq_true rfl) (Nat.le_of_ble_eq_true rfl) (Nat.le_of_ble_eq_true rfl) (fun _ => rfl) (fun _ => rfl) (fun r2 => ?_)
    exact A_retI rfl dX8_as_23
  · refine A_iload_n (pc := 8) (i := 2) dX8_as_8 rfl rfl ?_
    refine A_iconst (pc := 9) (v := (0 : Int32)) dX8_as_9 (by decide) ?_
    refine A_iconst (pc := 10) (v := (3 : Int32)) dX8_as_10 (by decide) ?_
    refine A_callS (pc := 11) (M' := mX8_within) (As := [vi x2, vi (0 : Int32), vi (3 : Int32)]) (st := []) (0, 0) (fun r3 => [vi (bi r3)]) (fun _ => h) (a_X8_within x2 (0 : Int32) (3 : Int32) h) kD_X8_within kM_X8_118 kT_X8_within kN_X8 ⟨(Nat.le_of_ble_eq_true rfl), (Nat.le_of_ble_eq_true rfl)⟩ dX8_as_11 rfl rfl (Nat.le_of_ble_eq_true rfl) (Nat.le_of_ble_eq_true rfl) (Nat.le_of_ble_eq_true rfl) (fun _ => rfl) (fun _ => rfl) (fun r3 => ?_)
    refine A_ifb_ne (pc := 14) (tgt := 24) dX8_as_14 (by decide) ?_ ?_
    · refine A_aload_n (pc := 24) (i := 0) dX8_as_24 rfl rfl ?_
      refine A_getS (pc := 25) (k := 7) (tp := 34) clX8 (Nat.le_of_ble_eq_true rfl) dX8_as_25 kF_X8_22 rfl rfl rfl ?_
      refine A_iload_n (pc := 28) (i := 1) dX8_as_28 rfl rfl ?_
      refine A_iaload (pc := 29) (n := 8) (by decide) (by decide) rfl dX8_as_29 (by decide) ?_
      refine A_iload_n (pc := 30) (i := 2) dX8_as_30 rfl rfl ?_
      refine A_callS (pc := 31) (M' := mX8_isUnder) (As := [vi (gI h 34 0 (Int32.toNatClampNeg x1)), vi x2]) (st := []) (0, 0) (fun r4 => [vi (bi r4)]) (fun _ => h) (a_X8_isUnder (gI h 34 0 (Int32.toNatClampNeg x1)) x2 h) kD_X8_isUnder kM_X8_141 kT_X8_isUnder kN_X8 ⟨(Nat.le_of_ble_eq_true rfl), (Nat.le_of_ble_eq_true rfl)⟩ dX8_as_31 rfl rfl (Nat.le_of_ble_eq_true rfl) (Nat.le_of_ble_eq_true rfl) (Nat.le_of_ble_eq_true rfl) (fun _ => rfl) (fun _ => rfl) (fun r4 => ?_)
      refine A_ifb_eq (pc := 34) (tgt := 41) dX8_as_34 (by decide) ?_ ?_
      · refine A_aload_n (pc := 41) (i := 0) dX8_as_41 rfl rfl ?_
        refine A_ldc (pc := 42) (v := (-1000003 : Int32)) dX8_as_42 kK_X8_145 ?_
        refine A_callV (pc := 44) (M' := mX8_finding) (As := [vi (-1000003 : Int32)]) (st := []) (0, 0) (fun r5 => [vi r5.1]) (fun r5 => r5.2) (a_X8_finding (-1000003 : Int32) h) kD_X8_finding kM_X8_126 kI_X8_finding kS_X8_finding kN_X8 ⟨(Nat.le_of_ble_eq_true rfl), (Nat.le_of_ble_eq_true rfl)⟩ dX8_as_44 rfl rfl rfl (by decide) rfl (Nat.le_of_ble_eq_true rfl) (Nat.le_of_ble_eq_true rfl) (Nat.le_of_ble_eq_true rfl) (fun _ => rfl) (fun _ => rfl) (fun r5 => ?_)
        exact A_retI rfl dX8_as_47
      · refine A_iload_n (pc := 37) (i := 1) dX8_as_37 rfl rfl ?_
        refine A_goto (pc := 38) (tgt := 47) dX8_as_38 (by decide) ?_
        exact A_retI rfl dX8_as_47
    · refine A_aload_n (pc := 17) (i := 0) dX8_as_17 rfl rfl ?_
      refine A_ldc (pc := 18) (v := (-1000001 : Int32)) dX8_as_18 kK_X8_125 ?_
      refine A_callV (pc := 20) (M' := mX8_finding) (As := [vi (-1000001 : Int32)]) (st := []) (0, 0) (fun r6 => [vi r6.1]) (fun r6 => r6.2) (a_X8_finding (-1000001 : Int32) h) kD_X8_finding kM_X8_126 kI_X8_finding kS_X8_finding kN_X8 ⟨(Nat.le_of_ble_eq_true rfl), (Nat.le_of_ble_eq_true rfl)⟩ dX8_as_20 rfl rfl rfl (by decide) rfl (Nat.le_of_ble_eq_true rfl) (Nat.le_of_ble_eq_true rfl) (Nat.le_of_ble_eq_true rfl) (fun _ => rfl) (fun _ => rfl) (fun r6 => ?_)
      exact A_retI rfl dX8_as_23

abbrev mX8_spotOf : MD := (yX8_spotOf, cX8_spotOf, 4, (some .int), { frames := 0, cells := 0, slots := 0, locals := 0 }, none)
theorem kD_X8_spotOf : CodeIn mX8_spotOf 1 := ⟨kC_X8_spotOf, by decide +kernel⟩
def fL_X8_spotOf_12 (h : Hp) (c2 : Int32 → Int32 → Option Int32) : Nat → Int32 → Int32 → Int32 → Option Int32
  | 0, _, _, _ => none
  | n + 1, x1, x2, x3 => (if 0 ≤ x2 ∧ x2 < 4 then (if (gI h 43 0 (Int32.toNatClampNeg x2)) ≤ x3 then (c2 x1 (x2 + 1)) else (if 0 ≤ (((6 : Int32) * x2) + x3) ∧ (((6 : Int32) * x2) + x3) < 24 then (if (gI h 44 0 (Int32.toNatClampNeg (((6 : Int32) * x2) + x3))) = x1 then (some (((6 : Int32) * x2) + x3)) else ((fL_X8_spotOf_12 h c2 n) x1 x2 (x3 + 1))) else none)) else none)
set_option maxRecDepth 100000 in
set_option maxHeartbeats 4000000 in
theorem aL_X8_spotOf_12 (h : Hp) (c2 : Int32 → Int32 → Option Int32) (hc2 : ∀ (x1 : Int32) (x2 : Int32), Aw (eIr h) U0 mX8_spotOf (0, 0) U0 2 [some (vr 8 (some 0)), some (vi x1), some (vi x2), none] [] h (c2 x1 x2)) : ∀ (n : Nat) (x1 : Int32) (x2 : Int32) (x3 : Int32), Aw (eIr h) U0 mX8_spotOf (0, 0) U0 12 [some (vr 8 (some 0)), some (vi x1), some (vi x2), some (vi x3)] [] h (fL_X8_spotOf_12 h c2 n x1 x2 x3) := by
  intro n
  induction n with
  | zero =>
    intro x1 x2 x3
    exact Aw.none
  | succ n ih =>
    intro x1 x2 x3
    show Aw _ _ _ _ _ _ _ _ _ (fL_X8_spotOf_12 h c2 (n + 1) x1 x2 x3)
    unfold fL_X8_spotOf_12
    refine A_iload_n (pc := 12) (i := 3) dX8_spotOf_12 rfl rfl ?_
    refine A_aload_n (pc := 13) (i := 0) dX8_spotOf_13 rfl rfl ?_
    refine A_getS (pc := 14) (k := 17) (tp := 43) clX8 (Nat.le_of_ble_eq_true rfl) dX8_spotOf_14 kF_X8_50 rfl rfl rfl ?_
    refine A_iload_n (pc := 17) (i := 2) dX8_spotOf_17 rfl rfl ?_
    refine A_iaload (pc := 18) (n := 4) (by decide) (by decide) rfl dX8_spotOf_18 (by decide) ?_
    refine A_icmp_ge (pc := 19) (tgt := 50) dX8_spotOf_19 (by decide) ?_ ?_
    · refine A_iinc (pc := 50) (i := 2) (v := (x2 + 1)) (ls2 := [some (vr 8 (some 0)), some (vi x1), some (vi (x2 + 1)), some (vi x3)]) dX8_spotOf_50 rfl rfl (Nat.le_of_ble_eq_true rfl) rfl ?_
      refine A_goto (pc := 53) (tgt := 2) dX8_spotOf_53 (by decide) ?_
      exact Aw.weak (ls' := [some (vr 8 (some 0)), some (vi x1), some (vi (x2 + 1)), none]) ⟨rfl, ⟨rfl, ⟨rfl, trivial⟩⟩⟩ (hc2 x1 (x2 + 1))
    · refine A_aload_n (pc := 22) (i := 0) dX8_spotOf_22 rfl rfl ?_
      refine A_getS (pc := 23) (k := 18) (tp := 44) clX8 (Nat.le_of_ble_eq_true rfl) dX8_spotOf_23 kF_X8_53 rfl rfl rfl ?_
      refine A_bipush (pc := 26) (v := (6 : Int32)) dX8_spotOf_26 (by decide) ?_
      refine A_iload_n (pc := 28) (i := 2) dX8_spotOf_28 rfl rfl ?_
      refine A_imul (pc := 29) dX8_spotOf_29 ?_
      refine A_iload_n (pc := 30) (i := 3) dX8_spotOf_30 rfl rfl ?_
      refine A_iadd (pc := 31) dX8_spotOf_31 ?_
      refine A_iaload (pc := 32) (n := 24) (by decide) (by decide) rfl dX8_spotOf_32 (by decide) ?_
      refine A_iload_n (pc := 33) (i := 1) dX8_spotOf_33 rfl rfl ?_
      refine A_icmp_ne (pc := 34) (tgt := 44) dX8_spotOf_34 (by decide) ?_ ?_
      · refine A_iinc (pc := 44) (i := 3) (v := (x3 + 1)) (ls2 := [some (vr 8 (some 0)), some (vi x1), some (vi x2), some (vi (x3 + 1))]) dX8_spotOf_44 rfl rfl (Nat.le_of_ble_eq_true rfl) rfl ?_
        refine A_goto (pc := 47) (tgt := 12) dX8_spotOf_47 (by decide) ?_
        exact Aw.weak (ls' := [some (vr 8 (some 0)), some (vi x1), some (vi x2), some (vi (x3 + 1))]) ⟨rfl, ⟨rfl, ⟨rfl, ⟨rfl, trivial⟩⟩⟩⟩ (ih x1 x2 (x3 + 1))
      · refine A_bipush (pc := 37) (v := (6 : Int32)) dX8_spotOf_37 (by decide) ?_
        refine A_iload_n (pc := 39) (i := 2) dX8_spotOf_39 rfl rfl ?_
        refine A_imul (pc := 40) dX8_spotOf_40 ?_
        refine A_iload_n (pc := 41) (i := 3) dX8_spotOf_41 rfl rfl ?_
        refine A_iadd (pc := 42) dX8_spotOf_42 ?_
        exact A_retIr rfl dX8_spotOf_43
def fL_X8_spotOf_2 (h : Hp) : Nat → Int32 → Int32 → Option Int32
  | 0, _, _ => none
  | n + 1, x1, x2 => (if (gI h 8 0 0) ≤ x2 then (some (-1 : Int32)) else (fL_X8_spotOf_12 h (fL_X8_spotOf_2 h n) FU x1 x2 (0 : Int32)))
set_option maxRecDepth 100000 in
set_option maxHeartbeats 4000000 in
theorem aL_X8_spotOf_2 (h : Hp) : ∀ (n : Nat) (x1 : Int32) (x2 : Int32), Aw (eIr h) U0 mX8_spotOf (0, 0) U0 2 [some (vr 8 (some 0)), some (vi x1), some (vi x2), none] [] h (fL_X8_spotOf_2 h n x1 x2) := by
  intro n
  induction n with
  | zero =>
    intro x1 x2
    exact Aw.none
  | succ n ih =>
    intro x1 x2
    show Aw _ _ _ _ _ _ _ _ _ (fL_X8_spotOf_2 h (n + 1) x1 x2)
    unfold fL_X8_spotOf_2
    refine A_iload_n (pc := 2) (i := 2) dX8_spotOf_2 rfl rfl ?_
    refine A_aload_n (pc := 3) (i := 0) dX8_spotOf_3 rfl rfl ?_
    refine A_getI (pc := 4) (k := 0) clX8 (Nat.le_of_ble_eq_true rfl) dX8_spotOf_4 kF_X8_115 rfl ?_
    refine A_icmp_ge (pc := 7) (tgt := 56) dX8_spotOf_7 (by decide) ?_ ?_
    · refine A_iconst (pc := 56) (v := (-1 : Int32)) dX8_spotOf_56 (by decide) ?_
      exact A_retIr rfl dX8_spotOf_57
    · refine A_iconst (pc := 10) (v := (0 : Int32)) dX8_spotOf_10 (by decide) ?_
      refine A_istore_n (pc := 11) (i := 3) (ls2 := [some (vr 8 (some 0)), some (vi x1), some (vi x2), some (vi (0 : Int32))]) dX8_spotOf_11 rfl (Nat.le_of_ble_eq_true rfl) rfl ?_
      exact Aw.weak (ls' := [some (vr 8 (some 0)), some (vi x1), some (vi x2), some (vi (0 : Int32))]) ⟨rfl, ⟨rfl, ⟨rfl, ⟨rfl, trivial⟩⟩⟩⟩ (aL_X8_spotOf_12 h (fL_X8_spotOf_2 h n) ih FU x1 x2 (0 : Int32))
def f_X8_spotOf (x1 : Int32) (h : Hp) : Option Int32 := (fL_X8_spotOf_2 h FU x1 (0 : Int32))
set_option maxRecDepth 100000 in
set_option maxHeartbeats 4000000 in
theorem a_X8_spotOf (x1 : Int32) (h : Hp) : CtA (eIr h) mX8_spotOf U0 U0 [vr 8 (some 0), vi x1] h (f_X8_spotOf x1 h) := by
  refine Ct.of (ls := [some (vr 8 (some 0)), some (vi x1), none, none]) (n := 2) (by decide +kernel) rfl rfl rfl ?_
  unfold f_X8_spotOf
  refine A_iconst (pc := 0) (v := (0 : Int32)) dX8_spotOf_0 (by decide) ?_
  refine A_istore_n (pc := 1) (i := 2) (ls2 := [some (vr 8 (some 0)), some (vi x1), some (vi (0 : Int32)), none]) dX8_spotOf_1 rfl (Nat.le_of_ble_eq_true rfl) rfl ?_
  exact Aw.weak (ls' := [some (vr 8 (some 0)), some (vi x1), some (vi (0 : Int32)), none]) ⟨rfl, ⟨rfl, ⟨rfl, trivial⟩⟩⟩ (aL_X8_spotOf_2 h FU x1 (0 : Int32))

abbrev mX8_of : MD := (yX8_of, cX8_of, 4, (some .int), { frames := 2, cells := 0, slots := 0, locals := 43 }, none)
theorem kD_X8_of : CodeIn mX8_of 2 := ⟨kC_X8_of, by decide +kernel⟩
def f_X8_of (x1 : Int32) (x2 : Int32) (h : Hp) : Option (Int32 × Hp) := ((f_X8_isBoat x1 h).bind fun r1 => (if r1 = true then ((f_X8_spotOf x1 h).bind fun r2 => (nif x2 0 [(if 0 ≤ x1 ∧ x1 < 8 then (some ((gI h 34 0 (Int32.toNatClampNeg x1)), h)) else none), (if 0 ≤ x1 ∧ x1 < 8 then (some ((gI h 35 0 (Int32.toNatClampNeg x1)), h)) else none), (if 0 ≤ x1 ∧ x1 < 8 then (some ((gI h 36 0 (Int32.toNatClampNeg x1)), h)) else none), (if 0 ≤ x1 ∧ x1 < 8 then (if (gI h 37 0 (Int32.toNatClampNeg x1)) = 0 then (some ((0 : Int32), h)) else (some ((1 : Int32), h))) else none), (if 0 ≤ x1 ∧ x1 < 8 then (some ((gI h 38 0 (Int32.toNatClampNeg x1)), h)) else none), (if 0 ≤ x1 ∧ x1 < 8 then (some ((gI h 39 0 (Int32.toNatClampNeg x1)), h)) else none), (if 0 ≤ x1 ∧ x1 < 8 then (some ((gI h 40 0 (Int32.toNatClampNeg x1)), h)) else none), (if 0 ≤ r2 then (some ((r2 / (6 : Int32)), h)) else (some ((-1 : Int32), h))), (if 0 ≤ r2 then (some ((r2 - r2 / (6 : Int32) * (6 : Int32)), h)) else (some ((-1 : Int32), h))), (if 0 ≤ x1 ∧ x1 < 8 then (some ((gI h 41 0 (Int32.toNatClampNeg x1)), h)) else none), (if 0 ≤ x1 ∧ x1 < 8 then (some ((gI h 42 0 (Int32.toNatClampNeg x1)), h)) else none)] ((f_X8_finding (-1000001 : Int32) h).bind fun r3 => (some (r3.1, r3.2))))) else ((f_X8_finding (-1000001 : Int32) h).bind fun r4 => (some (r4.1, r4.2)))))
set_option maxRecDepth 100000 in
set_option maxHeartbeats 4000000 in
theorem a_X8_of (x1 : Int32) (x2 : Int32) (h : Hp) : CtA eI mX8_of U0 U0 [vr 8 (some 0), vi x1, vi x2] h (f_X8_of x1 x2 h) := by
  refine Ct.of (ls := [some (vr 8 (some 0)), some (vi x1), some (vi x2), none]) (n := 1) (by decide +kernel) rfl rfl rfl ?_
  unfold f_X8_of
  refine A_aload_n (pc := 0) (i := 0) dX8_of_0 rfl rfl ?_
  refine A_iload_n (pc := 1) (i := 1) dX8_of_1 rfl rfl ?_
  refine A_callV (pc := 2) (M' := mX8_isBoat) (As := [vi x1]) (st := []) (0, 0) (fun r1 => [vi (bi r1)]) (fun _ => h) (a_X8_isBoat x1 h) kD_X8_isBoat kM_X8_131 kI_X8_isBoat kS_X8_isBoat kN_X8 ⟨(Nat.le_of_ble_eq_true rfl), (Nat.le_of_ble_eq_true rfl)⟩ dX8_of_2 rfl rfl rfl (by decide) rfl (Nat.le_of_ble_eq_true rfl) (Nat.le_of_ble_eq_true rfl) (Nat.le_of_ble_eq_true rfl) (fun _ => rfl) (fun _ => rfl) (fun r1 => ?_)
  refine A_ifb_ne (pc := 5) (tgt := 15) dX8_of_5 (by decide) ?_ ?_
  · refine A_aload_n (pc := 15) (i := 0) dX8_of_15 rfl rfl ?_
    refine A_iload_n (pc := 16) (i := 1) dX8_of_16 rfl rfl ?_
    refine A_callV (pc := 17) (M' := mX8_spotOf) (As := [vi x1]) (st := []) (0, 0) (fun r2 => [vi r2]) (fun _ => h) (a_X8_spotOf x1 h) kD_X8_spotOf kM_X8_146 kI_X8_spotOf kS_X8_spotOf kN_X8 ⟨(Nat.le_of_ble_eq_true rfl), (Nat.le_of_ble_eq_true rfl)⟩ dX8_of_17 rfl rfl rfl (by decide) rfl (Nat.le_of_ble_eq_true rfl) (Nat.le_of_ble_eq_true rfl) (Nat.le_of_ble_eq_true rfl) (fun _ => rfl) (fun _ => rfl) (fun r2 => ?_)
    refine A_istore_n (pc := 20) (i := 3) (ls2 := [some (vr 8 (some 0)), some (vi x1), some (vi x2), some (vi r2)]) dX8_of_20 rfl (Nat.le_of_ble_eq_true rfl) rfl ?_
    refine A_iload_n (pc := 21) (i := 2) dX8_of_21 rfl rfl ?_
    refine A_table (pc := 22) (tgt := 177) dX8_of_22 (by simp) (by simp) (by decide) ?_ (AwL_c 80 (by decide) ?_ (AwL_c 87 (by decide) ?_ (AwL_c 94 (by decide) ?_ (AwL_c 101 (by decide) ?_ (AwL_c 116 (by decide) ?_ (AwL_c 123 (by decide) ?_ (AwL_c 130 (by decide) ?_ (AwL_c 137 (by decide) ?_ (AwL_c 150 (by decide) ?_ (AwL_c 163 (by decide) ?_ (AwL_c 170 (by decide) ?_ AwL_n)))))))))))
    · refine A_aload_n (pc := 177) (i := 0) dX8_of_177 rfl rfl ?_
      refine A_ldc (pc := 178) (v := (-1000001 : Int32)) dX8_of_178 kK_X8_125 ?_
      refine A_callV (pc := 180) (M' := mX8_finding) (As := [vi (-1000001 : Int32)]) (st := []) (0, 0) (fun r3 => [vi r3.1]) (fun r3 => r3.2) (a_X8_finding (-1000001 : Int32) h) kD_X8_finding kM_X8_126 kI_X8_finding kS_X8_finding kN_X8 ⟨(Nat.le_of_ble_eq_true rfl), (Nat.le_of_ble_eq_true rfl)⟩ dX8_of_180 rfl rfl rfl (by decide) rfl (Nat.le_of_ble_eq_true rfl) (Nat.le_of_ble_eq_true rfl) (Nat.le_of_ble_eq_true rfl) (fun _ => rfl) (fun _ => rfl) (fun r3 => ?_)
      exact A_retI rfl dX8_of_183
    · refine A_aload_n (pc := 80) (i := 0) dX8_of_80 rfl rfl ?_
      refine A_getS (pc := 81) (k := 7) (tp := 34) clX8 (Nat.le_of_ble_eq_true rfl) dX8_of_81 kF_X8_22 rfl rfl rfl ?_
      refine A_iload_n (pc := 84) (i := 1) dX8_of_84 rfl rfl ?_
      refine A_iaload (pc := 85) (n := 8) (by decide) (by decide) rfl dX8_of_85 (by decide) ?_
      exact A_retI rfl dX8_of_86
    · refine A_aload_n (pc := 87) (i := 0) dX8_of_87 rfl rfl ?_
      refine A_getS (pc := 88) (k := 8) (tp := 35) clX8 (Nat.le_of_ble_eq_true rfl) dX8_of_88 kF_X8_25 rfl rfl rfl ?_
      refine A_iload_n (pc := 91) (i := 1) dX8_of_91 rfl rfl ?_
      refine A_iaload (pc := 92) (n := 8) (by decide) (by decide) rfl dX8_of_92 (by decide) ?_
      exact A_retI rfl dX8_of_93
    · refine A_aload_n (pc := 94) (i := 0) dX8_of_94 rfl rfl ?_
      refine A_getS (pc := 95) (k := 9) (tp := 36) clX8 (Nat.le_of_ble_eq_true rfl) dX8_of_95 kF_X8_28 rfl rfl rfl ?_
      refine A_iload_n (pc := 98) (i := 1) dX8_of_98 rfl rfl ?_
      refine A_iaload (pc := 99) (n := 8) (by decide) (by decide) rfl dX8_of_99 (by decide) ?_
      exact A_retI rfl dX8_of_100
    · refine A_aload_n (pc := 101) (i := 0) dX8_of_101 rfl rfl ?_
      refine A_getS (pc := 102) (k := 10) (tp := 37) clX8 (Nat.le_of_ble_eq_true rfl) dX8_of_102 kF_X8_31 rfl rfl rfl ?_
      refine A_iload_n (pc := 105) (i := 1) dX8_of_105 rfl rfl ?_
      refine A_baload (pc := 106) (n := 8) (by decide) (by decide) (Or.inr rfl) dX8_of_106 (by decide) ?_
      refine A_if_eq (pc := 107) (tgt := 114) dX8_of_107 (by decide) ?_ ?_
      · refine A_iconst (pc := 114) (v := (0 : Int32)) dX8_of_114 (by decide) ?_
        exact A_retI rfl dX8_of_115
      · refine A_iconst (pc := 110) (v := (1 : Int32)) dX8_of_110 (by decide) ?_
        refine A_goto (pc := 111) (tgt := 115) dX8_of_111 (by decide) ?_
        exact A_retI rfl dX8_of_115
    · refine A_aload_n (pc := 116) (i := 0) dX8_of_116 rfl rfl ?_
      refine A_getS (pc := 117) (k := 11) (tp := 38) clX8 (Nat.le_of_ble_eq_true rfl) dX8_of_117 kF_X8_35 rfl rfl rfl ?_
      refine A_iload_n (pc := 120) (i := 1) dX8_of_120 rfl rfl ?_
      refine A_iaload (pc := 121) (n := 8) (by decide) (by decide) rfl dX8_of_121 (by decide) ?_
      exact A_retI rfl dX8_of_122
    · refine A_aload_n (pc := 123) (i := 0) dX8_of_123 rfl rfl ?_
      refine A_getS (pc := 124) (k := 12) (tp := 39) clX8 (Nat.le_of_ble_eq_true rfl) dX8_of_124 kF_X8_38 rfl rfl rfl ?_
      refine A_iload_n (pc := 127) (i := 1) dX8_of_127 rfl rfl ?_
      refine A_iaload (pc := 128) (n := 8) (by decide) (by decide) rfl dX8_of_128 (by decide) ?_
      exact A_retI rfl dX8_of_129
    · refine A_aload_n (pc := 130) (i := 0) dX8_of_130 rfl rfl ?_
      refine A_getS (pc := 131) (k := 13) (tp := 40) clX8 (Nat.le_of_ble_eq_true rfl) dX8_of_131 kF_X8_41 rfl rfl rfl ?_
      refine A_iload_n (pc := 134) (i := 1) dX8_of_134 rfl rfl ?_
      refine A_iaload (pc := 135) (n := 8) (by decide) (by decide) rfl dX8_of_135 (by decide) ?_
      exact A_retI rfl dX8_of_136
    · refine A_iload_n (pc := 137) (i := 3) dX8_of_137 rfl rfl ?_
      refine A_if_ge (pc := 138) (tgt := 145) dX8_of_138 (by decide) ?_ ?_
      · refine A_iload_n (pc := 145) (i := 3) dX8_of_145 rfl rfl ?_
        refine A_bipush (pc := 146) (v := (6 : Int32)) dX8_of_146 (by decide) ?_
        refine A_idiv (pc := 148) dX8_of_148 (by decide) ?_
        exact A_retI rfl dX8_of_149
      · refine A_iconst (pc := 141) (v := (-1 : Int32)) dX8_of_141 (by decide) ?_
        refine A_goto (pc := 142) (tgt := 149) dX8_of_142 (by decide) ?_
        exact A_retI rfl dX8_of_149
    · refine A_iload_n (pc := 150) (i := 3) dX8_of_150 rfl rfl ?_
      refine A_if_ge (pc := 151) (tgt := 158) dX8_of_151 (by decide) ?_ ?_
      · refine A_iload_n (pc := 158) (i := 3) dX8_of_158 rfl rfl ?_
        refine A_bipush (pc := 159) (v := (6 : Int32)) dX8_of_159 (by decide) ?_
        refine A_irem (pc := 161) dX8_of_161 (by decide) ?_
        exact A_retI rfl dX8_of_162
      · refine A_iconst (pc := 154) (v := (-1 : Int32)) dX8_of_154 (by decide) ?_
        refine A_goto (pc := 155) (tgt := 162) dX8_of_155 (by decide) ?_
        exact A_retI rfl dX8_of_162
    · refine A_aload_n (pc := 163) (i := 0) dX8_of_163 rfl rfl ?_
      refine A_getS (pc := 164) (k := 14) (tp := 41) clX8 (Nat.le_of_ble_eq_true rfl) dX8_of_164 kF_X8_44 rfl rfl rfl ?_
      refine A_iload_n (pc := 167) (i := 1) dX8_of_167 rfl rfl ?_
      refine A_iaload (pc := 168) (n := 8) (by decide) (by decide) rfl dX8_of_168 (by decide) ?_
      exact A_retI rfl dX8_of_169
    · refine A_aload_n (pc := 170) (i := 0) dX8_of_170 rfl rfl ?_
      refine A_getS (pc := 171) (k := 15) (tp := 42) clX8 (Nat.le_of_ble_eq_true rfl) dX8_of_171 kF_X8_47 rfl rfl rfl ?_
      refine A_iload_n (pc := 174) (i := 1) dX8_of_174 rfl rfl ?_
      refine A_iaload (pc := 175) (n := 8) (by decide) (by decide) rfl dX8_of_175 (by decide) ?_
      exact A_retI rfl dX8_of_176
  · refine A_aload_n (pc := 8) (i := 0) dX8_of_8 rfl rfl ?_
    refine A_ldc (pc := 9) (v := (-1000001 : Int32)) dX8_of_9 kK_X8_125 ?_
    refine A_callV (pc := 11) (M' := mX8_finding) (As := [vi (-1000001 : Int32)]) (st := []) (0, 0) (fun r4 => [vi r4.1]) (fun r4 => r4.2) (a_X8_finding (-1000001 : Int32) h) kD_X8_finding kM_X8_126 kI_X8_finding kS_X8_finding kN_X8 ⟨(Nat.le_of_ble_eq_true rfl), (Nat.le_of_ble_eq_true rfl)⟩ dX8_of_11 rfl rfl rfl (by decide) rfl (Nat.le_of_ble_eq_true rfl) (Nat.le_of_ble_eq_true rfl) (Nat.le_of_ble_eq_true rfl) (fun _ => rfl) (fun _ => rfl) (fun r4 => ?_)
    exact A_retI rfl dX8_of_14

abbrev mX8_at : MD := (yX8_at, cX8_at, 3, (some .int), { frames := 2, cells := 0, slots := 0, locals := 43 }, none)
theorem kD_X8_at : CodeIn mX8_at 2 := ⟨kC_X8_at, by decide +kernel⟩
def f_X8_at (x1 : Int32) (x2 : Int32) (h : Hp) : Option (Int32 × Hp) := ((f_X8_isBerth x1 h).bind fun r1 => (if r1 = true then ((f_X8_within x2 (0 : Int32) (5 : Int32) h).bind fun r3 => (if r3 = true then (if 0 ≤ x1 ∧ x1 < 4 then (if (gI h 43 0 (Int32.toNatClampNeg x1)) ≤ x2 then (some ((-1 : Int32), h)) else (if 0 ≤ (((6 : Int32) * x1) + x2) ∧ (((6 : Int32) * x1) + x2) < 24 then (some ((gI h 44 0 (Int32.toNatClampNeg (((6 : Int32) * x1) + x2))), h)) else none)) else none) else ((f_X8_finding (-1000001 : Int32) h).bind fun r4 => (some (r4.1, r4.2))))) else ((f_X8_finding (-1000001 : Int32) h).bind fun r2 => (some (r2.1, r2.2)))))
set_option maxRecDepth 100000 in
set_option maxHeartbeats 4000000 in
theorem a_X8_at (x1 : Int32) (x2 : Int32) (h : Hp) : CtA eI mX8_at U0 U0 [vr 8 (some 0), vi x1, vi x2] h (f_X8_at x1 x2 h) := by
  refine Ct.of (ls := [some (vr 8 (some 0)), some (vi x1), some (vi x2)]) (n := 0) (by decide +kernel) rfl rfl rfl ?_
  unfold f_X8_at
  refine A_aload_n (pc := 0) (i := 0) dX8_at_0 rfl rfl ?_
  refine A_iload_n (pc := 1) (i := 1) dX8_at_1 rfl rfl ?_
  refine A_callV (pc := 2) (M' := mX8_isBerth) (As := [vi x1]) (st := []) (0, 0) (fun r1 => [vi (bi r1)]) (fun _ => h) (a_X8_isBerth x1 h) kD_X8_isBerth kM_X8_149 kI_X8_isBerth kS_X8_isBerth kN_X8 ⟨(Nat.le_of_ble_eq_true rfl), (Nat.le_of_ble_eq_true rfl)⟩ dX8_at_2 rfl rfl rfl (by decide) rfl (Nat.le_of_ble_eq_true rfl) (Nat.le_of_ble_eq_true rfl) (Nat.le_of_ble_eq_true rfl) (fun _ => rfl) (fun _ => rfl) (fun r1 => ?_)
  refine A_ifb_eq (pc := 5) (tgt := 17) dX8_at_5 (by decide) ?_ ?_
  · refine A_aload_n (pc := 17) (i := 0) dX8_at_17 rfl rfl ?_
    refine A_ldc (pc := 18) (v := (-1000001 : Int32)) dX8_at_18 kK_X8_125 ?_
    refine A_callV (pc := 20) (M' := mX8_finding) (As := [vi (-1000001 : Int32)]) (st := []) (0, 0) (fun r2 => [vi r2.1]) (fun r2 => r2.2) (a_X8_finding (-1000001 : Int32) h) kD_X8_finding kM_X8_126 kI_X8_finding kS_X8_finding kN_X8 ⟨(Nat.le_of_ble_eq_true rfl), (Nat.le_of_ble_eq_true rfl)⟩ dX8_at_20 rfl rfl rfl (by decide) rfl (Nat.le_of_ble_eq_true rfl) (Nat.le_of_ble_eq_true rfl) (Nat.le_of_ble_eq_true rfl) (fun _ => rfl) (fun _ => rfl) (fun r2 => ?_)
    exact A_retI rfl dX8_at_23
  · refine A_iload_n (pc := 8) (i := 2) dX8_at_8 rfl rfl ?_
    refine A_iconst (pc := 9) (v := (0 : Int32)) dX8_at_9 (by decide) ?_
    refine A_iconst (pc := 10) (v := (5 : Int32)) dX8_at_10 (by decide) ?_
    refine A_callS (pc := 11) (M' := mX8_within) (As := [vi x2, vi (0 : Int32), vi (5 : Int32)]) (st := []) (0, 0) (fun r3 => [vi (bi r3)]) (fun _ => h) (a_X8_within x2 (0 : Int32) (5 : Int32) h) kD_X8_within kM_X8_118 kT_X8_within kN_X8 ⟨(Nat.le_of_ble_eq_true rfl), (Nat.le_of_ble_eq_true rfl)⟩ dX8_at_11 rfl rfl (Nat.le_of_ble_eq_true rfl) (Nat.le_of_ble_eq_true rfl) (Nat.le_of_ble_eq_true rfl) (fun _ => rfl) (fun _ => rfl) (fun r3 => ?_)
    refine A_ifb_ne (pc := 14) (tgt := 24) dX8_at_14 (by decide) ?_ ?_
    · refine A_iload_n (pc := 24) (i := 2) dX8_at_24 rfl rfl ?_
      refine A_aload_n (pc := 25) (i := 0) dX8_at_25 rfl rfl ?_
      refine A_getS (pc := 26) (k := 17) (tp := 43) clX8 (Nat.le_of_ble_eq_true rfl) dX8_at_26 kF_X8_50 rfl rfl rfl ?_
      refine A_iload_n (pc := 29) (i := 1) dX8_at_29 rfl rfl ?_
      refine A_iaload (pc := 30) (n := 4) (by decide) (by decide) rfl dX8_at_30 (by decide) ?_
      refine A_icmp_ge (pc := 31) (tgt := 48) dX8_at_31 (by decide) ?_ ?_
      · refine A_iconst (pc := 48) (v := (-1 : Int32)) dX8_at_48 (by decide) ?_
        exact A_retI rfl dX8_at_49
      · refine A_aload_n (pc := 34) (i := 0) dX8_at_34 rfl rfl ?_
        refine A_getS (pc := 35) (k := 18) (tp := 44) clX8 (Nat.le_of_ble_eq_true rfl) dX8_at_35 kF_X8_53 rfl rfl rfl ?_
        refine A_bipush (pc := 38) (v := (6 : Int32)) dX8_at_38 (by decide) ?_
        refine A_iload_n (pc := 40) (i := 1) dX8_at_40 rfl rfl ?_
        refine A_imul (pc := 41) dX8_at_41 ?_
        refine A_iload_n (pc := 42) (i := 2) dX8_at_42 rfl rfl ?_
        refine A_iadd (pc := 43) dX8_at_43 ?_
        refine A_iaload (pc := 44) (n := 24) (by decide) (by decide) rfl dX8_at_44 (by decide) ?_
        refine A_goto (pc := 45) (tgt := 49) dX8_at_45 (by decide) ?_
        exact A_retI rfl dX8_at_49
    · refine A_aload_n (pc := 17) (i := 0) dX8_at_17 rfl rfl ?_
      refine A_ldc (pc := 18) (v := (-1000001 : Int32)) dX8_at_18 kK_X8_125 ?_
      refine A_callV (pc := 20) (M' := mX8_finding) (As := [vi (-1000001 : Int32)]) (st := []) (0, 0) (fun r4 => [vi r4.1]) (fun r4 => r4.2) (a_X8_finding (-1000001 : Int32) h) kD_X8_finding kM_X8_126 kI_X8_finding kS_X8_finding kN_X8 ⟨(Nat.le_of_ble_eq_true rfl), (Nat.le_of_ble_eq_true rfl)⟩ dX8_at_20 rfl rfl rfl (by decide) rfl (Nat.le_of_ble_eq_true rfl) (Nat.le_of_ble_eq_true rfl) (Nat.le_of_ble_eq_true rfl) (fun _ => rfl) (fun _ => rfl) (fun r4 => ?_)
      exact A_retI rfl dX8_at_23

abbrev mX8_whyNot : MD := (yX8_whyNot, cX8_whyNot, 6, (some .int), { frames := 1, cells := 0, slots := 0, locals := 21 }, none)
theorem kD_X8_whyNot : CodeIn mX8_whyNot 4 := ⟨kC_X8_whyNot, by decide +kernel⟩
def fJ_X8_whyNot_140 (h : Hp) (x1 : Int32) (x4 : Int32) : Option Int32 := (if 0 ≤ x1 ∧ x1 < 8 then (if (gI h 34 0 (Int32.toNatClampNeg x1)) = (3 : Int32) then (if 0 ≤ x4 ∧ x4 < 8 then (if (gI h 34 0 (Int32.toNatClampNeg x4)) = (3 : Int32) then (some (0 : Int32)) else (some (6 : Int32))) else none) else (some (0 : Int32))) else none)
set_option maxRecDepth 100000 in
set_option maxHeartbeats 4000000 in
theorem aJ_X8_whyNot_140 (h : Hp) (x1 : Int32) (x4 : Int32) : Aw (eIr h) U0 mX8_whyNot (0, 0) U0 140 [some (vr 8 (some 0)), some (vi x1), none, none, some (vi x4), none] [] h (fJ_X8_whyNot_140 h x1 x4) := by
  unfold fJ_X8_whyNot_140
  refine A_aload_n (pc := 140) (i := 0) dX8_whyNot_140 rfl rfl ?_
  refine A_getS (pc := 141) (k := 7) (tp := 34) clX8 (Nat.le_of_ble_eq_true rfl) dX8_whyNot_141 kF_X8_22 rfl rfl rfl ?_
  refine A_iload_n (pc := 144) (i := 1) dX8_whyNot_144 rfl rfl ?_
  refine A_iaload (pc := 145) (n := 8) (by decide) (by decide) rfl dX8_whyNot_145 (by decide) ?_
  refine A_iconst (pc := 146) (v := (3 : Int32)) dX8_whyNot_146 (by decide) ?_
  refine A_icmp_ne (pc := 147) (tgt := 166) dX8_whyNot_147 (by decide) ?_ ?_
  · refine A_iconst (pc := 166) (v := (0 : Int32)) dX8_whyNot_166 (by decide) ?_
    exact A_retIr rfl dX8_whyNot_167
  · refine A_aload_n (pc := 150) (i := 0) dX8_whyNot_150 rfl rfl ?_
    refine A_getS (pc := 151) (k := 7) (tp := 34) clX8 (Nat.le_of_ble_eq_true rfl) dX8_whyNot_151 kF_X8_22 rfl rfl rfl ?_
    refine A_iload (pc := 154) (i := 4) dX8_whyNot_154 rfl ?_
    refine A_iaload (pc := 156) (n := 8) (by decide) (by decide) rfl dX8_whyNot_156 (by decide) ?_
    refine A_iconst (pc := 157) (v := (3 : Int32)) dX8_whyNot_157 (by decide) ?_
    refine A_icmp_eq (pc := 158) (tgt := 166) dX8_whyNot_158 (by decide) ?_ ?_
    · refine A_iconst (pc := 166) (v := (0 : Int32)) dX8_whyNot_166 (by decide) ?_
      exact A_retIr rfl dX8_whyNot_167
    · refine A_bipush (pc := 161) (v := (6 : Int32)) dX8_whyNot_161 (by decide) ?_
      refine A_goto (pc := 163) (tgt := 167) dX8_whyNot_163 (by decide) ?_
      exact A_retIr rfl dX8_whyNot_167
def fJ_X8_whyNot_110 (h : Hp) (x1 : Int32) (x4 : Int32) (xs0 : Int32) : Option Int32 := (if xs0 = 0 then (if 0 ≤ x1 ∧ x1 < 8 then (if 0 ≤ x4 ∧ x4 < 8 then (if (gI h 35 0 (Int32.toNatClampNeg x1)) ≤ ((gI h 35 0 (Int32.toNatClampNeg x4)) + (gI h 8 0 5)) then (fJ_X8_whyNot_140 h x1 x4) else (some (5 : Int32))) else none) else none) else (fJ_X8_whyNot_140 h x1 x4))
set_option maxRecDepth 100000 in
set_option maxHeartbeats 4000000 in
theorem aJ_X8_whyNot_110 (h : Hp) (x1 : Int32) (x4 : Int32) (xs0 : Int32) : Aw (eIr h) U0 mX8_whyNot (0, 0) U0 110 [some (vr 8 (some 0)), some (vi x1), none, none, some (vi x4), none] [vi xs0] h (fJ_X8_whyNot_110 h x1 x4 xs0) := by
  unfold fJ_X8_whyNot_110
  refine A_istore (pc := 110) (i := 5) (ls2 := [some (vr 8 (some 0)), some (vi x1), none, none, some (vi x4), some (vi xs0)]) dX8_whyNot_110 (Nat.le_of_ble_eq_true rfl) rfl ?_
  refine A_iload (pc := 112) (i := 5) dX8_whyNot_112 rfl ?_
  refine A_if_ne (pc := 114) (tgt := 140) dX8_whyNot_114 (by decide) ?_ ?_
  · exact Aw.weak (ls' := [some (vr 8 (some 0)), some (vi x1), none, none, some (vi x4), none]) ⟨rfl, ⟨rfl, ⟨rfl, trivial⟩⟩⟩ (aJ_X8_whyNot_140 h x1 x4)
  · refine A_aload_n (pc := 117) (i := 0) dX8_whyNot_117 rfl rfl ?_
    refine A_getS (pc := 118) (k := 8) (tp := 35) clX8 (Nat.le_of_ble_eq_true rfl) dX8_whyNot_118 kF_X8_25 rfl rfl rfl ?_
    refine A_iload_n (pc := 121) (i := 1) dX8_whyNot_121 rfl rfl ?_
    refine A_iaload (pc := 122) (n := 8) (by decide) (by decide) rfl dX8_whyNot_122 (by decide) ?_
    refine A_aload_n (pc := 123) (i := 0) dX8_whyNot_123 rfl rfl ?_
    refine A_getS (pc := 124) (k := 8) (tp := 35) clX8 (Nat.le_of_ble_eq_true rfl) dX8_whyNot_124 kF_X8_25 rfl rfl rfl ?_
    refine A_iload (pc := 127) (i := 4) dX8_whyNot_127 rfl ?_
    refine A_iaload (pc := 129) (n := 8) (by decide) (by decide) rfl dX8_whyNot_129 (by decide) ?_
    refine A_aload_n (pc := 130) (i := 0) dX8_whyNot_130 rfl rfl ?_
    refine A_getI (pc := 131) (k := 5) clX8 (Nat.le_of_ble_eq_true rfl) dX8_whyNot_131 kF_X8_138 rfl ?_
    refine A_iadd (pc := 134) dX8_whyNot_134 ?_
    refine A_icmp_le (pc := 135) (tgt := 140) dX8_whyNot_135 (by decide) ?_ ?_
    · exact Aw.weak (ls' := [some (vr 8 (some 0)), some (vi x1), none, none, some (vi x4), none]) ⟨rfl, ⟨rfl, ⟨rfl, trivial⟩⟩⟩ (aJ_X8_whyNot_140 h x1 x4)
    · refine A_iconst (pc := 138) (v := (5 : Int32)) dX8_whyNot_138 (by decide) ?_
      exact A_retIr rfl dX8_whyNot_139
def fJ_X8_whyNot_109 (h : Hp) (x1 : Int32) (x4 : Int32) : Option Int32 := (fJ_X8_whyNot_110 h x1 x4 (0 : Int32))
set_option maxRecDepth 100000 in
set_option maxHeartbeats 4000000 in
theorem aJ_X8_whyNot_109 (h : Hp) (x1 : Int32) (x4 : Int32) : Aw (eIr h) U0 mX8_whyNot (0, 0) U0 109 [some (vr 8 (some 0)), some (vi x1), none, none, some (vi x4), none] [] h (fJ_X8_whyNot_109 h x1 x4) := by
  unfold fJ_X8_whyNot_109
  refine A_iconst (pc := 109) (v := (0 : Int32)) dX8_whyNot_109 (by decide) ?_
  exact Aw.weak (ls' := [some (vr 8 (some 0)), some (vi x1), none, none, some (vi x4), none]) ⟨rfl, ⟨rfl, ⟨rfl, trivial⟩⟩⟩ (aJ_X8_whyNot_110 h x1 x4 (0 : Int32))
def fJ_X8_whyNot_59 (h : Hp) (x1 : Int32) (x3 : Int32) (x4 : Int32) : Option Int32 := (if x3 = 0 then (some (0 : Int32)) else (if 0 ≤ x4 ∧ x4 < 8 then (if (gI h 34 0 (Int32.toNatClampNeg x4)) = (1 : Int32) then (some (4 : Int32)) else (if 0 ≤ x1 ∧ x1 < 8 then ((f_X8_isUnder (gI h 34 0 (Int32.toNatClampNeg x1)) (2 : Int32) h).bind fun r1 => (if r1 = true then (if 0 ≤ x4 ∧ x4 < 8 then ((f_X8_isUnder (gI h 34 0 (Int32.toNatClampNeg x4)) (2 : Int32) h).bind fun r2 => (if r2 = true then (fJ_X8_whyNot_110 h x1 x4 (1 : Int32)) else (fJ_X8_whyNot_109 h x1 x4))) else none) else (fJ_X8_whyNot_109 h x1 x4))) else none)) else none))
set_option maxRecDepth 100000 in
set_option maxHeartbeats 4000000 in
theorem aJ_X8_whyNot_59 (h : Hp) (x1 : Int32) (x3 : Int32) (x4 : Int32) : Aw (eIr h) U0 mX8_whyNot (0, 0) U0 59 [some (vr 8 (some 0)), some (vi x1), none, some (vi x3), some (vi x4), none] [] h (fJ_X8_whyNot_59 h x1 x3 x4) := by
  unfold fJ_X8_whyNot_59
  refine A_iload_n (pc := 59) (i := 3) dX8_whyNot_59 rfl rfl ?_
  refine A_if_ne (pc := 60) (tgt := 65) dX8_whyNot_60 (by decide) ?_ ?_
  · refine A_aload_n (pc := 65) (i := 0) dX8_whyNot_65 rfl rfl ?_
    refine A_getS (pc := 66) (k := 7) (tp := 34) clX8 (Nat.le_of_ble_eq_true rfl) dX8_whyNot_66 kF_X8_22 rfl rfl rfl ?_
    refine A_iload (pc := 69) (i := 4) dX8_whyNot_69 rfl ?_
    refine A_iaload (pc := 71) (n := 8) (by decide) (by decide) rfl dX8_whyNot_71 (by decide) ?_
    refine A_iconst (pc := 72) (v := (1 : Int32)) dX8_whyNot_72 (by decide) ?_
    refine A_icmp_ne (pc := 73) (tgt := 78) dX8_whyNot_73 (by decide) ?_ ?_
    · refine A_aload_n (pc := 78) (i := 0) dX8_whyNot_78 rfl rfl ?_
      refine A_getS (pc := 79) (k := 7) (tp := 34) clX8 (Nat.le_of_ble_eq_true rfl) dX8_whyNot_79 kF_X8_22 rfl rfl rfl ?_
      refine A_iload_n (pc := 82) (i := 1) dX8_whyNot_82 rfl rfl ?_
      refine A_iaload (pc := 83) (n := 8) (by decide) (by decide) rfl dX8_whyNot_83 (by decide) ?_
      refine A_iconst (pc := 84) (v := (2 : Int32)) dX8_whyNot_84 (by decide) ?_
      refine A_callS (pc := 85) (M' := mX8_isUnder) (As := [vi (gI h 34 0 (Int32.toNatClampNeg x1)), vi (2 : Int32)]) (st := []) (0, 0) (fun r1 => [vi (bi r1)]) (fun _ => h) (a_X8_isUnder (gI h 34 0 (Int32.toNatClampNeg x1)) (2 : Int32) h) kD_X8_isUnder kM_X8_141 kT_X8_isUnder kN_X8 ⟨(Nat.le_of_ble_eq_true rfl), (Nat.le_of_ble_eq_true rfl)⟩ dX8_whyNot_85 rfl rfl (Nat.le_of_ble_eq_true rfl) (Nat.le_of_ble_eq_true rfl) (Nat.le_of_ble_eq_true rfl) (fun _ => rfl) (fun _ => rfl) (fun r1 => ?_)
      refine A_ifb_eq (pc := 88) (tgt := 109) dX8_whyNot_88 (by decide) ?_ ?_
      · exact Aw.weak (ls' := [some (vr 8 (some 0)), some (vi x1), none, none, some (vi x4), none]) ⟨rfl, ⟨rfl, ⟨rfl, trivial⟩⟩⟩ (aJ_X8_whyNot_109 h x1 x4)
      · refine A_aload_n (pc := 91) (i := 0) dX8_whyNot_91 rfl rfl ?_
        refine A_getS (pc := 92) (k := 7) (tp := 34) clX8 (Nat.le_of_ble_eq_true rfl) dX8_whyNot_92 kF_X8_22 rfl rfl rfl ?_
        refine A_iload (pc := 95) (i := 4) dX8_whyNot_95 rfl ?_
        refine A_iaload (pc := 97) (n := 8) (by decide) (by decide) rfl dX8_whyNot_97 (by decide) ?_
        refine A_iconst (pc := 98) (v := (2 : Int32)) dX8_whyNot_98 (by decide) ?_
        refine A_callS (pc := 99) (M' := mX8_isUnder) (As := [vi (gI h 34 0 (Int32.toNatClampNeg x4)), vi (2 : Int32)]) (st := []) (0, 0) (fun r2 => [vi (bi r2)]) (fun _ => h) (a_X8_isUnder (gI h 34 0 (Int32.toNatClampNeg x4)) (2 : Int32) h) kD_X8_isUnder kM_X8_141 kT_X8_isUnder kN_X8 ⟨(Nat.le_of_ble_eq_true rfl), (Nat.le_of_ble_eq_true rfl)⟩ dX8_whyNot_99 rfl rfl (Nat.le_of_ble_eq_true rfl) (Nat.le_of_ble_eq_true rfl) (Nat.le_of_ble_eq_true rfl) (fun _ => rfl) (fun _ => rfl) (fun r2 => ?_)
        refine A_ifb_eq (pc := 102) (tgt := 109) dX8_whyNot_102 (by decide) ?_ ?_
        · exact Aw.weak (ls' := [some (vr 8 (some 0)), some (vi x1), none, none, some (vi x4), none]) ⟨rfl, ⟨rfl, ⟨rfl, trivial⟩⟩⟩ (aJ_X8_whyNot_109 h x1 x4)
        · refine A_iconst (pc := 105) (v := (1 : Int32)) dX8_whyNot_105 (by decide) ?_
          refine A_goto (pc := 106) (tgt := 110) dX8_whyNot_106 (by decide) ?_
          exact Aw.weak (ls' := [some (vr 8 (some 0)), some (vi x1), none, none, some (vi x4), none]) ⟨rfl, ⟨rfl, ⟨rfl, trivial⟩⟩⟩ (aJ_X8_whyNot_110 h x1 x4 (1 : Int32))
    · refine A_iconst (pc := 76) (v := (4 : Int32)) dX8_whyNot_76 (by decide) ?_
      exact A_retIr rfl dX8_whyNot_77
  · refine A_iconst (pc := 63) (v := (0 : Int32)) dX8_whyNot_63 (by decide) ?_
    exact A_retIr rfl dX8_whyNot_64
def f_X8_whyNot (x1 : Int32) (x2 : Int32) (x3 : Int32) (x4 : Int32) (h : Hp) : Option Int32 := (if 0 ≤ x2 ∧ x2 < 4 then (if x3 < (gI h 32 0 (Int32.toNatClampNeg x2)) then (if 0 ≤ x1 ∧ x1 < 8 then (if 0 ≤ x2 ∧ x2 < 4 then (if 0 ≤ x2 ∧ x2 < 4 then (if (gI h 36 0 (Int32.toNatClampNeg x1)) ≤ ((gI h 30 0 (Int32.toNatClampNeg x2)) + (x3 * (gI h 31 0 (Int32.toNatClampNeg x2)))) then (if 0 ≤ x1 ∧ x1 < 8 then (if (gI h 37 0 (Int32.toNatClampNeg x1)) = 0 then (fJ_X8_whyNot_59 h x1 x3 x4) else (if 0 ≤ x2 ∧ x2 < 4 then (if x3 < (gI h 33 0 (Int32.toNatClampNeg x2)) then (fJ_X8_whyNot_59 h x1 x3 x4) else (some (3 : Int32))) else none)) else none) else (some (2 : Int32))) else none) else none) else none) else (some (1 : Int32))) else none)
set_option maxRecDepth 100000 in
set_option maxHeartbeats 4000000 in
theorem a_X8_whyNot (x1 : Int32) (x2 : Int32) (x3 : Int32) (x4 : Int32) (h : Hp) : CtA (eIr h) mX8_whyNot U0 U0 [vr 8 (some 0), vi x1, vi x2, vi x3, vi x4] h (f_X8_whyNot x1 x2 x3 x4 h) := by
  refine Ct.of (ls := [some (vr 8 (some 0)), some (vi x1), some (vi x2), some (vi x3), some (vi x4), none]) (n := 1) (by decide +kernel) rfl rfl rfl ?_
  unfold f_X8_whyNot
  refine A_iload_n (pc := 0) (i := 3) dX8_whyNot_0 rfl rfl ?_
  refine A_aload_n (pc := 1) (i := 0) dX8_whyNot_1 rfl rfl ?_
  refine A_getS (pc := 2) (k := 3) (tp := 32) clX8 (Nat.le_of_ble_eq_true rfl) dX8_whyNot_2 kF_X8_16 rfl rfl rfl ?_
  refine A_iload_n (pc := 5) (i := 2) dX8_whyNot_5 rfl rfl ?_
  refine A_iaload (pc := 6) (n := 4) (by decide) (by decide) rfl dX8_whyNot_6 (by decide) ?_
  refine A_icmp_lt (pc := 7) (tgt := 12) dX8_whyNot_7 (by decide) ?_ ?_
  · refine A_aload_n (pc := 12) (i := 0) dX8_whyNot_12 rfl rfl ?_
    refine A_getS (pc := 13) (k := 9) (tp := 36) clX8 (Nat.le_of_ble_eq_true rfl) dX8_whyNot_13 kF_X8_28 rfl rfl rfl ?_
    refine A_iload_n (pc := 16) (i := 1) dX8_whyNot_16 rfl rfl ?_
    refine A_iaload (pc := 17) (n := 8) (by decide) (by decide) rfl dX8_whyNot_17 (by decide) ?_
    refine A_aload_n (pc := 18) (i := 0) dX8_whyNot_18 rfl rfl ?_
    refine A_getS (pc := 19) (k := 1) (tp := 30) clX8 (Nat.le_of_ble_eq_true rfl) dX8_whyNot_19 kF_X8_9 rfl rfl rfl ?_
    refine A_iload_n (pc := 22) (i := 2) dX8_whyNot_22 rfl rfl ?_
    refine A_iaload (pc := 23) (n := 4) (by decide) (by decide) rfl dX8_whyNot_23 (by decide) ?_
    refine A_iload_n (pc := 24) (i := 3) dX8_whyNot_24 rfl rfl ?_
    refine A_aload_n (pc := 25) (i := 0) dX8_whyNot_25 rfl rfl ?_
    refine A_getS (pc := 26) (k := 2) (tp := 31) clX8 (Nat.le_of_ble_eq_true rfl) dX8_whyNot_26 kF_X8_13 rfl rfl rfl ?_
    refine A_iload_n (pc := 29) (i := 2) dX8_whyNot_29 rfl rfl ?_
    refine A_iaload (pc := 30) (n := 4) (by decide) (by decide) rfl dX8_whyNot_30 (by decide) ?_
    refine A_imul (pc := 31) dX8_whyNot_31 ?_
    refine A_iadd (pc := 32) dX8_whyNot_32 ?_
    refine A_icmp_le (pc := 33) (tgt := 38) dX8_whyNot_33 (by decide) ?_ ?_
    · refine A_aload_n (pc := 38) (i := 0) dX8_whyNot_38 rfl rfl ?_
      refine A_getS (pc := 39) (k := 10) (tp := 37) clX8 (Nat.le_of_ble_eq_true rfl) dX8_whyNot_39 kF_X8_31 rfl rfl rfl ?_
      refine A_iload_n (pc := 42) (i := 1) dX8_whyNot_42 rfl rfl ?_
      refine A_baload (pc := 43) (n := 8) (by decide) (by decide) (Or.inr rfl) dX8_whyNot_43 (by decide) ?_
      refine A_if_eq (pc := 44) (tgt := 59) dX8_whyNot_44 (by decide) ?_ ?_
      · exact Aw.weak (ls' := [some (vr 8 (some 0)), some (vi x1), none, some (vi x3), some (vi x4), none]) ⟨rfl, ⟨rfl, ⟨rfl, ⟨rfl, trivial⟩⟩⟩⟩ (aJ_X8_whyNot_59 h x1 x3 x4)
      · refine A_iload_n (pc := 47) (i := 3) dX8_whyNot_47 rfl rfl ?_
        refine A_aload_n (pc := 48) (i := 0) dX8_whyNot_48 rfl rfl ?_
        refine A_getS (pc := 49) (k := 4) (tp := 33) clX8 (Nat.le_of_ble_eq_true rfl) dX8_whyNot_49 kF_X8_19 rfl rfl rfl ?_
        refine A_iload_n (pc := 52) (i := 2) dX8_whyNot_52 rfl rfl ?_
        refine A_iaload (pc := 53) (n := 4) (by decide) (by decide) rfl dX8_whyNot_53 (by decide) ?_
        refine A_icmp_lt (pc := 54) (tgt := 59) dX8_whyNot_54 (by decide) ?_ ?_
        · exact Aw.weak (ls' := [some (vr 8 (some 0)), some (vi x1), none, some (vi x3), some (vi x4), none]) ⟨rfl, ⟨rfl, ⟨rfl, ⟨rfl, trivial⟩⟩⟩⟩ (aJ_X8_whyNot_59 h x1 x3 x4)
        · refine A_iconst (pc := 57) (v := (3 : Int32)) dX8_whyNot_57 (by decide) ?_
          exact A_retIr rfl dX8_whyNot_58
    · refine A_iconst (pc := 36) (v := (2 : Int32)) dX8_whyNot_36 (by decide) ?_
      exact A_retIr rfl dX8_whyNot_37
  · refine A_iconst (pc := 10) (v := (1 : Int32)) dX8_whyNot_10 (by decide) ?_
    exact A_retIr rfl dX8_whyNot_11

abbrev mX8_insideOf : MD := (yX8_insideOf, cX8_insideOf, 3, (some .int), { frames := 0, cells := 0, slots := 0, locals := 0 }, none)
theorem kD_X8_insideOf : CodeIn mX8_insideOf 2 := ⟨kC_X8_insideOf, by decide +kernel⟩
def f_X8_insideOf (x1 : Int32) (x2 : Int32) (h : Hp) : Option Int32 := (if x2 = 0 then (some (-1 : Int32)) else (if 0 ≤ ((((6 : Int32) * x1) + x2) - (1 : Int32)) ∧ ((((6 : Int32) * x1) + x2) - (1 : Int32)) < 24 then (some (gI h 44 0 (Int32.toNatClampNeg ((((6 : Int32) * x1) + x2) - (1 : Int32))))) else none))
set_option maxRecDepth 100000 in
set_option maxHeartbeats 4000000 in
theorem a_X8_insideOf (x1 : Int32) (x2 : Int32) (h : Hp) : CtA (eIr h) mX8_insideOf U0 U0 [vr 8 (some 0), vi x1, vi x2] h (f_X8_insideOf x1 x2 h) := by
  refine Ct.of (ls := [some (vr 8 (some 0)), some (vi x1), some (vi x2)]) (n := 0) (by decide +kernel) rfl rfl rfl ?_
  unfold f_X8_insideOf
  refine A_iload_n (pc := 0) (i := 2) dX8_insideOf_0 rfl rfl ?_
  refine A_if_ne (pc := 1) (tgt := 8) dX8_insideOf_1 (by decide) ?_ ?_
  · refine A_aload_n (pc := 8) (i := 0) dX8_insideOf_8 rfl rfl ?_
    refine A_getS (pc := 9) (k := 18) (tp := 44) clX8 (Nat.le_of_ble_eq_true rfl) dX8_insideOf_9 kF_X8_53 rfl rfl rfl ?_
    refine A_bipush (pc := 12) (v := (6 : Int32)) dX8_insideOf_12 (by decide) ?_
    refine A_iload_n (pc := 14) (i := 1) dX8_insideOf_14 rfl rfl ?_
    refine A_imul (pc := 15) dX8_insideOf_15 ?_
    refine A_iload_n (pc := 16) (i := 2) dX8_insideOf_16 rfl rfl ?_
    refine A_iadd (pc := 17) dX8_insideOf_17 ?_
    refine A_iconst (pc := 18) (v := (1 : Int32)) dX8_insideOf_18 (by decide) ?_
    refine A_isub (pc := 19) dX8_insideOf_19 ?_
    refine A_iaload (pc := 20) (n := 24) (by decide) (by decide) rfl dX8_insideOf_20 (by decide) ?_
    exact A_retIr rfl dX8_insideOf_21
  · refine A_iconst (pc := 4) (v := (-1 : Int32)) dX8_insideOf_4 (by decide) ?_
    refine A_goto (pc := 5) (tgt := 21) dX8_insideOf_5 (by decide) ?_
    exact A_retIr rfl dX8_insideOf_21

abbrev mX8_whyNotOutside : MD := (yX8_whyNotOutside, cX8_whyNotOutside, 3, (some .int), { frames := 2, cells := 0, slots := 0, locals := 46 }, none)
theorem kD_X8_whyNotOutside : CodeIn mX8_whyNotOutside 2 := ⟨kC_X8_whyNotOutside, by decide +kernel⟩
def f_X8_whyNotOutside (x1 : Int32) (x2 : Int32) (h : Hp) : Option Int32 := (if 0 ≤ x2 ∧ x2 < 4 then (if 0 ≤ x2 ∧ x2 < 4 then ((f_X8_insideOf x2 (gI h 43 0 (Int32.toNatClampNeg x2)) h).bind fun r1 => ((f_X8_whyNot x1 x2 (gI h 43 0 (Int32.toNatClampNeg x2)) r1 h).bind fun r2 => (some r2))) else none) else none)
set_option maxRecDepth 100000 in
set_option maxHeartbeats 4000000 in
theorem a_X8_whyNotOutside (x1 : Int32) (x2 : Int32) (h : Hp) : CtA (eIr h) mX8_whyNotOutside U0 U0 [vr 8 (some 0), vi x1, vi x2] h (f_X8_whyNotOutside x1 x2 h) := by
  refine Ct.of (ls := [some (vr 8 (some 0)), some (vi x1), some (vi x2)]) (n := 0) (by decide +kernel) rfl rfl rfl ?_
  unfold f_X8_whyNotOutside
  refine A_aload_n (pc := 0) (i := 0) dX8_whyNotOutside_0 rfl rfl ?_
  refine A_iload_n (pc := 1) (i := 1) dX8_whyNotOutside_1 rfl rfl ?_
  refine A_iload_n (pc := 2) (i := 2) dX8_whyNotOutside_2 rfl rfl ?_
  refine A_aload_n (pc := 3) (i := 0) dX8_whyNotOutside_3 rfl rfl ?_
  refine A_getS (pc := 4) (k := 17) (tp := 43) clX8 (Nat.le_of_ble_eq_true rfl) dX8_whyNotOutside_4 kF_X8_50 rfl rfl rfl ?_
  refine A_iload_n (pc := 7) (i := 2) dX8_whyNotOutside_7 rfl rfl ?_
  refine A_iaload (pc := 8) (n := 4) (by decide) (by decide) rfl dX8_whyNotOutside_8 (by decide) ?_
  refine A_aload_n (pc := 9) (i := 0) dX8_whyNotOutside_9 rfl rfl ?_
  refine A_iload_n (pc := 10) (i := 2) dX8_whyNotOutside_10 rfl rfl ?_
  refine A_aload_n (pc := 11) (i := 0) dX8_whyNotOutside_11 rfl rfl ?_
  refine A_getS (pc := 12) (k := 17) (tp := 43) clX8 (Nat.le_of_ble_eq_true rfl) dX8_whyNotOutside_12 kF_X8_50 rfl rfl rfl ?_
  refine A_iload_n (pc := 15) (i := 2) dX8_whyNotOutside_15 rfl rfl ?_
  refine A_iaload (pc := 16) (n := 4) (by decide) (by decide) rfl dX8_whyNotOutside_16 (by decide) ?_
  refine A_callV (pc := 17) (M' := mX8_insideOf) (As := [vi x2, vi (gI h 43 0 (Int32.toNatClampNeg x2))]) (st := [vi (gI h 43 0 (Int32.toNatClampNeg x2)), vi x2, vi x1, vr 8 (some 0)]) (0, 0) (fun r1 => [vi r1, vi (gI h 43 0 (Int32.toNatClampNeg x2)), vi x2, vi x1, vr 8 (some 0)]) (fun _ => h) (a_X8_insideOf x2 (gI h 43 0 (Int32.toNatClampNeg x2)) h) kD_X8_insideOf kM_X8_152 kI_X8_insideOf kS_X8_insideOf kN_X8 ⟨(Nat.le_of_ble_eq_true rfl), (Nat.le_of_ble_eq_true rfl)⟩ dX8_whyNotOutside_17 rfl rfl rfl (by decide) rfl (Nat.le_of_ble_eq_true rfl) (Nat.le_of_ble_eq_true rfl) (Nat.le_of_ble_eq_true rfl) (fun _ => rfl) (fun _ => rfl) (fun r1 => ?_)
  refine A_callV (pc := 20) (M' := mX8_whyNot) (As := [vi x1, vi x2, vi (gI h 43 0 (Int32.toNatClampNeg x2)), vi r1]) (st := []) (0, 0) (fun r2 => [vi r2]) (fun _ => h) (a_X8_whyNot x1 x2 (gI h 43 0 (Int32.toNatClampNeg x2)) r1 h) kD_X8_whyNot kM_X8_156 kI_X8_whyNot kS_X8_whyNot kN_X8 ⟨(Nat.le_of_ble_eq_true rfl), (Nat.le_of_ble_eq_true rfl)⟩ dX8_whyNotOutside_20 rfl rfl rfl (by decide) rfl (Nat.le_of_ble_eq_true rfl) (Nat.le_of_ble_eq_true rfl) (Nat.le_of_ble_eq_true rfl) (fun _ => rfl) (fun _ => rfl) (fun r2 => ?_)
  exact A_retIr rfl dX8_whyNotOutside_23

abbrev mX8_may : MD := (yX8_may, cX8_may, 3, (some .int), { frames := 3, cells := 0, slots := 0, locals := 68 }, none)
theorem kD_X8_may : CodeIn mX8_may 2 := ⟨kC_X8_may, by decide +kernel⟩
def f_X8_may (x1 : Int32) (x2 : Int32) (h : Hp) : Option (Int32 × Hp) := ((f_X8_isBoat x1 h).bind fun r1 => (if r1 = true then ((f_X8_isBerth x2 h).bind fun r3 => (if r3 = true then ((f_X8_spotOf x1 h).bind fun r4 => (if r4 < 0 then ((f_X8_whyNotOutside x1 x2 h).bind fun r5 => (some (r5, h))) else ((f_X8_finding (-1000005 : Int32) h).bind fun r6 => (some (r6.1, r6.2))))) else ((f_X8_finding (-1000001 : Int32) h).bind fun r7 => (some (r7.1, r7.2))))) else ((f_X8_finding (-1000001 : Int32) h).bind fun r2 => (some (r2.1, r2.2)))))
set_option maxRecDepth 100000 in
set_option maxHeartbeats 4000000 in
theorem a_X8_may (x1 : Int32) (x2 : Int32) (h : Hp) : CtA eI mX8_may U0 U0 [vr 8 (some 0), vi x1, vi x2] h (f_X8_may x1 x2 h) := by
  refine Ct.of (ls := [some (vr 8 (some 0)), some (vi x1), some (vi x2)]) (n := 0) (by decide +kernel) rfl rfl rfl ?_
  unfold f_X8_may
  refine A_aload_n (pc := 0) (i := 0) dX8_may_0 rfl rfl ?_
  refine A_iload_n (pc := 1) (i := 1) dX8_may_1 rfl rfl ?_
  refine A_callV (pc := 2) (M' := mX8_isBoat) (As := [vi x1]) (st := []) (0, 0) (fun r1 => [vi (bi r1)]) (fun _ => h) (a_X8_isBoat x1 h) kD_X8_isBoat kM_X8_131 kI_X8_isBoat kS_X8_isBoat kN_X8 ⟨(Nat.le_of_ble_eq_true rfl), (Nat.le_of_ble_eq_true rfl)⟩ dX8_may_2 rfl rfl rfl (by decide) rfl (Nat.le_of_ble_eq_true rfl) (Nat.le_of_ble_eq_true rfl) (Nat.le_of_ble_eq_true rfl) (fun _ => rfl) (fun _ => rfl) (fun r1 => ?_)
  refine A_ifb_eq (pc := 5) (tgt := 16) dX8_may_5 (by decide) ?_ ?_
  · refine A_aload_n (pc := 16) (i := 0) dX8_may_16 rfl rfl ?_
    refine A_ldc (pc := 17) (v := (-1000001 : Int32)) dX8_may_17 kK_X8_125 ?_
    refine A_callV (pc := 19) (M' := mX8_finding) (As := [vi (-1000001 : Int32)]) (st := []) (0, 0) (fun r2 => [vi r2.1]) (fun r2 => r2.2) (a_X8_finding (-1000001 : Int32) h) kD_X8_finding kM_X8_126 kI_X8_finding kS_X8_finding kN_X8 ⟨(Nat.le_of_ble_eq_true rfl), (Nat.le_of_ble_eq_true rfl)⟩ dX8_may_19 rfl rfl rfl (by decide) rfl (Nat.le_of_ble_eq_true rfl) (Nat.le_of_ble_eq_true rfl) (Nat.le_of_ble_eq_true rfl) (fun _ => rfl) (fun _ => rfl) (fun r2 => ?_)
    exact A_retI rfl dX8_may_22
  · refine A_aload_n (pc := 8) (i := 0) dX8_may_8 rfl rfl ?_
    refine A_iload_n (pc := 9) (i := 2) dX8_may_9 rfl rfl ?_
    refine A_callV (pc := 10) (M' := mX8_isBerth) (As := [vi x2]) (st := []) (0, 0) (fun r3 => [vi (bi r3)]) (fun _ => h) (a_X8_isBerth x2 h) kD_X8_isBerth kM_X8_149 kI_X8_isBerth kS_X8_isBerth kN_X8 ⟨(Nat.le_of_ble_eq_true rfl), (Nat.le_of_ble_eq_true rfl)⟩ dX8_may_10 rfl rfl rfl (by decide) rfl (Nat.le_of_ble_eq_true rfl) (Nat.le_of_ble_eq_true rfl) (Nat.le_of_ble_eq_true rfl) (fun _ => rfl) (fun _ => rfl) (fun r3 => ?_)
    refine A_ifb_ne (pc := 13) (tgt := 23) dX8_may_13 (by decide) ?_ ?_
    · refine A_aload_n (pc := 23) (i := 0) dX8_may_23 rfl rfl ?_
      refine A_iload_n (pc := 24) (i := 1) dX8_may_24 rfl rfl ?_
      refine A_callV (pc := 25) (M' := mX8_spotOf) (As := [vi x1]) (st := []) (0, 0) (fun r4 => [vi r4]) (fun _ => h) (a_X8_spotOf x1 h) kD_X8_spotOf kM_X8_146 kI_X8_spotOf kS_X8_spotOf kN_X8 ⟨(Nat.le_of_ble_eq_true rfl), (Nat.le_of_ble_eq_true rfl)⟩ dX8_may_25 rfl rfl rfl (by decide) rfl (Nat.le_of_ble_eq_true rfl) (Nat.le_of_ble_eq_true rfl) (Nat.le_of_ble_eq_true rfl) (fun _ => rfl) (fun _ => rfl) (fun r4 => ?_)
      refine A_if_lt (pc := 28) (tgt := 40) dX8_may_28 (by decide) ?_ ?_
      · refine A_aload_n (pc := 40) (i := 0) dX8_may_40 rfl rfl ?_
        refine A_iload_n (pc := 41) (i := 1) dX8_may_41 rfl rfl ?_
        refine A_iload_n (pc := 42) (i := 2) dX8_may_42 rfl rfl ?_
        refine A_callV (pc := 43) (M' := mX8_whyNotOutside) (As := [vi x1, vi x2]) (st := []) (0, 0) (fun r5 => [vi r5]) (fun _ => h) (a_X8_whyNotOutside x1 x2 h) kD_X8_whyNotOutside kM_X8_161 kI_X8_whyNotOutside kS_X8_whyNotOutside kN_X8 ⟨(Nat.le_of_ble_eq_true rfl), (Nat.le_of_ble_eq_true rfl)⟩ dX8_may_43 rfl rfl rfl (by decide) rfl (Nat.le_of_ble_eq_true rfl) (Nat.le_of_ble_eq_true rfl) (Nat.le_of_ble_eq_true rfl) (fun _ => rfl) (fun _ => rfl) (fun r5 => ?_)
        exact A_retI rfl dX8_may_46
      · refine A_aload_n (pc := 31) (i := 0) dX8_may_31 rfl rfl ?_
        refine A_ldc (pc := 32) (v := (-1000005 : Int32)) dX8_may_32 kK_X8_160 ?_
        refine A_callV (pc := 34) (M' := mX8_finding) (As := [vi (-1000005 : Int32)]) (st := []) (0, 0) (fun r6 => [vi r6.1]) (fun r6 => r6.2) (a_X8_finding (-1000005 : Int32) h) kD_X8_finding kM_X8_126 kI_X8_finding kS_X8_finding kN_X8 ⟨(Nat.le_of_ble_eq_true rfl), (Nat.le_of_ble_eq_true rfl)⟩ dX8_may_34 rfl rfl rfl (by decide) rfl (Nat.le_of_ble_eq_true rfl) (Nat.le_of_ble_eq_true rfl) (Nat.le_of_ble_eq_true rfl) (fun _ => rfl) (fun _ => rfl) (fun r6 => ?_)
        refine A_goto (pc := 37) (tgt := 46) dX8_may_37 (by decide) ?_
        exact A_retI rfl dX8_may_46
    · refine A_aload_n (pc := 16) (i := 0) dX8_may_16 rfl rfl ?_
      refine A_ldc (pc := 17) (v := (-1000001 : Int32)) dX8_may_17 kK_X8_125 ?_
      refine A_callV (pc := 19) (M' := mX8_finding) (As := [vi (-1000001 : Int32)]) (st := []) (0, 0) (fun r7 => [vi r7.1]) (fun r7 => r7.2) (a_X8_finding (-1000001 : Int32) h) kD_X8_finding kM_X8_126 kI_X8_finding kS_X8_finding kN_X8 ⟨(Nat.le_of_ble_eq_true rfl), (Nat.le_of_ble_eq_true rfl)⟩ dX8_may_19 rfl rfl rfl (by decide) rfl (Nat.le_of_ble_eq_true rfl) (Nat.le_of_ble_eq_true rfl) (Nat.le_of_ble_eq_true rfl) (fun _ => rfl) (fun _ => rfl) (fun r7 => ?_)
      exact A_retI rfl dX8_may_22

abbrev mX8_laysOut : MD := (yX8_laysOut, cX8_laysOut, 3, none, { frames := 0, cells := 0, slots := 0, locals := 0 }, none)
theorem kD_X8_laysOut : CodeIn mX8_laysOut 2 := ⟨kC_X8_laysOut, by decide +kernel⟩
def f_X8_laysOut (x1 : Int32) (x2 : Int32) (h : Hp) : Option Hp := (if 0 ≤ x2 ∧ x2 < 4 then (if 0 ≤ (((6 : Int32) * x2) + (gI h 43 0 (Int32.toNatClampNeg x2))) ∧ (((6 : Int32) * x2) + (gI h 43 0 (Int32.toNatClampNeg x2))) < 24 then (if 0 ≤ x2 ∧ x2 < 4 then (if 0 ≤ x2 ∧ x2 < 4 then (some (wI (wI h 44 0 (Int32.toNatClampNeg (((6 : Int32) * x2) + (gI h 43 0 (Int32.toNatClampNeg x2)))) x1) 43 0 (Int32.toNatClampNeg x2) ((gI (wI h 44 0 (Int32.toNatClampNeg (((6 : Int32) * x2) + (gI h 43 0 (Int32.toNatClampNeg x2)))) x1) 43 0 (Int32.toNatClampNeg x2)) + (1 : Int32)))) else none) else none) else none) else none)
set_option maxRecDepth 100000 in
set_option maxHeartbeats 4000000 in
theorem a_X8_laysOut (x1 : Int32) (x2 : Int32) (h : Hp) : CtA eV mX8_laysOut U0 U0 [vr 8 (some 0), vi x1, vi x2] h (f_X8_laysOut x1 x2 h) := by
  refine Ct.of (ls := [some (vr 8 (some 0)), some (vi x1), some (vi x2)]) (n := 0) (by decide +kernel) rfl rfl rfl ?_
  unfold f_X8_laysOut
  refine A_aload_n (pc := 0) (i := 0) dX8_laysOut_0 rfl rfl ?_
  refine A_getS (pc := 1) (k := 18) (tp := 44) clX8 (Nat.le_of_ble_eq_true rfl) dX8_laysOut_1 kF_X8_53 rfl rfl rfl ?_
  refine A_bipush (pc := 4) (v := (6 : Int32)) dX8_laysOut_4 (by decide) ?_
  refine A_iload_n (pc := 6) (i := 2) dX8_laysOut_6 rfl rfl ?_
  refine A_imul (pc := 7) dX8_laysOut_7 ?_
  refine A_aload_n (pc := 8) (i := 0) dX8_laysOut_8 rfl rfl ?_
  refine A_getS (pc := 9) (k := 17) (tp := 43) clX8 (Nat.le_of_ble_eq_true rfl) dX8_laysOut_9 kF_X8_50 rfl rfl rfl ?_
  refine A_iload_n (pc := 12) (i := 2) dX8_laysOut_12 rfl rfl ?_
  refine A_iaload (pc := 13) (n := 4) (by decide) (by decide) rfl dX8_laysOut_13 (by decide) ?_
  refine A_iadd (pc := 14) dX8_laysOut_14 ?_
  refine A_iload_n (pc := 15) (i := 1) dX8_laysOut_15 rfl rfl ?_
  refine A_iastore (pc := 16) (n := 24) (by decide) (by decide) rfl dX8_laysOut_16 (by decide) ?_
  refine A_aload_n (pc := 17) (i := 0) dX8_laysOut_17 rfl rfl ?_
  refine A_getS (pc := 18) (k := 17) (tp := 43) clX8 (Nat.le_of_ble_eq_true rfl) dX8_laysOut_18 kF_X8_50 rfl rfl rfl ?_
  refine A_iload_n (pc := 21) (i := 2) dX8_laysOut_21 rfl rfl ?_
  refine A_dup2 (pc := 22) dX8_laysOut_22 (fun _ => rfl) (fun _ => cv_catr _ _) ?_
  refine A_iaload (pc := 23) (n := 4) (by decide) (by decide) rfl dX8_laysOut_23 (by decide) ?_
  refine A_iconst (pc := 24) (v := (1 : Int32)) dX8_laysOut_24 (by decide) ?_
  refine A_iadd (pc := 25) dX8_laysOut_25 ?_
  refine A_iastore (pc := 26) (n := 4) (by decide) (by decide) rfl dX8_laysOut_26 (by decide) ?_
  exact A_retV rfl dX8_laysOut_27

abbrev mX8_comes : MD := (yX8_comes, cX8_comes, 4, (some .int), { frames := 3, cells := 0, slots := 0, locals := 68 }, none)
theorem kD_X8_comes : CodeIn mX8_comes 2 := ⟨kC_X8_comes, by decide +kernel⟩
def f_X8_comes (x1 : Int32) (x2 : Int32) (h : Hp) : Option (Int32 × Hp) := ((f_X8_isBoat x1 h).bind fun r1 => (if r1 = true then ((f_X8_isBerth x2 h).bind fun r3 => (if r3 = true then ((f_X8_spotOf x1 h).bind fun r4 => (if r4 < 0 then ((f_X8_whyNotOutside x1 x2 h).bind fun r5 => (if r5 = 0 then ((f_X8_laysOut x1 x2 h).bind fun r6 => (if 0 ≤ x2 ∧ x2 < 4 then (some (((gI r6 43 0 (Int32.toNatClampNeg x2)) - (1 : Int32)), r6)) else none)) else (if r5 = (1 : Int32) then ((f_X8_finding (-1000002 : Int32) h).bind fun r8 => (some (r8.1, r8.2))) else ((f_X8_finding (-1000003 : Int32) h).bind fun r7 => (some (r7.1, r7.2)))))) else ((f_X8_finding (-1000005 : Int32) h).bind fun r9 => (some (r9.1, r9.2))))) else ((f_X8_finding (-1000001 : Int32) h).bind fun r10 => (some (r10.1, r10.2))))) else ((f_X8_finding (-1000001 : Int32) h).bind fun r2 => (some (r2.1, r2.2)))))
set_option maxRecDepth 100000 in
set_option maxHeartbeats 4000000 in
theorem a_X8_comes (x1 : Int32) (x2 : Int32) (h : Hp) : CtA eI mX8_comes U0 U0 [vr 8 (some 0), vi x1, vi x2] h (f_X8_comes x1 x2 h) := by
  refine Ct.of (ls := [some (vr 8 (some 0)), some (vi x1), some (vi x2), none]) (n := 1) (by decide +kernel) rfl rfl rfl ?_
  unfold f_X8_comes
  refine A_aload_n (pc := 0) (i := 0) dX8_comes_0 rfl rfl ?_
  refine A_iload_n (pc := 1) (i := 1) dX8_comes_1 rfl rfl ?_
  refine A_callV (pc := 2) (M' := mX8_isBoat) (As := [vi x1]) (st := []) (0, 0) (fun r1 => [vi (bi r1)]) (fun _ => h) (a_X8_isBoat x1 h) kD_X8_isBoat kM_X8_131 kI_X8_isBoat kS_X8_isBoat kN_X8 ⟨(Nat.le_of_ble_eq_true rfl), (Nat.le_of_ble_eq_true rfl)⟩ dX8_comes_2 rfl rfl rfl (by decide) rfl (Nat.le_of_ble_eq_true rfl) (Nat.le_of_ble_eq_true rfl) (Nat.le_of_ble_eq_true rfl) (fun _ => rfl) (fun _ => rfl) (fun r1 => ?_)
  refine A_ifb_eq (pc := 5) (tgt := 16) dX8_comes_5 (by decide) ?_ ?_
  · refine A_aload_n (pc := 16) (i := 0) dX8_comes_16 rfl rfl ?_
    refine A_ldc (pc := 17) (v := (-1000001 : Int32)) dX8_comes_17 kK_X8_125 ?_
    refine A_callV (pc := 19) (M' := mX8_finding) (As := [vi (-1000001 : Int32)]) (st := []) (0, 0) (fun r2 => [vi r2.1]) (fun r2 => r2.2) (a_X8_finding (-1000001 : Int32) h) kD_X8_finding kM_X8_126 kI_X8_finding kS_X8_finding kN_X8 ⟨(Nat.le_of_ble_eq_true rfl), (Nat.le_of_ble_eq_true rfl)⟩ dX8_comes_19 rfl rfl rfl (by decide) rfl (Nat.le_of_ble_eq_true rfl) (Nat.le_of_ble_eq_true rfl) (Nat.le_of_ble_eq_true rfl) (fun _ => rfl) (fun _ => rfl) (fun r2 => ?_)
    exact A_retI rfl dX8_comes_22
  · refine A_aload_n (pc := 8) (i := 0) dX8_comes_8 rfl rfl ?_
    refine A_iload_n (pc := 9) (i := 2) dX8_comes_9 rfl rfl ?_
    refine A_callV (pc := 10) (M' := mX8_isBerth) (As := [vi x2]) (st := []) (0, 0) (fun r3 => [vi (bi r3)]) (fun _ => h) (a_X8_isBerth x2 h) kD_X8_isBerth kM_X8_149 kI_X8_isBerth kS_X8_isBerth kN_X8 ⟨(Nat.le_of_ble_eq_true rfl), (Nat.le_of_ble_eq_true rfl)⟩ dX8_comes_10 rfl rfl rfl (by decide) rfl (Nat.le_of_ble_eq_true rfl) (Nat.le_of_ble_eq_true rfl) (Nat.le_of_ble_eq_true rfl) (fun _ => rfl) (fun _ => rfl) (fun r3 => ?_)
    refine A_ifb_ne (pc := 13) (tgt := 23) dX8_comes_13 (by decide) ?_ ?_
    · refine A_aload_n (pc := 23) (i := 0) dX8_comes_23 rfl rfl ?_
      refine A_iload_n (pc := 24) (i := 1) dX8_comes_24 rfl rfl ?_
      refine A_callV (pc := 25) (M' := mX8_spotOf) (As := [vi x1]) (st := []) (0, 0) (fun r4 => [vi r4]) (fun _ => h) (a_X8_spotOf x1 h) kD_X8_spotOf kM_X8_146 kI_X8_spotOf kS_X8_spotOf kN_X8 ⟨(Nat.le_of_ble_eq_true rfl), (Nat.le_of_ble_eq_true rfl)⟩ dX8_comes_25 rfl rfl rfl (by decide) rfl (Nat.le_of_ble_eq_true rfl) (Nat.le_of_ble_eq_true rfl) (Nat.le_of_ble_eq_true rfl) (fun _ => rfl) (fun _ => rfl) (fun r4 => ?_)
      refine A_if_lt (pc := 28) (tgt := 38) dX8_comes_28 (by decide) ?_ ?_
      · refine A_aload_n (pc := 38) (i := 0) dX8_comes_38 rfl rfl ?_
        refine A_iload_n (pc := 39) (i := 1) dX8_comes_39 rfl rfl ?_
        refine A_iload_n (pc := 40) (i := 2) dX8_comes_40 rfl rfl ?_
        refine A_callV (pc := 41) (M' := mX8_whyNotOutside) (As := [vi x1, vi x2]) (st := []) (0, 0) (fun r5 => [vi r5]) (fun _ => h) (a_X8_whyNotOutside x1 x2 h) kD_X8_whyNotOutside kM_X8_161 kI_X8_whyNotOutside kS_X8_whyNotOutside kN_X8 ⟨(Nat.le_of_ble_eq_true rfl), (Nat.le_of_ble_eq_true rfl)⟩ dX8_comes_41 rfl rfl rfl (by decide) rfl (Nat.le_of_ble_eq_true rfl) (Nat.le_of_ble_eq_true rfl) (Nat.le_of_ble_eq_true rfl) (fun _ => rfl) (fun _ => rfl) (fun r5 => ?_)
        refine A_istore_n (pc := 44) (i := 3) (ls2 := [some (vr 8 (some 0)), some (vi x1), some (vi x2), some (vi r5)]) dX8_comes_44 rfl (Nat.le_of_ble_eq_true rfl) rfl ?_
        refine A_iload_n (pc := 45) (i := 3) dX8_comes_45 rfl rfl ?_
        refine A_if_eq (pc := 46) (tgt := 66) dX8_comes_46 (by decide) ?_ ?_
        · refine A_aload_n (pc := 66) (i := 0) dX8_comes_66 rfl rfl ?_
          refine A_iload_n (pc := 67) (i := 1) dX8_comes_67 rfl rfl ?_
          refine A_iload_n (pc := 68) (i := 2) dX8_comes_68 rfl rfl ?_
          refine A_callV (pc := 69) (M' := mX8_laysOut) (As := [vi x1, vi x2]) (st := []) (0, 0) (fun r6 => []) (fun r6 => r6) (a_X8_laysOut x1 x2 h) kD_X8_laysOut kM_X8_164 kI_X8_laysOut kS_X8_laysOut kN_X8 ⟨(Nat.le_of_ble_eq_true rfl), (Nat.le_of_ble_eq_true rfl)⟩ dX8_comes_69 rfl rfl rfl (by decide) rfl (Nat.le_of_ble_eq_true rfl) (Nat.le_of_ble_eq_true rfl) (Nat.le_of_ble_eq_true rfl) (fun _ => rfl) (fun _ => rfl) (fun r6 => ?_)
          refine A_aload_n (pc := 72) (i := 0) dX8_comes_72 rfl rfl ?_
          refine A_getS (pc := 73) (k := 17) (tp := 43) clX8 (Nat.le_of_ble_eq_true rfl) dX8_comes_73 kF_X8_50 rfl rfl rfl ?_
          refine A_iload_n (pc := 76) (i := 2) dX8_comes_76 rfl rfl ?_
          refine A_iaload (pc := 77) (n := 4) (by decide) (by decide) rfl dX8_comes_77 (by decide) ?_
          refine A_iconst (pc := 78) (v := (1 : Int32)) dX8_comes_78 (by decide) ?_
          refine A_isub (pc := 79) dX8_comes_79 ?_
          exact A_retI rfl dX8_comes_80
        · refine A_aload_n (pc := 49) (i := 0) dX8_comes_49 rfl rfl ?_
          refine A_iload_n (pc := 50) (i := 3) dX8_comes_50 rfl rfl ?_
          refine A_iconst (pc := 51) (v := (1 : Int32)) dX8_comes_51 (by decide) ?_
          refine A_icmp_ne (pc := 52) (tgt := 60) dX8_comes_52 (by decide) ?_ ?_
          · refine A_ldc (pc := 60) (v := (-1000003 : Int32)) dX8_comes_60 kK_X8_145 ?_
            refine A_callV (pc := 62) (M' := mX8_finding) (As := [vi (-1000003 : Int32)]) (st := []) (0, 0) (fun r7 => [vi r7.1]) (fun r7 => r7.2) (a_X8_finding (-1000003 : Int32) h) kD_X8_finding kM_X8_126 kI_X8_finding kS_X8_finding kN_X8 ⟨(Nat.le_of_ble_eq_true rfl), (Nat.le_of_ble_eq_true rfl)⟩ dX8_comes_62 rfl rfl rfl (by decide) rfl (Nat.le_of_ble_eq_true rfl) (Nat.le_of_ble_eq_true rfl) (Nat.le_of_ble_eq_true rfl) (fun _ => rfl) (fun _ => rfl) (fun r7 => ?_)
            exact A_retI rfl dX8_comes_65
          · refine A_ldc (pc := 55) (v := (-1000002 : Int32)) dX8_comes_55 kK_X8_130 ?_
            refine A_goto (pc := 57) (tgt := 62) dX8_comes_57 (by decide) ?_
            refine A_callV (pc := 62) (M' := mX8_finding) (As := [vi (-1000002 : Int32)]) (st := []) (0, 0) (fun r8 => [vi r8.1]) (fun r8 => r8.2) (a_X8_finding (-1000002 : Int32) h) kD_X8_finding kM_X8_126 kI_X8_finding kS_X8_finding kN_X8 ⟨(Nat.le_of_ble_eq_true rfl), (Nat.le_of_ble_eq_true rfl)⟩ dX8_comes_62 rfl rfl rfl (by decide) rfl (Nat.le_of_ble_eq_true rfl) (Nat.le_of_ble_eq_true rfl) (Nat.le_of_ble_eq_true rfl) (fun _ => rfl) (fun _ => rfl) (fun r8 => ?_)
            exact A_retI rfl dX8_comes_65
      · refine A_aload_n (pc := 31) (i := 0) dX8_comes_31 rfl rfl ?_
        refine A_ldc (pc := 32) (v := (-1000005 : Int32)) dX8_comes_32 kK_X8_160 ?_
        refine A_callV (pc := 34) (M' := mX8_finding) (As := [vi (-1000005 : Int32)]) (st := []) (0, 0) (fun r9 => [vi r9.1]) (fun r9 => r9.2) (a_X8_finding (-1000005 : Int32) h) kD_X8_finding kM_X8_126 kI_X8_finding kS_X8_finding kN_X8 ⟨(Nat.le_of_ble_eq_true rfl), (Nat.le_of_ble_eq_true rfl)⟩ dX8_comes_34 rfl rfl rfl (by decide) rfl (Nat.le_of_ble_eq_true rfl) (Nat.le_of_ble_eq_true rfl) (Nat.le_of_ble_eq_true rfl) (fun _ => rfl) (fun _ => rfl) (fun r9 => ?_)
        exact A_retI rfl dX8_comes_37
    · refine A_aload_n (pc := 16) (i := 0) dX8_comes_16 rfl rfl ?_
      refine A_ldc (pc := 17) (v := (-1000001 : Int32)) dX8_comes_17 kK_X8_125 ?_
      refine A_callV (pc := 19) (M' := mX8_finding) (As := [vi (-1000001 : Int32)]) (st := []) (0, 0) (fun r10 => [vi r10.1]) (fun r10 => r10.2) (a_X8_finding (-1000001 : Int32) h) kD_X8_finding kM_X8_126 kI_X8_finding kS_X8_finding kN_X8 ⟨(Nat.le_of_ble_eq_true rfl), (Nat.le_of_ble_eq_true rfl)⟩ dX8_comes_19 rfl rfl rfl (by decide) rfl (Nat.le_of_ble_eq_true rfl) (Nat.le_of_ble_eq_true rfl) (Nat.le_of_ble_eq_true rfl) (fun _ => rfl) (fun _ => rfl) (fun r10 => ?_)
      exact A_retI rfl dX8_comes_22

abbrev mX8_counts : MD := (yX8_counts, cX8_counts, 2, none, { frames := 0, cells := 0, slots := 0, locals := 0 }, none)
theorem kD_X8_counts : CodeIn mX8_counts 1 := ⟨kC_X8_counts, by decide +kernel⟩
def f_X8_counts (x1 : Int32) (h : Hp) : Option Hp := (if 0 ≤ x1 ∧ x1 < 8 then (if 0 ≤ x1 ∧ x1 < 8 then (some (wI (wI h 42 0 (Int32.toNatClampNeg x1) ((gI h 42 0 (Int32.toNatClampNeg x1)) + (1 : Int32))) 8 0 16 ((gI (wI h 42 0 (Int32.toNatClampNeg x1) ((gI h 42 0 (Int32.toNatClampNeg x1)) + (1 : Int32))) 8 0 16) + (1 : Int32)))) else none) else none)
set_option maxRecDepth 100000 in
set_option maxHeartbeats 4000000 in
theorem a_X8_counts (x1 : Int32) (h : Hp) : CtA eV mX8_counts U0 U0 [vr 8 (some 0), vi x1] h (f_X8_counts x1 h) := by
  refine Ct.of (ls := [some (vr 8 (some 0)), some (vi x1)]) (n := 0) (by decide +kernel) rfl rfl rfl ?_
  unfold f_X8_counts
  refine A_aload_n (pc := 0) (i := 0) dX8_counts_0 rfl rfl ?_
  refine A_getS (pc := 1) (k := 15) (tp := 42) clX8 (Nat.le_of_ble_eq_true rfl) dX8_counts_1 kF_X8_47 rfl rfl rfl ?_
  refine A_iload_n (pc := 4) (i := 1) dX8_counts_4 rfl rfl ?_
  refine A_dup2 (pc := 5) dX8_counts_5 (fun _ => rfl) (fun _ => cv_catr _ _) ?_
  refine A_iaload (pc := 6) (n := 8) (by decide) (by decide) rfl dX8_counts_6 (by decide) ?_
  refine A_iconst (pc := 7) (v := (1 : Int32)) dX8_counts_7 (by decide) ?_
  refine A_iadd (pc := 8) dX8_counts_8 ?_
  refine A_iastore (pc := 9) (n := 8) (by decide) (by decide) rfl dX8_counts_9 (by decide) ?_
  refine A_aload_n (pc := 10) (i := 0) dX8_counts_10 rfl rfl ?_
  refine A_dup (pc := 11) dX8_counts_11 (fun _ => cv_catr _ _) ?_
  refine A_getI (pc := 12) (k := 16) clX8 (Nat.le_of_ble_eq_true rfl) dX8_counts_12 kF_X8_168 rfl ?_
  refine A_iconst (pc := 15) (v := (1 : Int32)) dX8_counts_15 (by decide) ?_
  refine A_iadd (pc := 16) dX8_counts_16 ?_
  refine A_putI (pc := 17) (k := 16) clX8 (Nat.le_of_ble_eq_true rfl) dX8_counts_17 kF_X8_168 rfl (Or.inl rfl) ⟨rfl, rfl⟩ ?_
  exact A_retV rfl dX8_counts_20

abbrev mX8_between : MD := (yX8_between, cX8_between, 7, (some .int), { frames := 2, cells := 0, slots := 0, locals := 46 }, none)
theorem kD_X8_between : CodeIn mX8_between 3 := ⟨kC_X8_between, by decide +kernel⟩
def fL_X8_between_211 : Nat → Int32 → Int32 → Int32 → Int32 → Int32 → Hp → Option (Int32 × Hp)
  | 0, _, _, _, _, _, _ => none
  | n + 1, x1, x2, x3, x5, x6, h => (if x6 ≤ x3 then (if 0 ≤ (((6 : Int32) * x2) + x3) ∧ (((6 : Int32) * x2) + x3) < 24 then (if 0 ≤ x2 ∧ x2 < 4 then (if 0 ≤ x2 ∧ x2 < 4 then (some (x5, (wI (wI h 44 0 (Int32.toNatClampNeg (((6 : Int32) * x2) + x3)) x1) 43 0 (Int32.toNatClampNeg x2) ((gI (wI h 44 0 (Int32.toNatClampNeg (((6 : Int32) * x2) + x3)) x1) 43 0 (Int32.toNatClampNeg x2)) + (1 : Int32))))) else none) else none) else none) else (if 0 ≤ ((((6 : Int32) * x2) + x6) - (1 : Int32)) ∧ ((((6 : Int32) * x2) + x6) - (1 : Int32)) < 24 then (if 0 ≤ (((6 : Int32) * x2) + x6) ∧ (((6 : Int32) * x2) + x6) < 24 then (if 0 ≤ (((6 : Int32) * x2) + x6) ∧ (((6 : Int32) * x2) + x6) < 24 then ((f_X8_counts (gI (wI h 44 0 (Int32.toNatClampNeg (((6 : Int32) * x2) + x6)) (gI h 44 0 (Int32.toNatClampNeg ((((6 : Int32) * x2) + x6) - (1 : Int32))))) 44 0 (Int32.toNatClampNeg (((6 : Int32) * x2) + x6))) (wI h 44 0 (Int32.toNatClampNeg (((6 : Int32) * x2) + x6)) (gI h 44 0 (Int32.toNatClampNeg ((((6 : Int32) * x2) + x6) - (1 : Int32)))))).bind fun r9 => ((fL_X8_between_211 n) x1 x2 x3 x5 (x6 + (-1)) r9)) else none) else none) else none))
set_option maxRecDepth 100000 in
set_option maxHeartbeats 4000000 in
theorem aL_X8_between_211 : ∀ (n : Nat) (x1 : Int32) (x2 : Int32) (x3 : Int32) (x5 : Int32) (x6 : Int32) (h : Hp), Aw eI U0 mX8_between (0, 0) U0 211 [some (vr 8 (some 0)), some (vi x1), some (vi x2), some (vi x3), none, some (vi x5), some (vi x6)] [] h (fL_X8_between_211 n x1 x2 x3 x5 x6 h) := by
  intro n
  induction n with
  | zero =>
    intro x1 x2 x3 x5 x6 h
    exact Aw.none
  | succ n ih =>
    intro x1 x2 x3 x5 x6 h
    show Aw _ _ _ _ _ _ _ _ _ (fL_X8_between_211 (n + 1) x1 x2 x3 x5 x6 h)
    unfold fL_X8_between_211
    refine A_iload (pc := 211) (i := 6) dX8_between_211 rfl ?_
    refine A_iload_n (pc := 213) (i := 3) dX8_between_213 rfl rfl ?_
    refine A_icmp_le (pc := 214) (tgt := 265) dX8_between_214 (by decide) ?_ ?_
    · refine A_aload_n (pc := 265) (i := 0) dX8_between_265 rfl rfl ?_
      refine A_getS (pc := 266) (k := 18) (tp := 44) clX8 (Nat.le_of_ble_eq_true rfl) dX8_between_266 kF_X8_53 rfl rfl rfl ?_
      refine A_bipush (pc := 269) (v := (6 : Int32)) dX8_between_269 (by decide) ?_
      refine A_iload_n (pc := 271) (i := 2) dX8_between_271 rfl rfl ?_
      refine A_imul (pc := 272) dX8_between_272 ?_
      refine A_iload_n (pc := 273) (i := 3) dX8_between_273 rfl rfl ?_
      refine A_iadd (pc := 274) dX8_between_274 ?_
      refine A_iload_n (pc := 275) (i := 1) dX8_between_275 rfl rfl ?_
      refine A_iastore (pc := 276) (n := 24) (by decide) (by decide) rfl dX8_between_276 (by decide) ?_
      refine A_aload_n (pc := 277) (i := 0) dX8_between_277 rfl rfl ?_
      refine A_getS (pc := 278) (k := 17) (tp := 43) clX8 (Nat.le_of_ble_eq_true rfl) dX8_between_278 kF_X8_50 rfl rfl rfl ?_
      refine A_iload_n (pc := 281) (i := 2) dX8_between_281 rfl rfl ?_
      refine A_dup2 (pc := 282) dX8_between_282 (fun _ => rfl) (fun _ => cv_catr _ _) ?_
      refine A_iaload (pc := 283) (n := 4) (by decide) (by decide) rfl dX8_between_283 (by decide) ?_
      refine A_iconst (pc := 284) (v := (1 : Int32)) dX8_between_284 (by decide) ?_
      refine A_iadd (pc := 285) dX8_between_285 ?_
      refine A_iastore (pc := 286) (n := 4) (by decide) (by decide) rfl dX8_between_286 (by decide) ?_
      refine A_iload (pc := 287) (i := 5) dX8_between_287 rfl ?_
      exact A_retI rfl dX8_between_289
    · refine A_aload_n (pc := 217) (i := 0) dX8_between_217 rfl rfl ?_
      refine A_getS (pc := 218) (k := 18) (tp := 44) clX8 (Nat.le_of_ble_eq_true rfl) dX8_between_218 kF_X8_53 rfl rfl rfl ?_
      refine A_bipush (pc := 221) (v := (6 : Int32)) dX8_between_221 (by decide) ?_
      refine A_iload_n (pc := 223) (i := 2) dX8_between_223 rfl rfl ?_
      refine A_imul (pc := 224) dX8_between_224 ?_
      refine A_iload (pc := 225) (i := 6) dX8_between_225 rfl ?_
      refine A_iadd (pc := 227) dX8_between_227 ?_
      refine A_aload_n (pc := 228) (i := 0) dX8_between_228 rfl rfl ?_
      refine A_getS (pc := 229) (k := 18) (tp := 44) clX8 (Nat.le_of_ble_eq_true rfl) dX8_between_229 kF_X8_53 rfl rfl rfl ?_
      refine A_bipush (pc := 232) (v := (6 : Int32)) dX8_between_232 (by decide) ?_
      refine A_iload_n (pc := 234) (i := 2) dX8_between_234 rfl rfl ?_
      refine A_imul (pc := 235) dX8_between_235 ?_
      refine A_iload (pc := 236) (i := 6) dX8_between_236 rfl ?_
      refine A_iadd (pc := 238) dX8_between_238 ?_
      refine A_iconst (pc := 239) (v := (1 : Int32)) dX8_between_239 (by decide) ?_
      refine A_isub (pc := 240) dX8_between_240 ?_
      refine A_iaload (pc := 241) (n := 24) (by decide) (by decide) rfl dX8_between_241 (by decide) ?_
      refine A_iastore (pc := 242) (n := 24) (by decide) (by decide) rfl dX8_between_242 (by decide) ?_
      refine A_aload_n (pc := 243) (i := 0) dX8_between_243 rfl rfl ?_
      refine A_aload_n (pc := 244) (i := 0) dX8_between_244 rfl rfl ?_
      refine A_getS (pc := 245) (k := 18) (tp := 44) clX8 (Nat.le_of_ble_eq_true rfl) dX8_between_245 kF_X8_53 rfl rfl rfl ?_
      refine A_bipush (pc := 248) (v := (6 : Int32)) dX8_between_248 (by decide) ?_
      refine A_iload_n (pc := 250) (i := 2) dX8_between_250 rfl rfl ?_
      refine A_imul (pc := 251) dX8_between_251 ?_
      refine A_iload (pc := 252) (i := 6) dX8_between_252 rfl ?_
      refine A_iadd (pc := 254) dX8_between_254 ?_
      refine A_iaload (pc := 255) (n := 24) (by decide) (by decide) rfl dX8_between_255 (by decide) ?_
      refine A_callV (pc := 256) (M' := mX8_counts) (As := [vi (gI (wI h 44 0 (Int32.toNatClampNeg (((6 : Int32) * x2) + x6)) (gI h 44 0 (Int32.toNatClampNeg ((((6 : Int32) * x2) + x6) - (1 : Int32))))) 44 0 (Int32.toNatClampNeg (((6 : Int32) * x2) + x6)))]) (st := []) (0, 0) (fun r9 => []) (fun r9 => r9) (a_X8_counts (gI (wI h 44 0 (Int32.toNatClampNeg (((6 : Int32) * x2) + x6)) (gI h 44 0 (Int32.toNatClampNeg ((((6 : Int32) * x2) + x6) - (1 : Int32))))) 44 0 (Int32.toNatClampNeg (((6 : Int32) * x2) + x6))) (wI h 44 0 (Int32.toNatClampNeg (((6 : Int32) * x2) + x6)) (gI h 44 0 (Int32.toNatClampNeg ((((6 : Int32) * x2) + x6) - (1 : Int32)))))) kD_X8_counts kM_X8_171 kI_X8_counts kS_X8_counts kN_X8 ⟨(Nat.le_of_ble_eq_true rfl), (Nat.le_of_ble_eq_true rfl)⟩ dX8_between_256 rfl rfl rfl (by decide) rfl (Nat.le_of_ble_eq_true rfl) (Nat.le_of_ble_eq_true rfl) (Nat.le_of_ble_eq_true rfl) (fun _ => rfl) (fun _ => rfl) (fun r9 => ?_)
      refine A_iinc (pc := 259) (i := 6) (v := (x6 + (-1))) (ls2 := [some (vr 8 (some 0)), some (vi x1), some (vi x2), some (vi x3), none, some (vi x5), some (vi (x6 + (-1)))]) dX8_between_259 rfl rfl (Nat.le_of_ble_eq_true rfl) rfl ?_
      refine A_goto (pc := 262) (tgt := 211) dX8_between_262 (by decide) ?_
      exact Aw.weak (ls' := [some (vr 8 (some 0)), some (vi x1), some (vi x2), some (vi x3), none, some (vi x5), some (vi (x6 + (-1)))]) ⟨rfl, ⟨rfl, ⟨rfl, ⟨rfl, ⟨rfl, ⟨rfl, trivial⟩⟩⟩⟩⟩⟩ (ih x1 x2 x3 x5 (x6 + (-1)) r9)
def fJ_X8_between_135 (c100 : Int32 → Int32 → Int32 → Int32 → Int32 → Hp → Option (Int32 × Hp)) (x1 : Int32) (x2 : Int32) (x3 : Int32) (x4 : Int32) (x5 : Int32) (xs0 : Int32) (h : Hp) : Option (Int32 × Hp) := (if x4 = 0 then (c100 x1 x2 x3 (0 : Int32) (x5 + 1) h) else (if 0 ≤ (((6 : Int32) * x2) + x5) ∧ (((6 : Int32) * x2) + x5) < 24 then ((f_X8_whyNot (gI h 44 0 (Int32.toNatClampNeg (((6 : Int32) * x2) + x5))) x2 (x5 + (1 : Int32)) xs0 h).bind fun r11 => (if r11 = 0 then (c100 x1 x2 x3 (1 : Int32) (x5 + 1) h) else (c100 x1 x2 x3 (0 : Int32) (x5 + 1) h))) else none))
set_option maxRecDepth 100000 in
set_option maxHeartbeats 4000000 in
theorem aJ_X8_between_135 (c100 : Int32 → Int32 → Int32 → Int32 → Int32 → Hp → Option (Int32 × Hp)) (hc100 : ∀ (x1 : Int32) (x2 : Int32) (x3 : Int32) (x4 : Int32) (x5 : Int32) (h : Hp), Aw eI U0 mX8_between (0, 0) U0 100 [some (vr 8 (some 0)), some (vi x1), some (vi x2), some (vi x3), some (vi x4), some (vi x5), none] [] h (c100 x1 x2 x3 x4 x5 h)) (x1 : Int32) (x2 : Int32) (x3 : Int32) (x4 : Int32) (x5 : Int32) (xs0 : Int32) (h : Hp) : Aw eI U0 mX8_between (0, 0) U0 135 [some (vr 8 (some 0)), some (vi x1), some (vi x2), some (vi x3), some (vi x4), some (vi x5), none] [vi xs0] h (fJ_X8_between_135 c100 x1 x2 x3 x4 x5 xs0 h) := by
  unfold fJ_X8_between_135
  refine A_istore (pc := 135) (i := 6) (ls2 := [some (vr 8 (some 0)), some (vi x1), some (vi x2), some (vi x3), some (vi x4), some (vi x5), some (vi xs0)]) dX8_between_135 (Nat.le_of_ble_eq_true rfl) rfl ?_
  refine A_iload (pc := 137) (i := 4) dX8_between_137 rfl ?_
  refine A_if_eq (pc := 139) (tgt := 172) dX8_between_139 (by decide) ?_ ?_
  · refine A_iconst (pc := 172) (v := (0 : Int32)) dX8_between_172 (by decide) ?_
    refine A_istore (pc := 173) (i := 4) (ls2 := [some (vr 8 (some 0)), some (vi x1), some (vi x2), some (vi x3), some (vi (0 : Int32)), some (vi x5), some (vi xs0)]) dX8_between_173 (Nat.le_of_ble_eq_true rfl) rfl ?_
    refine A_iinc (pc := 175) (i := 5) (v := (x5 + 1)) (ls2 := [some (vr 8 (some 0)), some (vi x1), some (vi x2), some (vi x3), some (vi (0 : Int32)), some (vi (x5 + 1)), some (vi xs0)]) dX8_between_175 rfl rfl (Nat.le_of_ble_eq_true rfl) rfl ?_
    refine A_goto (pc := 178) (tgt := 100) dX8_between_178 (by decide) ?_
    exact Aw.weak (ls' := [some (vr 8 (some 0)), some (vi x1), some (vi x2), some (vi x3), some (vi (0 : Int32)), some (vi (x5 + 1)), none]) ⟨rfl, ⟨rfl, ⟨rfl, ⟨rfl, ⟨rfl, ⟨rfl, trivial⟩⟩⟩⟩⟩⟩ (hc100 x1 x2 x3 (0 : Int32) (x5 + 1) h)
  · refine A_aload_n (pc := 142) (i := 0) dX8_between_142 rfl rfl ?_
    refine A_aload_n (pc := 143) (i := 0) dX8_between_143 rfl rfl ?_
    refine A_getS (pc := 144) (k := 18) (tp := 44) clX8 (Nat.le_of_ble_eq_true rfl) dX8_between_144 kF_X8_53 rfl rfl rfl ?_
    refine A_bipush (pc := 147) (v := (6 : Int32)) dX8_between_147 (by decide) ?_
    refine A_iload_n (pc := 149) (i := 2) dX8_between_149 rfl rfl ?_
    refine A_imul (pc := 150) dX8_between_150 ?_
    refine A_iload (pc := 151) (i := 5) dX8_between_151 rfl ?_
    refine A_iadd (pc := 153) dX8_between_153 ?_
    refine A_iaload (pc := 154) (n := 24) (by decide) (by decide) rfl dX8_between_154 (by decide) ?_
    refine A_iload_n (pc := 155) (i := 2) dX8_between_155 rfl rfl ?_
    refine A_iload (pc := 156) (i := 5) dX8_between_156 rfl ?_
    refine A_iconst (pc := 158) (v := (1 : Int32)) dX8_between_158 (by decide) ?_
    refine A_iadd (pc := 159) dX8_between_159 ?_
    refine A_iload (pc := 160) (i := 6) dX8_between_160 rfl ?_
    refine A_callV (pc := 162) (M' := mX8_whyNot) (As := [vi (gI h 44 0 (Int32.toNatClampNeg (((6 : Int32) * x2) + x5))), vi x2, vi (x5 + (1 : Int32)), vi xs0]) (st := []) (0, 0) (fun r11 => [vi r11]) (fun _ => h) (a_X8_whyNot (gI h 44 0 (Int32.toNatClampNeg (((6 : Int32) * x2) + x5))) x2 (x5 + (1 : Int32)) xs0 h) kD_X8_whyNot kM_X8_156 kI_X8_whyNot kS_X8_whyNot kN_X8 ⟨(Nat.le_of_ble_eq_true rfl), (Nat.le_of_ble_eq_true rfl)⟩ dX8_between_162 rfl rfl rfl (by decide) rfl (Nat.le_of_ble_eq_true rfl) (Nat.le_of_ble_eq_true rfl) (Nat.le_of_ble_eq_true rfl) (fun _ => rfl) (fun _ => rfl) (fun r11 => ?_)
    refine A_if_ne (pc := 165) (tgt := 172) dX8_between_165 (by decide) ?_ ?_
    · refine A_iconst (pc := 172) (v := (0 : Int32)) dX8_between_172 (by decide) ?_
      refine A_istore (pc := 173) (i := 4) (ls2 := [some (vr 8 (some 0)), some (vi x1), some (vi x2), some (vi x3), some (vi (0 : Int32)), some (vi x5), some (vi xs0)]) dX8_between_173 (Nat.le_of_ble_eq_true rfl) rfl ?_
      refine A_iinc (pc := 175) (i := 5) (v := (x5 + 1)) (ls2 := [some (vr 8 (some 0)), some (vi x1), some (vi x2), some (vi x3), some (vi (0 : Int32)), some (vi (x5 + 1)), some (vi xs0)]) dX8_between_175 rfl rfl (Nat.le_of_ble_eq_true rfl) rfl ?_
      refine A_goto (pc := 178) (tgt := 100) dX8_between_178 (by decide) ?_
      exact Aw.weak (ls' := [some (vr 8 (some 0)), some (vi x1), some (vi x2), some (vi x3), some (vi (0 : Int32)), some (vi (x5 + 1)), none]) ⟨rfl, ⟨rfl, ⟨rfl, ⟨rfl, ⟨rfl, ⟨rfl, trivial⟩⟩⟩⟩⟩⟩ (hc100 x1 x2 x3 (0 : Int32) (x5 + 1) h)
    · refine A_iconst (pc := 168) (v := (1 : Int32)) dX8_between_168 (by decide) ?_
      refine A_goto (pc := 169) (tgt := 173) dX8_between_169 (by decide) ?_
      refine A_istore (pc := 173) (i := 4) (ls2 := [some (vr 8 (some 0)), some (vi x1), some (vi x2), some (vi x3), some (vi (1 : Int32)), some (vi x5), some (vi xs0)]) dX8_between_173 (Nat.le_of_ble_eq_true rfl) rfl ?_
      refine A_iinc (pc := 175) (i := 5) (v := (x5 + 1)) (ls2 := [some (vr 8 (some 0)), some (vi x1), some (vi x2), some (vi x3), some (vi (1 : Int32)), some (vi (x5 + 1)), some (vi xs0)]) dX8_between_175 rfl rfl (Nat.le_of_ble_eq_true rfl) rfl ?_
      refine A_goto (pc := 178) (tgt := 100) dX8_between_178 (by decide) ?_
      exact Aw.weak (ls' := [some (vr 8 (some 0)), some (vi x1), some (vi x2), some (vi x3), some (vi (1 : Int32)), some (vi (x5 + 1)), none]) ⟨rfl, ⟨rfl, ⟨rfl, ⟨rfl, ⟨rfl, ⟨rfl, trivial⟩⟩⟩⟩⟩⟩ (hc100 x1 x2 x3 (1 : Int32) (x5 + 1) h)
def fL_X8_between_100 : Nat → Int32 → Int32 → Int32 → Int32 → Int32 → Hp → Option (Int32 × Hp)
  | 0, _, _, _, _, _, _ => none
  | n + 1, x1, x2, x3, x4, x5, h => (if 0 ≤ x2 ∧ x2 < 4 then (if (gI h 43 0 (Int32.toNatClampNeg x2)) ≤ x5 then (if x4 = 0 then ((f_X8_finding (-1000003 : Int32) h).bind fun r10 => (some (r10.1, r10.2))) else (if 0 ≤ x2 ∧ x2 < 4 then (if 0 ≤ x2 ∧ x2 < 4 then (fL_X8_between_211 FU x1 x2 x3 ((gI h 43 0 (Int32.toNatClampNeg x2)) - x3) (gI h 43 0 (Int32.toNatClampNeg x2)) h) else none) else none)) else (if x5 = x3 then (fJ_X8_between_135 (fL_X8_between_100 n) x1 x2 x3 x4 x5 x1 h) else (if 0 ≤ ((((6 : Int32) * x2) + x5) - (1 : Int32)) ∧ ((((6 : Int32) * x2) + x5) - (1 : Int32)) < 24 then (fJ_X8_between_135 (fL_X8_between_100 n) x1 x2 x3 x4 x5 (gI h 44 0 (Int32.toNatClampNeg ((((6 : Int32) * x2) + x5) - (1 : Int32)))) h) else none))) else none)
set_option maxRecDepth 100000 in
set_option maxHeartbeats 4000000 in
theorem aL_X8_between_100 : ∀ (n : Nat) (x1 : Int32) (x2 : Int32) (x3 : Int32) (x4 : Int32) (x5 : Int32) (h : Hp), Aw eI U0 mX8_between (0, 0) U0 100 [some (vr 8 (some 0)), some (vi x1), some (vi x2), some (vi x3), some (vi x4), some (vi x5), none] [] h (fL_X8_between_100 n x1 x2 x3 x4 x5 h) := by
  intro n
  induction n with
  | zero =>
    intro x1 x2 x3 x4 x5 h
    exact Aw.none
  | succ n ih =>
    intro x1 x2 x3 x4 x5 h
    show Aw _ _ _ _ _ _ _ _ _ (fL_X8_between_100 (n + 1) x1 x2 x3 x4 x5 h)
    unfold fL_X8_between_100
    refine A_iload (pc := 100) (i := 5) dX8_between_100 rfl ?_
    refine A_aload_n (pc := 102) (i := 0) dX8_between_102 rfl rfl ?_
    refine A_getS (pc := 103) (k := 17) (tp := 43) clX8 (Nat.le_of_ble_eq_true rfl) dX8_between_103 kF_X8_50 rfl rfl rfl ?_
    refine A_iload_n (pc := 106) (i := 2) dX8_between_106 rfl rfl ?_
    refine A_iaload (pc := 107) (n := 4) (by decide) (by decide) rfl dX8_between_107 (by decide) ?_
    refine A_icmp_ge (pc := 108) (tgt := 181) dX8_between_108 (by decide) ?_ ?_
    · refine A_iload (pc := 181) (i := 4) dX8_between_181 rfl ?_
      refine A_if_ne (pc := 183) (tgt := 193) dX8_between_183 (by decide) ?_ ?_
      · refine A_aload_n (pc := 193) (i := 0) dX8_between_193 rfl rfl ?_
        refine A_getS (pc := 194) (k := 17) (tp := 43) clX8 (Nat.le_of_ble_eq_true rfl) dX8_between_194 kF_X8_50 rfl rfl rfl ?_
        refine A_iload_n (pc := 197) (i := 2) dX8_between_197 rfl rfl ?_
        refine A_iaload (pc := 198) (n := 4) (by decide) (by decide) rfl dX8_between_198 (by decide) ?_
        refine A_iload_n (pc := 199) (i := 3) dX8_between_199 rfl rfl ?_
        refine A_isub (pc := 200) dX8_between_200 ?_
        refine A_istore (pc := 201) (i := 5) (ls2 := [some (vr 8 (some 0)), some (vi x1), some (vi x2), some (vi x3), some (vi x4), some (vi ((gI h 43 0 (Int32.toNatClampNeg x2)) - x3)), none]) dX8_between_201 (Nat.le_of_ble_eq_true rfl) rfl ?_
        refine A_aload_n (pc := 203) (i := 0) dX8_between_203 rfl rfl ?_
        refine A_getS (pc := 204) (k := 17) (tp := 43) clX8 (Nat.le_of_ble_eq_true rfl) dX8_between_204 kF_X8_50 rfl rfl rfl ?_
        refine A_iload_n (pc := 207) (i := 2) dX8_between_207 rfl rfl ?_
        refine A_iaload (pc := 208) (n := 4) (by decide) (by decide) rfl dX8_between_208 (by decide) ?_
        refine A_istore (pc := 209) (i := 6) (ls2 := [some (vr 8 (some 0)), some (vi x1), some (vi x2), some (vi x3), some (vi x4), some (vi ((gI h 43 0 (Int32.toNatClampNeg x2)) - x3)), some (vi (gI h 43 0 (Int32.toNatClampNeg x2)))]) dX8_between_209 (Nat.le_of_ble_eq_true rfl) rfl ?_
        exact Aw.weak (ls' := [some (vr 8 (some 0)), some (vi x1), some (vi x2), some (vi x3), none, some (vi ((gI h 43 0 (Int32.toNatClampNeg x2)) - x3)), some (vi (gI h 43 0 (Int32.toNatClampNeg x2)))]) ⟨rfl, ⟨rfl, ⟨rfl, ⟨rfl, ⟨rfl, ⟨rfl, trivial⟩⟩⟩⟩⟩⟩ (aL_X8_between_211 FU x1 x2 x3 ((gI h 43 0 (Int32.toNatClampNeg x2)) - x3) (gI h 43 0 (Int32.toNatClampNeg x2)) h)
      · refine A_aload_n (pc := 186) (i := 0) dX8_between_186 rfl rfl ?_
        refine A_ldc (pc := 187) (v := (-1000003 : Int32)) dX8_between_187 kK_X8_145 ?_
        refine A_callV (pc := 189) (M' := mX8_finding) (As := [vi (-1000003 : Int32)]) (st := []) (0, 0) (fun r10 => [vi r10.1]) (fun r10 => r10.2) (a_X8_finding (-1000003 : Int32) h) kD_X8_finding kM_X8_126 kI_X8_finding kS_X8_finding kN_X8 ⟨(Nat.le_of_ble_eq_true rfl), (Nat.le_of_ble_eq_true rfl)⟩ dX8_between_189 rfl rfl rfl (by decide) rfl (Nat.le_of_ble_eq_true rfl) (Nat.le_of_ble_eq_true rfl) (Nat.le_of_ble_eq_true rfl) (fun _ => rfl) (fun _ => rfl) (fun r10 => ?_)
        exact A_retI rfl dX8_between_192
    · refine A_iload (pc := 111) (i := 5) dX8_between_111 rfl ?_
      refine A_iload_n (pc := 113) (i := 3) dX8_between_113 rfl rfl ?_
      refine A_icmp_ne (pc := 114) (tgt := 121) dX8_between_114 (by decide) ?_ ?_
      · refine A_aload_n (pc := 121) (i := 0) dX8_between_121 rfl rfl ?_
        refine A_getS (pc := 122) (k := 18) (tp := 44) clX8 (Nat.le_of_ble_eq_true rfl) dX8_between_122 kF_X8_53 rfl rfl rfl ?_
        refine A_bipush (pc := 125) (v := (6 : Int32)) dX8_between_125 (by decide) ?_
        refine A_iload_n (pc := 127) (i := 2) dX8_between_127 rfl rfl ?_
        refine A_imul (pc := 128) dX8_between_128 ?_
        refine A_iload (pc := 129) (i := 5) dX8_between_129 rfl ?_
        refine A_iadd (pc := 131) dX8_between_131 ?_
        refine A_iconst (pc := 132) (v := (1 : Int32)) dX8_between_132 (by decide) ?_
        refine A_isub (pc := 133) dX8_between_133 ?_
        refine A_iaload (pc := 134) (n := 24) (by decide) (by decide) rfl dX8_between_134 (by decide) ?_
        exact Aw.weak (ls' := [some (vr 8 (some 0)), some (vi x1), some (vi x2), some (vi x3), some (vi x4), some (vi x5), none]) ⟨rfl, ⟨rfl, ⟨rfl, ⟨rfl, ⟨rfl, ⟨rfl, trivial⟩⟩⟩⟩⟩⟩ (aJ_X8_between_135 (fL_X8_between_100 n) ih x1 x2 x3 x4 x5 (gI h 44 0 (Int32.toNatClampNeg ((((6 : Int32) * x2) + x5) - (1 : Int32)))) h)
      · refine A_iload_n (pc := 117) (i := 1) dX8_between_117 rfl rfl ?_
        refine A_goto (pc := 118) (tgt := 135) dX8_between_118 (by decide) ?_
        exact Aw.weak (ls' := [some (vr 8 (some 0)), some (vi x1), some (vi x2), some (vi x3), some (vi x4), some (vi x5), none]) ⟨rfl, ⟨rfl, ⟨rfl, ⟨rfl, ⟨rfl, ⟨rfl, trivial⟩⟩⟩⟩⟩⟩ (aJ_X8_between_135 (fL_X8_between_100 n) ih x1 x2 x3 x4 x5 x1 h)
def f_X8_between (x1 : Int32) (x2 : Int32) (x3 : Int32) (h : Hp) : Option (Int32 × Hp) := ((f_X8_isBoat x1 h).bind fun r1 => (if r1 = true then ((f_X8_isBerth x2 h).bind fun r3 => (if r3 = true then (if 0 ≤ x2 ∧ x2 < 4 then ((f_X8_within x3 (0 : Int32) (gI h 43 0 (Int32.toNatClampNeg x2)) h).bind fun r5 => (if r5 = true then ((f_X8_spotOf x1 h).bind fun r6 => (if r6 < 0 then (if 0 ≤ x2 ∧ x2 < 4 then (if 0 ≤ x2 ∧ x2 < 4 then (if (gI h 43 0 (Int32.toNatClampNeg x2)) = (gI h 32 0 (Int32.toNatClampNeg x2)) then ((f_X8_finding (-1000002 : Int32) h).bind fun r12 => (some (r12.1, r12.2))) else ((f_X8_insideOf x2 x3 h).bind fun r7 => ((f_X8_whyNot x1 x2 x3 r7 h).bind fun r8 => (if r8 = 0 then (fL_X8_between_100 FU x1 x2 x3 (1 : Int32) x3 h) else (fL_X8_between_100 FU x1 x2 x3 (0 : Int32) x3 h))))) else none) else none) else ((f_X8_finding (-1000005 : Int32) h).bind fun r13 => (some (r13.1, r13.2))))) else ((f_X8_finding (-1000001 : Int32) h).bind fun r14 => (some (r14.1, r14.2))))) else none) else ((f_X8_finding (-1000001 : Int32) h).bind fun r4 => (some (r4.1, r4.2))))) else ((f_X8_finding (-1000001 : Int32) h).bind fun r2 => (some (r2.1, r2.2)))))
set_option maxRecDepth 100000 in
set_option maxHeartbeats 4000000 in
theorem a_X8_between (x1 : Int32) (x2 : Int32) (x3 : Int32) (h : Hp) : CtA eI mX8_between U0 U0 [vr 8 (some 0), vi x1, vi x2, vi x3] h (f_X8_between x1 x2 x3 h) := by
  refine Ct.of (ls := [some (vr 8 (some 0)), some (vi x1), some (vi x2), some (vi x3), none, none, none]) (n := 3) (by decide +kernel) rfl rfl rfl ?_
  unfold f_X8_between
  refine A_aload_n (pc := 0) (i := 0) dX8_between_0 rfl rfl ?_
  refine A_iload_n (pc := 1) (i := 1) dX8_between_1 rfl rfl ?_
  refine A_callV (pc := 2) (M' := mX8_isBoat) (As := [vi x1]) (st := []) (0, 0) (fun r1 => [vi (bi r1)]) (fun _ => h) (a_X8_isBoat x1 h) kD_X8_isBoat kM_X8_131 kI_X8_isBoat kS_X8_isBoat kN_X8 ⟨(Nat.le_of_ble_eq_true rfl), (Nat.le_of_ble_eq_true rfl)⟩ dX8_between_2 rfl rfl rfl (by decide) rfl (Nat.le_of_ble_eq_true rfl) (Nat.le_of_ble_eq_true rfl) (Nat.le_of_ble_eq_true rfl) (fun _ => rfl) (fun _ => rfl) (fun r1 => ?_)
  refine A_ifb_eq (pc := 5) (tgt := 30) dX8_between_5 (by decide) ?_ ?_
  · refine A_aload_n (pc := 30) (i := 0) dX8_between_30 rfl rfl ?_
    refine A_ldc (pc := 31) (v := (-1000001 : Int32)) dX8_between_31 kK_X8_125 ?_
    refine A_callV (pc := 33) (M' := mX8_finding) (As := [vi (-1000001 : Int32)]) (st := []) (0, 0) (fun r2 => [vi r2.1]) (fun r2 => r2.2) (a_X8_finding (-1000001 : Int32) h) kD_X8_finding kM_X8_126 kI_X8_finding kS_X8_finding kN_X8 ⟨(Nat.le_of_ble_eq_true rfl), (Nat.le_of_ble_eq_true rfl)⟩ dX8_between_33 rfl rfl rfl (by decide) rfl (Nat.le_of_ble_eq_true rfl) (Nat.le_of_ble_eq_true rfl) (Nat.le_of_ble_eq_true rfl) (fun _ => rfl) (fun _ => rfl) (fun r2 => ?_)
    exact A_retI rfl dX8_between_36
  · refine A_aload_n (pc := 8) (i := 0) dX8_between_8 rfl rfl ?_
    refine A_iload_n (pc := 9) (i := 2) dX8_between_9 rfl rfl ?_
    refine A_callV (pc := 10) (M' := mX8_isBerth) (As := [vi x2]) (st := []) (0, 0) (fun r3 => [vi (bi r3)]) (fun _ => h) (a_X8_isBerth x2 h) kD_X8_isBerth kM_X8_149 kI_X8_isBerth kS_X8_isBerth kN_X8 ⟨(Nat.le_of_ble_eq_true rfl), (Nat.le_of_ble_eq_true rfl)⟩ dX8_between_10 rfl rfl rfl (by decide) rfl (Nat.le_of_ble_eq_true rfl) (Nat.le_of_ble_eq_true rfl) (Nat.le_of_ble_eq_true rfl) (fun _ => rfl) (fun _ => rfl) (fun r3 => ?_)
    refine A_ifb_eq (pc := 13) (tgt := 30) dX8_between_13 (by decide) ?_ ?_
    · refine A_aload_n (pc := 30) (i := 0) dX8_between_30 rfl rfl ?_
      refine A_ldc (pc := 31) (v := (-1000001 : Int32)) dX8_between_31 kK_X8_125 ?_
      refine A_callV (pc := 33) (M' := mX8_finding) (As := [vi (-1000001 : Int32)]) (st := []) (0, 0) (fun r4 => [vi r4.1]) (fun r4 => r4.2) (a_X8_finding (-1000001 : Int32) h) kD_X8_finding kM_X8_126 kI_X8_finding kS_X8_finding kN_X8 ⟨(Nat.le_of_ble_eq_true rfl), (Nat.le_of_ble_eq_true rfl)⟩ dX8_between_33 rfl rfl rfl (by decide) rfl (Nat.le_of_ble_eq_true rfl) (Nat.le_of_ble_eq_true rfl) (Nat.le_of_ble_eq_true rfl) (fun _ => rfl) (fun _ => rfl) (fun r4 => ?_)
      exact A_retI rfl dX8_between_36
    · refine A_iload_n (pc := 16) (i := 3) dX8_between_16 rfl rfl ?_
      refine A_iconst (pc := 17) (v := (0 : Int32)) dX8_between_17 (by decide) ?_
      refine A_aload_n (pc := 18) (i := 0) dX8_between_18 rfl rfl ?_
      refine A_getS (pc := 19) (k := 17) (tp := 43) clX8 (Nat.le_of_ble_eq_true rfl) dX8_between_19 kF_X8_50 rfl rfl rfl ?_
      refine A_iload_n (pc := 22) (i := 2) dX8_between_22 rfl rfl ?_
      refine A_iaload (pc := 23) (n := 4) (by decide) (by decide) rfl dX8_between_23 (by decide) ?_
      refine A_callS (pc := 24) (M' := mX8_within) (As := [vi x3, vi (0 : Int32), vi (gI h 43 0 (Int32.toNatClampNeg x2))]) (st := []) (0, 0) (fun r5 => [vi (bi r5)]) (fun _ => h) (a_X8_within x3 (0 : Int32) (gI h 43 0 (Int32.toNatClampNeg x2)) h) kD_X8_within kM_X8_118 kT_X8_within kN_X8 ⟨(Nat.le_of_ble_eq_true rfl), (Nat.le_of_ble_eq_true rfl)⟩ dX8_between_24 rfl rfl (Nat.le_of_ble_eq_true rfl) (Nat.le_of_ble_eq_true rfl) (Nat.le_of_ble_eq_true rfl) (fun _ => rfl) (fun _ => rfl) (fun r5 => ?_)
      refine A_ifb_ne (pc := 27) (tgt := 37) dX8_between_27 (by decide) ?_ ?_
      · refine A_aload_n (pc := 37) (i := 0) dX8_between_37 rfl rfl ?_
        refine A_iload_n (pc := 38) (i := 1) dX8_between_38 rfl rfl ?_
        refine A_callV (pc := 39) (M' := mX8_spotOf) (As := [vi x1]) (st := []) (0, 0) (fun r6 => [vi r6]) (fun _ => h) (a_X8_spotOf x1 h) kD_X8_spotOf kM_X8_146 kI_X8_spotOf kS_X8_spotOf kN_X8 ⟨(Nat.le_of_ble_eq_true rfl), (Nat.le_of_ble_eq_true rfl)⟩ dX8_between_39 rfl rfl rfl (by decide) rfl (Nat.le_of_ble_eq_true rfl) (Nat.le_of_ble_eq_true rfl) (Nat.le_of_ble_eq_true rfl) (fun _ => rfl) (fun _ => rfl) (fun r6 => ?_)
        refine A_if_lt (pc := 42) (tgt := 52) dX8_between_42 (by decide) ?_ ?_
        · refine A_aload_n (pc := 52) (i := 0) dX8_between_52 rfl rfl ?_
          refine A_getS (pc := 53) (k := 17) (tp := 43) clX8 (Nat.le_of_ble_eq_true rfl) dX8_between_53 kF_X8_50 rfl rfl rfl ?_
          refine A_iload_n (pc := 56) (i := 2) dX8_between_56 rfl rfl ?_
          refine A_iaload (pc := 57) (n := 4) (by decide) (by decide) rfl dX8_between_57 (by decide) ?_
          refine A_aload_n (pc := 58) (i := 0) dX8_between_58 rfl rfl ?_
          refine A_getS (pc := 59) (k := 3) (tp := 32) clX8 (Nat.le_of_ble_eq_true rfl) dX8_between_59 kF_X8_16 rfl rfl rfl ?_
          refine A_iload_n (pc := 62) (i := 2) dX8_between_62 rfl rfl ?_
          refine A_iaload (pc := 63) (n := 4) (by decide) (by decide) rfl dX8_between_63 (by decide) ?_
          refine A_icmp_ne (pc := 64) (tgt := 74) dX8_between_64 (by decide) ?_ ?_
          · refine A_aload_n (pc := 74) (i := 0) dX8_between_74 rfl rfl ?_
            refine A_iload_n (pc := 75) (i := 1) dX8_between_75 rfl rfl ?_
            refine A_iload_n (pc := 76) (i := 2) dX8_between_76 rfl rfl ?_
            refine A_iload_n (pc := 77) (i := 3) dX8_between_77 rfl rfl ?_
            refine A_aload_n (pc := 78) (i := 0) dX8_between_78 rfl rfl ?_
            refine A_iload_n (pc := 79) (i := 2) dX8_between_79 rfl rfl ?_
            refine A_iload_n (pc := 80) (i := 3) dX8_between_80 rfl rfl ?_
            refine A_callV (pc := 81) (M' := mX8_insideOf) (As := [vi x2, vi x3]) (st := [vi x3, vi x2, vi x1, vr 8 (some 0)]) (0, 0) (fun r7 => [vi r7, vi x3, vi x2, vi x1, vr 8 (some 0)]) (fun _ => h) (a_X8_insideOf x2 x3 h) kD_X8_insideOf kM_X8_152 kI_X8_insideOf kS_X8_insideOf kN_X8 ⟨(Nat.le_of_ble_eq_true rfl), (Nat.le_of_ble_eq_true rfl)⟩ dX8_between_81 rfl rfl rfl (by decide) rfl (Nat.le_of_ble_eq_true rfl) (Nat.le_of_ble_eq_true rfl) (Nat.le_of_ble_eq_true rfl) (fun _ => rfl) (fun _ => rfl) (fun r7 => ?_)
            refine A_callV (pc := 84) (M' := mX8_whyNot) (As := [vi x1, vi x2, vi x3, vi r7]) (st := []) (0, 0) (fun r8 => [vi r8]) (fun _ => h) (a_X8_whyNot x1 x2 x3 r7 h) kD_X8_whyNot kM_X8_156 kI_X8_whyNot kS_X8_whyNot kN_X8 ⟨(Nat.le_of_ble_eq_true rfl), (Nat.le_of_ble_eq_true rfl)⟩ dX8_between_84 rfl rfl rfl (by decide) rfl (Nat.le_of_ble_eq_true rfl) (Nat.le_of_ble_eq_true rfl) (Nat.le_of_ble_eq_true rfl) (fun _ => rfl) (fun _ => rfl) (fun r8 => ?_)
            refine A_if_ne (pc := 87) (tgt := 94) dX8_between_87 (by decide) ?_ ?_
            · refine A_iconst (pc := 94) (v := (0 : Int32)) dX8_between_94 (by decide) ?_
              refine A_istore (pc := 95) (i := 4) (ls2 := [some (vr 8 (some 0)), some (vi x1), some (vi x2), some (vi x3), some (vi (0 : Int32)), none, none]) dX8_between_95 (Nat.le_of_ble_eq_true rfl) rfl ?_
              refine A_iload_n (pc := 97) (i := 3) dX8_between_97 rfl rfl ?_
              refine A_istore (pc := 98) (i := 5) (ls2 := [some (vr 8 (some 0)), some (vi x1), some (vi x2), some (vi x3), some (vi (0 : Int32)), some (vi x3), none]) dX8_between_98 (Nat.le_of_ble_eq_true rfl) rfl ?_
              exact Aw.weak (ls' := [some (vr 8 (some 0)), some (vi x1), some (vi x2), some (vi x3), some (vi (0 : Int32)), some (vi x3), none]) ⟨rfl, ⟨rfl, ⟨rfl, ⟨rfl, ⟨rfl, ⟨rfl, trivial⟩⟩⟩⟩⟩⟩ (aL_X8_between_100 FU x1 x2 x3 (0 : Int32) x3 h)
            · refine A_iconst (pc := 90) (v := (1 : Int32)) dX8_between_90 (by decide) ?_
              refine A_goto (pc := 91) (tgt := 95) dX8_between_91 (by decide) ?_
              refine A_istore (pc := 95) (i := 4) (ls2 := [some (vr 8 (some 0)), some (vi x1), some (vi x2), some (vi x3), some (vi (1 : Int32)), none, none]) dX8_between_95 (Nat.le_of_ble_eq_true rfl) rfl ?_
              refine A_iload_n (pc := 97) (i := 3) dX8_between_97 rfl rfl ?_
              refine A_istore (pc := 98) (i := 5) (ls2 := [some (vr 8 (some 0)), some (vi x1), some (vi x2), some (vi x3), some (vi (1 : Int32)), some (vi x3), none]) dX8_between_98 (Nat.le_of_ble_eq_true rfl) rfl ?_
              exact Aw.weak (ls' := [some (vr 8 (some 0)), some (vi x1), some (vi x2), some (vi x3), some (vi (1 : Int32)), some (vi x3), none]) ⟨rfl, ⟨rfl, ⟨rfl, ⟨rfl, ⟨rfl, ⟨rfl, trivial⟩⟩⟩⟩⟩⟩ (aL_X8_between_100 FU x1 x2 x3 (1 : Int32) x3 h)
          · refine A_aload_n (pc := 67) (i := 0) dX8_between_67 rfl rfl ?_
            refine A_ldc (pc := 68) (v := (-1000002 : Int32)) dX8_between_68 kK_X8_130 ?_
            refine A_callV (pc := 70) (M' := mX8_finding) (As := [vi (-1000002 : Int32)]) (st := []) (0, 0) (fun r12 => [vi r12.1]) (fun r12 => r12.2) (a_X8_finding (-1000002 : Int32) h) kD_X8_finding kM_X8_126 kI_X8_finding kS_X8_finding kN_X8 ⟨(Nat.le_of_ble_eq_true rfl), (Nat.le_of_ble_eq_true rfl)⟩ dX8_between_70 rfl rfl rfl (by decide) rfl (Nat.le_of_ble_eq_true rfl) (Nat.le_of_ble_eq_true rfl) (Nat.le_of_ble_eq_true rfl) (fun _ => rfl) (fun _ => rfl) (fun r12 => ?_)
            exact A_retI rfl dX8_between_73
        · refine A_aload_n (pc := 45) (i := 0) dX8_between_45 rfl rfl ?_
          refine A_ldc (pc := 46) (v := (-1000005 : Int32)) dX8_between_46 kK_X8_160 ?_
          refine A_callV (pc := 48) (M' := mX8_finding) (As := [vi (-1000005 : Int32)]) (st := []) (0, 0) (fun r13 => [vi r13.1]) (fun r13 => r13.2) (a_X8_finding (-1000005 : Int32) h) kD_X8_finding kM_X8_126 kI_X8_finding kS_X8_finding kN_X8 ⟨(Nat.le_of_ble_eq_true rfl), (Nat.le_of_ble_eq_true rfl)⟩ dX8_between_48 rfl rfl rfl (by decide) rfl (Nat.le_of_ble_eq_true rfl) (Nat.le_of_ble_eq_true rfl) (Nat.le_of_ble_eq_true rfl) (fun _ => rfl) (fun _ => rfl) (fun r13 => ?_)
          exact A_retI rfl dX8_between_51
      · refine A_aload_n (pc := 30) (i := 0) dX8_between_30 rfl rfl ?_
        refine A_ldc (pc := 31) (v := (-1000001 : Int32)) dX8_between_31 kK_X8_125 ?_
        refine A_callV (pc := 33) (M' := mX8_finding) (As := [vi (-1000001 : Int32)]) (st := []) (0, 0) (fun r14 => [vi r14.1]) (fun r14 => r14.2) (a_X8_finding (-1000001 : Int32) h) kD_X8_finding kM_X8_126 kI_X8_finding kS_X8_finding kN_X8 ⟨(Nat.le_of_ble_eq_true rfl), (Nat.le_of_ble_eq_true rfl)⟩ dX8_between_33 rfl rfl rfl (by decide) rfl (Nat.le_of_ble_eq_true rfl) (Nat.le_of_ble_eq_true rfl) (Nat.le_of_ble_eq_true rfl) (fun _ => rfl) (fun _ => rfl) (fun r14 => ?_)
        exact A_retI rfl dX8_between_36

abbrev mX8_leavesNow : MD := (yX8_leavesNow, cX8_leavesNow, 5, (some .int), { frames := 1, cells := 0, slots := 0, locals := 21 }, none)
theorem kD_X8_leavesNow : CodeIn mX8_leavesNow 1 := ⟨kC_X8_leavesNow, by decide +kernel⟩
def fL_X8_leavesNow_30 : Nat → Int32 → Int32 → Int32 → Hp → Option (Int32 × Hp)
  | 0, _, _, _, _ => none
  | n + 1, x2, x3, x4, h => (if 0 ≤ x2 ∧ x2 < 4 then (if (((6 : Int32) * x2) + (gI h 43 0 (Int32.toNatClampNeg x2))) ≤ x4 then (some (x3, h)) else (if 0 ≤ (x4 + (1 : Int32)) ∧ (x4 + (1 : Int32)) < 24 then (if 0 ≤ x4 ∧ x4 < 24 then (if 0 ≤ x4 ∧ x4 < 24 then ((f_X8_counts (gI (wI h 44 0 (Int32.toNatClampNeg x4) (gI h 44 0 (Int32.toNatClampNeg (x4 + (1 : Int32))))) 44 0 (Int32.toNatClampNeg x4)) (wI h 44 0 (Int32.toNatClampNeg x4) (gI h 44 0 (Int32.toNatClampNeg (x4 + (1 : Int32)))))).bind fun r1 => ((fL_X8_leavesNow_30 n) x2 x3 (x4 + 1) r1)) else none) else none) else none)) else none)
set_option maxRecDepth 100000 in
set_option maxHeartbeats 4000000 in
theorem aL_X8_leavesNow_30 : ∀ (n : Nat) (x2 : Int32) (x3 : Int32) (x4 : Int32) (h : Hp), Aw eI U0 mX8_leavesNow (0, 0) U0 30 [some (vr 8 (some 0)), none, some (vi x2), some (vi x3), some (vi x4)] [] h (fL_X8_leavesNow_30 n x2 x3 x4 h) := by
  intro n
  induction n with
  | zero =>
    intro x2 x3 x4 h
    exact Aw.none
  | succ n ih =>
    intro x2 x3 x4 h
    show Aw _ _ _ _ _ _ _ _ _ (fL_X8_leavesNow_30 (n + 1) x2 x3 x4 h)
    unfold fL_X8_leavesNow_30
    refine A_iload (pc := 30) (i := 4) dX8_leavesNow_30 rfl ?_
    refine A_bipush (pc := 32) (v := (6 : Int32)) dX8_leavesNow_32 (by decide) ?_
    refine A_iload_n (pc := 34) (i := 2) dX8_leavesNow_34 rfl rfl ?_
    refine A_imul (pc := 35) dX8_leavesNow_35 ?_
    refine A_aload_n (pc := 36) (i := 0) dX8_leavesNow_36 rfl rfl ?_
    refine A_getS (pc := 37) (k := 17) (tp := 43) clX8 (Nat.le_of_ble_eq_true rfl) dX8_leavesNow_37 kF_X8_50 rfl rfl rfl ?_
    refine A_iload_n (pc := 40) (i := 2) dX8_leavesNow_40 rfl rfl ?_
    refine A_iaload (pc := 41) (n := 4) (by decide) (by decide) rfl dX8_leavesNow_41 (by decide) ?_
    refine A_iadd (pc := 42) dX8_leavesNow_42 ?_
    refine A_icmp_ge (pc := 43) (tgt := 79) dX8_leavesNow_43 (by decide) ?_ ?_
    · refine A_iload_n (pc := 79) (i := 3) dX8_leavesNow_79 rfl rfl ?_
      exact A_retI rfl dX8_leavesNow_80
    · refine A_aload_n (pc := 46) (i := 0) dX8_leavesNow_46 rfl rfl ?_
      refine A_getS (pc := 47) (k := 18) (tp := 44) clX8 (Nat.le_of_ble_eq_true rfl) dX8_leavesNow_47 kF_X8_53 rfl rfl rfl ?_
      refine A_iload (pc := 50) (i := 4) dX8_leavesNow_50 rfl ?_
      refine A_aload_n (pc := 52) (i := 0) dX8_leavesNow_52 rfl rfl ?_
      refine A_getS (pc := 53) (k := 18) (tp := 44) clX8 (Nat.le_of_ble_eq_true rfl) dX8_leavesNow_53 kF_X8_53 rfl rfl rfl ?_
      refine A_iload (pc := 56) (i := 4) dX8_leavesNow_56 rfl ?_
      refine A_iconst (pc := 58) (v := (1 : Int32)) dX8_leavesNow_58 (by decide) ?_
      refine A_iadd (pc := 59) dX8_leavesNow_59 ?_
      refine A_iaload (pc := 60) (n := 24) (by decide) (by decide) rfl dX8_leavesNow_60 (by decide) ?_
      refine A_iastore (pc := 61) (n := 24) (by decide) (by decide) rfl dX8_leavesNow_61 (by decide) ?_
      refine A_aload_n (pc := 62) (i := 0) dX8_leavesNow_62 rfl rfl ?_
      refine A_aload_n (pc := 63) (i := 0) dX8_leavesNow_63 rfl rfl ?_
      refine A_getS (pc := 64) (k := 18) (tp := 44) clX8 (Nat.le_of_ble_eq_true rfl) dX8_leavesNow_64 kF_X8_53 rfl rfl rfl ?_
      refine A_iload (pc := 67) (i := 4) dX8_leavesNow_67 rfl ?_
      refine A_iaload (pc := 69) (n := 24) (by decide) (by decide) rfl dX8_leavesNow_69 (by decide) ?_
      refine A_callV (pc := 70) (M' := mX8_counts) (As := [vi (gI (wI h 44 0 (Int32.toNatClampNeg x4) (gI h 44 0 (Int32.toNatClampNeg (x4 + (1 : Int32))))) 44 0 (Int32.toNatClampNeg x4))]) (st := []) (0, 0) (fun r1 => []) (fun r1 => r1) (a_X8_counts (gI (wI h 44 0 (Int32.toNatClampNeg x4) (gI h 44 0 (Int32.toNatClampNeg (x4 + (1 : Int32))))) 44 0 (Int32.toNatClampNeg x4)) (wI h 44 0 (Int32.toNatClampNeg x4) (gI h 44 0 (Int32.toNatClampNeg (x4 + (1 : Int32)))))) kD_X8_counts kM_X8_171 kI_X8_counts kS_X8_counts kN_X8 ⟨(Nat.le_of_ble_eq_true rfl), (Nat.le_of_ble_eq_true rfl)⟩ dX8_leavesNow_70 rfl rfl rfl (by decide) rfl (Nat.le_of_ble_eq_true rfl) (Nat.le_of_ble_eq_true rfl) (Nat.le_of_ble_eq_true rfl) (fun _ => rfl) (fun _ => rfl) (fun r1 => ?_)
      refine A_iinc (pc := 73) (i := 4) (v := (x4 + 1)) (ls2 := [some (vr 8 (some 0)), none, some (vi x2), some (vi x3), some (vi (x4 + 1))]) dX8_leavesNow_73 rfl rfl (Nat.le_of_ble_eq_true rfl) rfl ?_
      refine A_goto (pc := 76) (tgt := 30) dX8_leavesNow_76 (by decide) ?_
      exact Aw.weak (ls' := [some (vr 8 (some 0)), none, some (vi x2), some (vi x3), some (vi (x4 + 1))]) ⟨rfl, ⟨rfl, ⟨rfl, ⟨rfl, trivial⟩⟩⟩⟩ (ih x2 x3 (x4 + 1) r1)
def f_X8_leavesNow (x1 : Int32) (h : Hp) : Option (Int32 × Hp) := (if 0 ≤ (x1 / (6 : Int32)) ∧ (x1 / (6 : Int32)) < 4 then (if 0 ≤ (x1 / (6 : Int32)) ∧ (x1 / (6 : Int32)) < 4 then (if 0 ≤ (x1 / (6 : Int32)) ∧ (x1 / (6 : Int32)) < 4 then (fL_X8_leavesNow_30 FU (x1 / (6 : Int32)) ((gI (wI h 43 0 (Int32.toNatClampNeg (x1 / (6 : Int32))) ((gI h 43 0 (Int32.toNatClampNeg (x1 / (6 : Int32)))) - (1 : Int32))) 43 0 (Int32.toNatClampNeg (x1 / (6 : Int32)))) - (x1 - x1 / (6 : Int32) * (6 : Int32))) x1 (wI h 43 0 (Int32.toNatClampNeg (x1 / (6 : Int32))) ((gI h 43 0 (Int32.toNatClampNeg (x1 / (6 : Int32)))) - (1 : Int32)))) else none) else none) else none)
set_option maxRecDepth 100000 in
set_option maxHeartbeats 4000000 in
theorem a_X8_leavesNow (x1 : Int32) (h : Hp) : CtA eI mX8_leavesNow U0 U0 [vr 8 (some 0), vi x1] h (f_X8_leavesNow x1 h) := by
  refine Ct.of (ls := [some (vr 8 (some 0)), some (vi x1), none, none, none]) (n := 3) (by decide +kernel) rfl rfl rfl ?_
  unfold f_X8_leavesNow
  refine A_iload_n (pc := 0) (i := 1) dX8_leavesNow_0 rfl rfl ?_
  refine A_bipush (pc := 1) (v := (6 : Int32)) dX8_leavesNow_1 (by decide) ?_
  refine A_idiv (pc := 3) dX8_leavesNow_3 (by decide) ?_
  refine A_istore_n (pc := 4) (i := 2) (ls2 := [some (vr 8 (some 0)), some (vi x1), some (vi (x1 / (6 : Int32))), none, none]) dX8_leavesNow_4 rfl (Nat.le_of_ble_eq_true rfl) rfl ?_
  refine A_aload_n (pc := 5) (i := 0) dX8_leavesNow_5 rfl rfl ?_
  refine A_getS (pc := 6) (k := 17) (tp := 43) clX8 (Nat.le_of_ble_eq_true rfl) dX8_leavesNow_6 kF_X8_50 rfl rfl rfl ?_
  refine A_iload_n (pc := 9) (i := 2) dX8_leavesNow_9 rfl rfl ?_
  refine A_dup2 (pc := 10) dX8_leavesNow_10 (fun _ => rfl) (fun _ => cv_catr _ _) ?_
  refine A_iaload (pc := 11) (n := 4) (by decide) (by decide) rfl dX8_leavesNow_11 (by decide) ?_
  refine A_iconst (pc := 12) (v := (1 : Int32)) dX8_leavesNow_12 (by decide) ?_
  refine A_isub (pc := 13) dX8_leavesNow_13 ?_
  refine A_iastore (pc := 14) (n := 4) (by decide) (by decide) rfl dX8_leavesNow_14 (by decide) ?_
  refine A_aload_n (pc := 15) (i := 0) dX8_leavesNow_15 rfl rfl ?_
  refine A_getS (pc := 16) (k := 17) (tp := 43) clX8 (Nat.le_of_ble_eq_true rfl) dX8_leavesNow_16 kF_X8_50 rfl rfl rfl ?_
  refine A_iload_n (pc := 19) (i := 2) dX8_leavesNow_19 rfl rfl ?_
  refine A_iaload (pc := 20) (n := 4) (by decide) (by decide) rfl dX8_leavesNow_20 (by decide) ?_
  refine A_iload_n (pc := 21) (i := 1) dX8_leavesNow_21 rfl rfl ?_
  refine A_bipush (pc := 22) (v := (6 : Int32)) dX8_leavesNow_22 (by decide) ?_
  refine A_irem (pc := 24) dX8_leavesNow_24 (by decide) ?_
  refine A_isub (pc := 25) dX8_leavesNow_25 ?_
  refine A_istore_n (pc := 26) (i := 3) (ls2 := [some (vr 8 (some 0)), some (vi x1), some (vi (x1 / (6 : Int32))), some (vi ((gI (wI h 43 0 (Int32.toNatClampNeg (x1 / (6 : Int32))) ((gI h 43 0 (Int32.toNatClampNeg (x1 / (6 : Int32)))) - (1 : Int32))) 43 0 (Int32.toNatClampNeg (x1 / (6 : Int32)))) - (x1 - x1 / (6 : Int32) * (6 : Int32)))), none]) dX8_leavesNow_26 rfl (Nat.le_of_ble_eq_true rfl) rfl ?_
  refine A_iload_n (pc := 27) (i := 1) dX8_leavesNow_27 rfl rfl ?_
  refine A_istore (pc := 28) (i := 4) (ls2 := [some (vr 8 (some 0)), some (vi x1), some (vi (x1 / (6 : Int32))), some (vi ((gI (wI h 43 0 (Int32.toNatClampNeg (x1 / (6 : Int32))) ((gI h 43 0 (Int32.toNatClampNeg (x1 / (6 : Int32)))) - (1 : Int32))) 43 0 (Int32.toNatClampNeg (x1 / (6 : Int32)))) - (x1 - x1 / (6 : Int32) * (6 : Int32)))), some (vi x1)]) dX8_leavesNow_28 (Nat.le_of_ble_eq_true rfl) rfl ?_
  exact Aw.weak (ls' := [some (vr 8 (some 0)), none, some (vi (x1 / (6 : Int32))), some (vi ((gI (wI h 43 0 (Int32.toNatClampNeg (x1 / (6 : Int32))) ((gI h 43 0 (Int32.toNatClampNeg (x1 / (6 : Int32)))) - (1 : Int32))) 43 0 (Int32.toNatClampNeg (x1 / (6 : Int32)))) - (x1 - x1 / (6 : Int32) * (6 : Int32)))), some (vi x1)]) ⟨rfl, ⟨rfl, ⟨rfl, ⟨rfl, trivial⟩⟩⟩⟩ (aL_X8_leavesNow_30 FU (x1 / (6 : Int32)) ((gI (wI h 43 0 (Int32.toNatClampNeg (x1 / (6 : Int32))) ((gI h 43 0 (Int32.toNatClampNeg (x1 / (6 : Int32)))) - (1 : Int32))) 43 0 (Int32.toNatClampNeg (x1 / (6 : Int32)))) - (x1 - x1 / (6 : Int32) * (6 : Int32))) x1 (wI h 43 0 (Int32.toNatClampNeg (x1 / (6 : Int32))) ((gI h 43 0 (Int32.toNatClampNeg (x1 / (6 : Int32)))) - (1 : Int32))))

abbrev mX8_goes : MD := (yX8_goes, cX8_goes, 3, (some .int), { frames := 2, cells := 0, slots := 0, locals := 45 }, none)
theorem kD_X8_goes : CodeIn mX8_goes 1 := ⟨kC_X8_goes, by decide +kernel⟩
def f_X8_goes (x1 : Int32) (h : Hp) : Option (Int32 × Hp) := ((f_X8_isBoat x1 h).bind fun r1 => (if r1 = true then ((f_X8_spotOf x1 h).bind fun r2 => (if 0 ≤ r2 then ((f_X8_leavesNow r2 h).bind fun r3 => (some (r3.1, r3.2))) else ((f_X8_finding (-1000005 : Int32) h).bind fun r4 => (some (r4.1, r4.2))))) else ((f_X8_finding (-1000001 : Int32) h).bind fun r5 => (some (r5.1, r5.2)))))
set_option maxRecDepth 100000 in
set_option maxHeartbeats 4000000 in
theorem a_X8_goes (x1 : Int32) (h : Hp) : CtA eI mX8_goes U0 U0 [vr 8 (some 0), vi x1] h (f_X8_goes x1 h) := by
  refine Ct.of (ls := [some (vr 8 (some 0)), some (vi x1), none]) (n := 1) (by decide +kernel) rfl rfl rfl ?_
  unfold f_X8_goes
  refine A_aload_n (pc := 0) (i := 0) dX8_goes_0 rfl rfl ?_
  refine A_iload_n (pc := 1) (i := 1) dX8_goes_1 rfl rfl ?_
  refine A_callV (pc := 2) (M' := mX8_isBoat) (As := [vi x1]) (st := []) (0, 0) (fun r1 => [vi (bi r1)]) (fun _ => h) (a_X8_isBoat x1 h) kD_X8_isBoat kM_X8_131 kI_X8_isBoat kS_X8_isBoat kN_X8 ⟨(Nat.le_of_ble_eq_true rfl), (Nat.le_of_ble_eq_true rfl)⟩ dX8_goes_2 rfl rfl rfl (by decide) rfl (Nat.le_of_ble_eq_true rfl) (Nat.le_of_ble_eq_true rfl) (Nat.le_of_ble_eq_true rfl) (fun _ => rfl) (fun _ => rfl) (fun r1 => ?_)
  refine A_ifb_ne (pc := 5) (tgt := 15) dX8_goes_5 (by decide) ?_ ?_
  · refine A_aload_n (pc := 15) (i := 0) dX8_goes_15 rfl rfl ?_
    refine A_iload_n (pc := 16) (i := 1) dX8_goes_16 rfl rfl ?_
    refine A_callV (pc := 17) (M' := mX8_spotOf) (As := [vi x1]) (st := []) (0, 0) (fun r2 => [vi r2]) (fun _ => h) (a_X8_spotOf x1 h) kD_X8_spotOf kM_X8_146 kI_X8_spotOf kS_X8_spotOf kN_X8 ⟨(Nat.le_of_ble_eq_true rfl), (Nat.le_of_ble_eq_true rfl)⟩ dX8_goes_17 rfl rfl rfl (by decide) rfl (Nat.le_of_ble_eq_true rfl) (Nat.le_of_ble_eq_true rfl) (Nat.le_of_ble_eq_true rfl) (fun _ => rfl) (fun _ => rfl) (fun r2 => ?_)
    refine A_istore_n (pc := 20) (i := 2) (ls2 := [some (vr 8 (some 0)), some (vi x1), some (vi r2)]) dX8_goes_20 rfl (Nat.le_of_ble_eq_true rfl) rfl ?_
    refine A_iload_n (pc := 21) (i := 2) dX8_goes_21 rfl rfl ?_
    refine A_if_ge (pc := 22) (tgt := 34) dX8_goes_22 (by decide) ?_ ?_
    · refine A_aload_n (pc := 34) (i := 0) dX8_goes_34 rfl rfl ?_
      refine A_iload_n (pc := 35) (i := 2) dX8_goes_35 rfl rfl ?_
      refine A_callV (pc := 36) (M' := mX8_leavesNow) (As := [vi r2]) (st := []) (0, 0) (fun r3 => [vi r3.1]) (fun r3 => r3.2) (a_X8_leavesNow r2 h) kD_X8_leavesNow kM_X8_175 kI_X8_leavesNow kS_X8_leavesNow kN_X8 ⟨(Nat.le_of_ble_eq_true rfl), (Nat.le_of_ble_eq_true rfl)⟩ dX8_goes_36 rfl rfl rfl (by decide) rfl (Nat.le_of_ble_eq_true rfl) (Nat.le_of_ble_eq_true rfl) (Nat.le_of_ble_eq_true rfl) (fun _ => rfl) (fun _ => rfl) (fun r3 => ?_)
      exact A_retI rfl dX8_goes_39
    · refine A_aload_n (pc := 25) (i := 0) dX8_goes_25 rfl rfl ?_
      refine A_ldc (pc := 26) (v := (-1000005 : Int32)) dX8_goes_26 kK_X8_160 ?_
      refine A_callV (pc := 28) (M' := mX8_finding) (As := [vi (-1000005 : Int32)]) (st := []) (0, 0) (fun r4 => [vi r4.1]) (fun r4 => r4.2) (a_X8_finding (-1000005 : Int32) h) kD_X8_finding kM_X8_126 kI_X8_finding kS_X8_finding kN_X8 ⟨(Nat.le_of_ble_eq_true rfl), (Nat.le_of_ble_eq_true rfl)⟩ dX8_goes_28 rfl rfl rfl (by decide) rfl (Nat.le_of_ble_eq_true rfl) (Nat.le_of_ble_eq_true rfl) (Nat.le_of_ble_eq_true rfl) (fun _ => rfl) (fun _ => rfl) (fun r4 => ?_)
      refine A_goto (pc := 31) (tgt := 39) dX8_goes_31 (by decide) ?_
      exact A_retI rfl dX8_goes_39
  · refine A_aload_n (pc := 8) (i := 0) dX8_goes_8 rfl rfl ?_
    refine A_ldc (pc := 9) (v := (-1000001 : Int32)) dX8_goes_9 kK_X8_125 ?_
    refine A_callV (pc := 11) (M' := mX8_finding) (As := [vi (-1000001 : Int32)]) (st := []) (0, 0) (fun r5 => [vi r5.1]) (fun r5 => r5.2) (a_X8_finding (-1000001 : Int32) h) kD_X8_finding kM_X8_126 kI_X8_finding kS_X8_finding kN_X8 ⟨(Nat.le_of_ble_eq_true rfl), (Nat.le_of_ble_eq_true rfl)⟩ dX8_goes_11 rfl rfl rfl (by decide) rfl (Nat.le_of_ble_eq_true rfl) (Nat.le_of_ble_eq_true rfl) (Nat.le_of_ble_eq_true rfl) (fun _ => rfl) (fun _ => rfl) (fun r5 => ?_)
    exact A_retI rfl dX8_goes_14
