abbrev mX0_init : MD := (yX0_init, cX0_init, 5, none, { frames := 1, cells := 0, slots := 0, locals := 20 }, none)
theorem kD_X0_init : CodeIn mX0_init 4 := ⟨kC_X0_init, by decide +kernel⟩
def f_X0_init (i0 : Nat) (x1 : Int32) (x2 : Int32) (x3 : Int32) (x4 : Int32) (h : Hp) : Option Hp := (some (wI (wI (wI (wI h 0 i0 0 x1) 0 i0 1 x2) 0 i0 2 x3) 0 i0 3 x4))
set_option maxRecDepth 100000 in
set_option maxHeartbeats 4000000 in
theorem a_X0_init (U : US) (i0 : Nat) (x1 : Int32) (x2 : Int32) (x3 : Int32) (x4 : Int32) (h : Hp) : CtA eV mX0_init U U [vr 0 (some i0), vi x1, vi x2, vi x3, vi x4] h (f_X0_init i0 x1 x2 x3 x4 h) := by
  refine Ct.of (ls := [some (vr 0 (some i0)), some (vi x1), some (vi x2), some (vi x3), some (vi x4)]) (n := 0) (by decide +kernel) rfl rfl rfl ?_
  unfold f_X0_init
  refine A_aload_n (pc := 0) (i := 0) dX0_init_0 rfl rfl ?_
  refine A_objInit (pc := 1) dX0_init_1 kM_X0_1 kI_obj kC_obj (Nat.le_of_ble_eq_true rfl) (Nat.le_of_ble_eq_true rfl) ?_
  refine A_aload_n (pc := 4) (i := 0) dX0_init_4 rfl rfl ?_
  refine A_iload_n (pc := 5) (i := 1) dX0_init_5 rfl rfl ?_
  refine A_putI (pc := 6) (k := 0) clX0 (Nat.le_of_ble_eq_true rfl) dX0_init_6 kF_X0_7 rfl (Or.inr ⟨rfl, rfl⟩) ⟨rfl, rfl⟩ ?_
  refine A_aload_n (pc := 9) (i := 0) dX0_init_9 rfl rfl ?_
  refine A_iload_n (pc := 10) (i := 2) dX0_init_10 rfl rfl ?_
  refine A_putI (pc := 11) (k := 1) clX0 (Nat.le_of_ble_eq_true rfl) dX0_init_11 kF_X0_13 rfl (Or.inr ⟨rfl, rfl⟩) ⟨rfl, rfl⟩ ?_
  refine A_aload_n (pc := 14) (i := 0) dX0_init_14 rfl rfl ?_
  refine A_iload_n (pc := 15) (i := 3) dX0_init_15 rfl rfl ?_
  refine A_putI (pc := 16) (k := 2) clX0 (Nat.le_of_ble_eq_true rfl) dX0_init_16 kF_X0_16 rfl (Or.inr ⟨rfl, rfl⟩) ⟨rfl, rfl⟩ ?_
  refine A_aload_n (pc := 19) (i := 0) dX0_init_19 rfl rfl ?_
  refine A_iload (pc := 20) (i := 4) dX0_init_20 rfl ?_
  refine A_putI (pc := 22) (k := 3) clX0 (Nat.le_of_ble_eq_true rfl) dX0_init_22 kF_X0_19 rfl (Or.inr ⟨rfl, rfl⟩) ⟨rfl, rfl⟩ ?_
  exact A_retV rfl dX0_init_25

abbrev mX1_init : MD := (yX1_init, cX1_init, 6, none, { frames := 1, cells := 0, slots := 0, locals := 20 }, none)
theorem kD_X1_init : CodeIn mX1_init 5 := ⟨kC_X1_init, by decide +kernel⟩
def f_X1_init (i0 : Nat) (x1 : Int32) (x2 : Int32) (x3 : Int32) (x4 : Int32) (x5 : Int32) (h : Hp) : Option Hp := (if x5 = 0 ∨ x5 = 1 then (some (wI (wI (wI (wI (wI (wI (wI (wI (wI h 1 i0 0 x1) 1 i0 1 x2) 1 i0 2 x3) 1 i0 3 x4) 1 i0 4 x5) 1 i0 6 (23 : Int32)) 1 i0 7 (16777215 : Int32)) 1 i0 8 (-1 : Int32)) 1 i0 9 (-1 : Int32))) else none)
set_option maxRecDepth 100000 in
set_option maxHeartbeats 4000000 in
theorem a_X1_init (U : US) (i0 : Nat) (x1 : Int32) (x2 : Int32) (x3 : Int32) (x4 : Int32) (x5 : Int32) (h : Hp) : CtA eV mX1_init U U [vr 1 (some i0), vi x1, vi x2, vi x3, vi x4, vi x5] h (f_X1_init i0 x1 x2 x3 x4 x5 h) := by
  refine Ct.of (ls := [some (vr 1 (some i0)), some (vi x1), some (vi x2), some (vi x3), some (vi x4), some (vi x5)]) (n := 0) (by decide +kernel) rfl rfl rfl ?_
  unfold f_X1_init
  refine A_aload_n (pc := 0) (i := 0) dX1_init_0 rfl rfl ?_
  refine A_objInit (pc := 1) dX1_init_1 kM_X1_3 kI_obj kC_obj (Nat.le_of_ble_eq_true rfl) (Nat.le_of_ble_eq_true rfl) ?_
  refine A_aload_n (pc := 4) (i := 0) dX1_init_4 rfl rfl ?_
  refine A_iload_n (pc := 5) (i := 1) dX1_init_5 rfl rfl ?_
  refine A_putI (pc := 6) (k := 0) clX1 (Nat.le_of_ble_eq_true rfl) dX1_init_6 kF_X1_9 rfl (Or.inr ⟨rfl, rfl⟩) ⟨rfl, rfl⟩ ?_
  refine A_aload_n (pc := 9) (i := 0) dX1_init_9 rfl rfl ?_
  refine A_iload_n (pc := 10) (i := 2) dX1_init_10 rfl rfl ?_
  refine A_putI (pc := 11) (k := 1) clX1 (Nat.le_of_ble_eq_true rfl) dX1_init_11 kF_X1_15 rfl (Or.inr ⟨rfl, rfl⟩) ⟨rfl, rfl⟩ ?_
  refine A_aload_n (pc := 14) (i := 0) dX1_init_14 rfl rfl ?_
  refine A_iload_n (pc := 15) (i := 3) dX1_init_15 rfl rfl ?_
  refine A_putI (pc := 16) (k := 2) clX1 (Nat.le_of_ble_eq_true rfl) dX1_init_16 kF_X1_18 rfl (Or.inr ⟨rfl, rfl⟩) ⟨rfl, rfl⟩ ?_
  refine A_aload_n (pc := 19) (i := 0) dX1_init_19 rfl rfl ?_
  refine A_iload (pc := 20) (i := 4) dX1_init_20 rfl ?_
  refine A_putI (pc := 22) (k := 3) clX1 (Nat.le_of_ble_eq_true rfl) dX1_init_22 kF_X1_21 rfl (Or.inr ⟨rfl, rfl⟩) ⟨rfl, rfl⟩ ?_
  refine A_aload_n (pc := 25) (i := 0) dX1_init_25 rfl rfl ?_
  refine A_iload (pc := 26) (i := 5) dX1_init_26 rfl ?_
  refine A_ite (fun hg1 => ?_) (fun _ => Aw.none)
  refine A_putI (pc := 28) (k := 4) clX1 (Nat.le_of_ble_eq_true rfl) dX1_init_28 kF_X1_24 rfl (Or.inr ⟨rfl, rfl⟩) (nbz hg1) ?_
  refine A_aload_n (pc := 31) (i := 0) dX1_init_31 rfl rfl ?_
  refine A_bipush (pc := 32) (v := (23 : Int32)) dX1_init_32 (by decide) ?_
  refine A_putI (pc := 34) (k := 6) clX1 (Nat.le_of_ble_eq_true rfl) dX1_init_34 kF_X1_28 rfl (Or.inl rfl) ⟨rfl, rfl⟩ ?_
  refine A_aload_n (pc := 37) (i := 0) dX1_init_37 rfl rfl ?_
  refine A_ldc (pc := 38) (v := (16777215 : Int32)) dX1_init_38 kK_X1_31 ?_
  refine A_putI (pc := 40) (k := 7) clX1 (Nat.le_of_ble_eq_true rfl) dX1_init_40 kF_X1_32 rfl (Or.inl rfl) ⟨rfl, rfl⟩ ?_
  refine A_aload_n (pc := 43) (i := 0) dX1_init_43 rfl rfl ?_
  refine A_iconst (pc := 44) (v := (-1 : Int32)) dX1_init_44 (by decide) ?_
  refine A_putI (pc := 45) (k := 8) clX1 (Nat.le_of_ble_eq_true rfl) dX1_init_45 kF_X1_35 rfl (Or.inl rfl) ⟨rfl, rfl⟩ ?_
  refine A_aload_n (pc := 48) (i := 0) dX1_init_48 rfl rfl ?_
  refine A_iconst (pc := 49) (v := (-1 : Int32)) dX1_init_49 (by decide) ?_
  refine A_putI (pc := 50) (k := 9) clX1 (Nat.le_of_ble_eq_true rfl) dX1_init_50 kF_X1_38 rfl (Or.inl rfl) ⟨rfl, rfl⟩ ?_
  exact A_retV rfl dX1_init_53

abbrev mX1_isOfKind : MD := (yX1_isOfKind, cX1_isOfKind, 2, (some .boolean), { frames := 0, cells := 0, slots := 0, locals := 0 }, none)
theorem kD_X1_isOfKind : CodeIn mX1_isOfKind 1 := ⟨kC_X1_isOfKind, by decide +kernel⟩
def f_X1_isOfKind (i0 : Nat) (x1 : Int32) (h : Hp) : Option Bool := (if (gI h 1 i0 1) = x1 then (some true) else (if x1 = 0 then (some true) else (if (gI h 1 i0 1) = (3 : Int32) then (if x1 = (2 : Int32) then (some true) else (some false)) else (some false))))
set_option maxRecDepth 100000 in
set_option maxHeartbeats 4000000 in
theorem a_X1_isOfKind (i0 : Nat) (x1 : Int32) (h : Hp) : CtA (eBr h) mX1_isOfKind U0 U0 [vr 1 (some i0), vi x1] h (f_X1_isOfKind i0 x1 h) := by
  refine Ct.of (ls := [some (vr 1 (some i0)), some (vi x1)]) (n := 0) (by decide +kernel) rfl rfl rfl ?_
  unfold f_X1_isOfKind
  refine A_aload_n (pc := 0) (i := 0) dX1_isOfKind_0 rfl rfl ?_
  refine A_getI (pc := 1) (k := 1) clX1 (Nat.le_of_ble_eq_true rfl) dX1_isOfKind_1 kF_X1_15 rfl ?_
  refine A_iload_n (pc := 4) (i := 1) dX1_isOfKind_4 rfl rfl ?_
  refine A_icmp_eq (pc := 5) (tgt := 25) dX1_isOfKind_5 (by decide) ?_ ?_
  · refine A_iconst (pc := 25) (v := (1 : Int32)) dX1_isOfKind_25 (by decide) ?_
    refine A_goto (pc := 26) (tgt := 30) dX1_isOfKind_26 (by decide) ?_
    exact A_retBr rfl rfl dX1_isOfKind_30
  · refine A_iload_n (pc := 8) (i := 1) dX1_isOfKind_8 rfl rfl ?_
    refine A_if_eq (pc := 9) (tgt := 25) dX1_isOfKind_9 (by decide) ?_ ?_
    · refine A_iconst (pc := 25) (v := (1 : Int32)) dX1_isOfKind_25 (by decide) ?_
      refine A_goto (pc := 26) (tgt := 30) dX1_isOfKind_26 (by decide) ?_
      exact A_retBr rfl rfl dX1_isOfKind_30
    · refine A_aload_n (pc := 12) (i := 0) dX1_isOfKind_12 rfl rfl ?_
      refine A_getI (pc := 13) (k := 1) clX1 (Nat.le_of_ble_eq_true rfl) dX1_isOfKind_13 kF_X1_15 rfl ?_
      refine A_iconst (pc := 16) (v := (3 : Int32)) dX1_isOfKind_16 (by decide) ?_
      refine A_icmp_ne (pc := 17) (tgt := 29) dX1_isOfKind_17 (by decide) ?_ ?_
      · refine A_iconst (pc := 29) (v := (0 : Int32)) dX1_isOfKind_29 (by decide) ?_
        exact A_retBr rfl rfl dX1_isOfKind_30
      · refine A_iload_n (pc := 20) (i := 1) dX1_isOfKind_20 rfl rfl ?_
        refine A_iconst (pc := 21) (v := (2 : Int32)) dX1_isOfKind_21 (by decide) ?_
        refine A_icmp_ne (pc := 22) (tgt := 29) dX1_isOfKind_22 (by decide) ?_ ?_
        · refine A_iconst (pc := 29) (v := (0 : Int32)) dX1_isOfKind_29 (by decide) ?_
          exact A_retBr rfl rfl dX1_isOfKind_30
        · refine A_iconst (pc := 25) (v := (1 : Int32)) dX1_isOfKind_25 (by decide) ?_
          refine A_goto (pc := 26) (tgt := 30) dX1_isOfKind_26 (by decide) ?_
          exact A_retBr rfl rfl dX1_isOfKind_30

abbrev mX1_isLying : MD := (yX1_isLying, cX1_isLying, 1, (some .boolean), { frames := 0, cells := 0, slots := 0, locals := 0 }, none)
theorem kD_X1_isLying : CodeIn mX1_isLying 0 := ⟨kC_X1_isLying, by decide +kernel⟩
def f_X1_isLying (i0 : Nat) (h : Hp) : Option Bool := (if (gI h 1 i0 8) = (-1 : Int32) then (some false) else (some true))
set_option maxRecDepth 100000 in
set_option maxHeartbeats 4000000 in
theorem a_X1_isLying (i0 : Nat) (h : Hp) : CtA (eBr h) mX1_isLying U0 U0 [vr 1 (some i0)] h (f_X1_isLying i0 h) := by
  refine Ct.of (ls := [some (vr 1 (some i0))]) (n := 0) (by decide +kernel) rfl rfl rfl ?_
  unfold f_X1_isLying
  refine A_aload_n (pc := 0) (i := 0) dX1_isLying_0 rfl rfl ?_
  refine A_getI (pc := 1) (k := 8) clX1 (Nat.le_of_ble_eq_true rfl) dX1_isLying_1 kF_X1_35 rfl ?_
  refine A_iconst (pc := 4) (v := (-1 : Int32)) dX1_isLying_4 (by decide) ?_
  refine A_icmp_eq (pc := 5) (tgt := 12) dX1_isLying_5 (by decide) ?_ ?_
  · refine A_iconst (pc := 12) (v := (0 : Int32)) dX1_isLying_12 (by decide) ?_
    exact A_retBr rfl rfl dX1_isLying_13
  · refine A_iconst (pc := 8) (v := (1 : Int32)) dX1_isLying_8 (by decide) ?_
    refine A_goto (pc := 9) (tgt := 13) dX1_isLying_9 (by decide) ?_
    exact A_retBr rfl rfl dX1_isLying_13

abbrev mX1_isOutsideOf : MD := (yX1_isOutsideOf, cX1_isOutsideOf, 2, (some .boolean), { frames := 0, cells := 0, slots := 0, locals := 0 }, none)
theorem kD_X1_isOutsideOf : CodeIn mX1_isOutsideOf 1 := ⟨kC_X1_isOutsideOf, by decide +kernel⟩
def f_X1_isOutsideOf (i0 : Nat) (i1 : Nat) (h : Hp) : Option Bool := (if (gI h 1 i0 8) = (gI h 1 i1 8) then (if (gI h 1 i0 9) ≤ (gI h 1 i1 9) then (some false) else (some true)) else (some false))
set_option maxRecDepth 100000 in
set_option maxHeartbeats 4000000 in
theorem a_X1_isOutsideOf (i0 : Nat) (i1 : Nat) (h : Hp) : CtA (eBr h) mX1_isOutsideOf U0 U0 [vr 1 (some i0), vr 1 (some i1)] h (f_X1_isOutsideOf i0 i1 h) := by
  refine Ct.of (ls := [some (vr 1 (some i0)), some (vr 1 (some i1))]) (n := 0) (by decide +kernel) rfl rfl rfl ?_
  unfold f_X1_isOutsideOf
  refine A_aload_n (pc := 0) (i := 0) dX1_isOutsideOf_0 rfl rfl ?_
  refine A_getI (pc := 1) (k := 8) clX1 (Nat.le_of_ble_eq_true rfl) dX1_isOutsideOf_1 kF_X1_35 rfl ?_
  refine A_aload_n (pc := 4) (i := 1) dX1_isOutsideOf_4 rfl rfl ?_
  refine A_getI (pc := 5) (k := 8) clX1 (Nat.le_of_ble_eq_true rfl) dX1_isOutsideOf_5 kF_X1_35 rfl ?_
  refine A_icmp_ne (pc := 8) (tgt := 26) dX1_isOutsideOf_8 (by decide) ?_ ?_
  · refine A_iconst (pc := 26) (v := (0 : Int32)) dX1_isOutsideOf_26 (by decide) ?_
    exact A_retBr rfl rfl dX1_isOutsideOf_27
  · refine A_aload_n (pc := 11) (i := 0) dX1_isOutsideOf_11 rfl rfl ?_
    refine A_getI (pc := 12) (k := 9) clX1 (Nat.le_of_ble_eq_true rfl) dX1_isOutsideOf_12 kF_X1_38 rfl ?_
    refine A_aload_n (pc := 15) (i := 1) dX1_isOutsideOf_15 rfl rfl ?_
    refine A_getI (pc := 16) (k := 9) clX1 (Nat.le_of_ble_eq_true rfl) dX1_isOutsideOf_16 kF_X1_38 rfl ?_
    refine A_icmp_le (pc := 19) (tgt := 26) dX1_isOutsideOf_19 (by decide) ?_ ?_
    · refine A_iconst (pc := 26) (v := (0 : Int32)) dX1_isOutsideOf_26 (by decide) ?_
      exact A_retBr rfl rfl dX1_isOutsideOf_27
    · refine A_iconst (pc := 22) (v := (1 : Int32)) dX1_isOutsideOf_22 (by decide) ?_
      refine A_goto (pc := 23) (tgt := 27) dX1_isOutsideOf_23 (by decide) ?_
      exact A_retBr rfl rfl dX1_isOutsideOf_27

abbrev mX1_hasCrewAt : MD := (yX1_hasCrewAt, cX1_hasCrewAt, 2, (some .boolean), { frames := 0, cells := 0, slots := 0, locals := 0 }, none)
theorem kD_X1_hasCrewAt : CodeIn mX1_hasCrewAt 1 := ⟨kC_X1_hasCrewAt, by decide +kernel⟩
def f_X1_hasCrewAt (i0 : Nat) (x1 : Int32) (h : Hp) : Option Bool := (if (((gI h 1 i0 7) >>> (x1 &&& 31)) &&& (1 : Int32)) = 0 then (some false) else (some true))
set_option maxRecDepth 100000 in
set_option maxHeartbeats 4000000 in
theorem a_X1_hasCrewAt (i0 : Nat) (x1 : Int32) (h : Hp) : CtA (eBr h) mX1_hasCrewAt U0 U0 [vr 1 (some i0), vi x1] h (f_X1_hasCrewAt i0 x1 h) := by
  refine Ct.of (ls := [some (vr 1 (some i0)), some (vi x1)]) (n := 0) (by decide +kernel) rfl rfl rfl ?_
  unfold f_X1_hasCrewAt
  refine A_aload_n (pc := 0) (i := 0) dX1_hasCrewAt_0 rfl rfl ?_
  refine A_getI (pc := 1) (k := 7) clX1 (Nat.le_of_ble_eq_true rfl) dX1_hasCrewAt_1 kF_X1_32 rfl ?_
  refine A_iload_n (pc := 4) (i := 1) dX1_hasCrewAt_4 rfl rfl ?_
  refine A_ishr (pc := 5) dX1_hasCrewAt_5 ?_
  refine A_iconst (pc := 6) (v := (1 : Int32)) dX1_hasCrewAt_6 (by decide) ?_
  refine A_iand (pc := 7) dX1_hasCrewAt_7 ?_
  refine A_if_eq (pc := 8) (tgt := 15) dX1_hasCrewAt_8 (by decide) ?_ ?_
  · refine A_iconst (pc := 15) (v := (0 : Int32)) dX1_hasCrewAt_15 (by decide) ?_
    exact A_retBr rfl rfl dX1_hasCrewAt_16
  · refine A_iconst (pc := 11) (v := (1 : Int32)) dX1_hasCrewAt_11 (by decide) ?_
    refine A_goto (pc := 12) (tgt := 16) dX1_hasCrewAt_12 (by decide) ?_
    exact A_retBr rfl rfl dX1_hasCrewAt_16

abbrev mX1_movesMaybe : MD := (yX1_movesMaybe, cX1_movesMaybe, 2, (some .boolean), { frames := 0, cells := 0, slots := 0, locals := 0 }, none)
theorem kD_X1_movesMaybe : CodeIn mX1_movesMaybe 1 := ⟨kC_X1_movesMaybe, by decide +kernel⟩
def f_X1_movesMaybe (i0 : Nat) (i1 : Nat) (h : Hp) : Option Bool := (if (gI h 1 i1 6) ≤ (gI h 1 i0 5) then (some false) else (some true))
set_option maxRecDepth 100000 in
set_option maxHeartbeats 4000000 in
theorem a_X1_movesMaybe (i0 : Nat) (i1 : Nat) (h : Hp) : CtA (eBr h) mX1_movesMaybe U0 U0 [vr 1 (some i0), vr 1 (some i1)] h (f_X1_movesMaybe i0 i1 h) := by
  refine Ct.of (ls := [some (vr 1 (some i0)), some (vr 1 (some i1))]) (n := 0) (by decide +kernel) rfl rfl rfl ?_
  unfold f_X1_movesMaybe
  refine A_aload_n (pc := 0) (i := 0) dX1_movesMaybe_0 rfl rfl ?_
  refine A_getI (pc := 1) (k := 5) clX1 (Nat.le_of_ble_eq_true rfl) dX1_movesMaybe_1 kF_X1_41 rfl ?_
  refine A_aload_n (pc := 4) (i := 1) dX1_movesMaybe_4 rfl rfl ?_
  refine A_getI (pc := 5) (k := 6) clX1 (Nat.le_of_ble_eq_true rfl) dX1_movesMaybe_5 kF_X1_28 rfl ?_
  refine A_icmp_ge (pc := 8) (tgt := 15) dX1_movesMaybe_8 (by decide) ?_ ?_
  · refine A_iconst (pc := 15) (v := (0 : Int32)) dX1_movesMaybe_15 (by decide) ?_
    exact A_retBr rfl rfl dX1_movesMaybe_16
  · refine A_iconst (pc := 11) (v := (1 : Int32)) dX1_movesMaybe_11 (by decide) ?_
    refine A_goto (pc := 12) (tgt := 16) dX1_movesMaybe_12 (by decide) ?_
    exact A_retBr rfl rfl dX1_movesMaybe_16

abbrev mX1_movesSurely : MD := (yX1_movesSurely, cX1_movesSurely, 2, (some .boolean), { frames := 0, cells := 0, slots := 0, locals := 0 }, none)
theorem kD_X1_movesSurely : CodeIn mX1_movesSurely 1 := ⟨kC_X1_movesSurely, by decide +kernel⟩
def f_X1_movesSurely (i0 : Nat) (i1 : Nat) (h : Hp) : Option Bool := (if (gI h 1 i1 5) ≤ (gI h 1 i0 6) then (some false) else (some true))
set_option maxRecDepth 100000 in
set_option maxHeartbeats 4000000 in
theorem a_X1_movesSurely (i0 : Nat) (i1 : Nat) (h : Hp) : CtA (eBr h) mX1_movesSurely U0 U0 [vr 1 (some i0), vr 1 (some i1)] h (f_X1_movesSurely i0 i1 h) := by
  refine Ct.of (ls := [some (vr 1 (some i0)), some (vr 1 (some i1))]) (n := 0) (by decide +kernel) rfl rfl rfl ?_
  unfold f_X1_movesSurely
  refine A_aload_n (pc := 0) (i := 0) dX1_movesSurely_0 rfl rfl ?_
  refine A_getI (pc := 1) (k := 6) clX1 (Nat.le_of_ble_eq_true rfl) dX1_movesSurely_1 kF_X1_28 rfl ?_
  refine A_aload_n (pc := 4) (i := 1) dX1_movesSurely_4 rfl rfl ?_
  refine A_getI (pc := 5) (k := 5) clX1 (Nat.le_of_ble_eq_true rfl) dX1_movesSurely_5 kF_X1_41 rfl ?_
  refine A_icmp_ge (pc := 8) (tgt := 15) dX1_movesSurely_8 (by decide) ?_ ?_
  · refine A_iconst (pc := 15) (v := (0 : Int32)) dX1_movesSurely_15 (by decide) ?_
    exact A_retBr rfl rfl dX1_movesSurely_16
  · refine A_iconst (pc := 11) (v := (1 : Int32)) dX1_movesSurely_11 (by decide) ?_
    refine A_goto (pc := 12) (tgt := 16) dX1_movesSurely_12 (by decide) ?_
    exact A_retBr rfl rfl dX1_movesSurely_16

abbrev mX1_layAt : MD := (yX1_layAt, cX1_layAt, 3, none, { frames := 0, cells := 0, slots := 0, locals := 0 }, none)
theorem kD_X1_layAt : CodeIn mX1_layAt 2 := ⟨kC_X1_layAt, by decide +kernel⟩
def f_X1_layAt (i0 : Nat) (x1 : Int32) (x2 : Int32) (h : Hp) : Option Hp := (some (wI (wI h 1 i0 8 x1) 1 i0 9 x2))
set_option maxRecDepth 100000 in
set_option maxHeartbeats 4000000 in
theorem a_X1_layAt (i0 : Nat) (x1 : Int32) (x2 : Int32) (h : Hp) : CtA eV mX1_layAt U0 U0 [vr 1 (some i0), vi x1, vi x2] h (f_X1_layAt i0 x1 x2 h) := by
  refine Ct.of (ls := [some (vr 1 (some i0)), some (vi x1), some (vi x2)]) (n := 0) (by decide +kernel) rfl rfl rfl ?_
  unfold f_X1_layAt
  refine A_aload_n (pc := 0) (i := 0) dX1_layAt_0 rfl rfl ?_
  refine A_iload_n (pc := 1) (i := 1) dX1_layAt_1 rfl rfl ?_
  refine A_putI (pc := 2) (k := 8) clX1 (Nat.le_of_ble_eq_true rfl) dX1_layAt_2 kF_X1_35 rfl (Or.inl rfl) ⟨rfl, rfl⟩ ?_
  refine A_aload_n (pc := 5) (i := 0) dX1_layAt_5 rfl rfl ?_
  refine A_iload_n (pc := 6) (i := 2) dX1_layAt_6 rfl rfl ?_
  refine A_putI (pc := 7) (k := 9) clX1 (Nat.le_of_ble_eq_true rfl) dX1_layAt_7 kF_X1_38 rfl (Or.inl rfl) ⟨rfl, rfl⟩ ?_
  exact A_retV rfl dX1_layAt_10

abbrev mX1_moveBy : MD := (yX1_moveBy, cX1_moveBy, 2, none, { frames := 0, cells := 0, slots := 0, locals := 0 }, none)
theorem kD_X1_moveBy : CodeIn mX1_moveBy 1 := ⟨kC_X1_moveBy, by decide +kernel⟩
def f_X1_moveBy (i0 : Nat) (x1 : Int32) (h : Hp) : Option Hp := (some (wI (wI h 1 i0 9 ((gI h 1 i0 9) + x1)) 1 i0 11 ((gI (wI h 1 i0 9 ((gI h 1 i0 9) + x1)) 1 i0 11) + (1 : Int32))))
set_option maxRecDepth 100000 in
set_option maxHeartbeats 4000000 in
theorem a_X1_moveBy (i0 : Nat) (x1 : Int32) (h : Hp) : CtA eV mX1_moveBy U0 U0 [vr 1 (some i0), vi x1] h (f_X1_moveBy i0 x1 h) := by
  refine Ct.of (ls := [some (vr 1 (some i0)), some (vi x1)]) (n := 0) (by decide +kernel) rfl rfl rfl ?_
  unfold f_X1_moveBy
  refine A_aload_n (pc := 0) (i := 0) dX1_moveBy_0 rfl rfl ?_
  refine A_dup (pc := 1) dX1_moveBy_1 (fun _ => cv_catr _ _) ?_
  refine A_getI (pc := 2) (k := 9) clX1 (Nat.le_of_ble_eq_true rfl) dX1_moveBy_2 kF_X1_38 rfl ?_
  refine A_iload_n (pc := 5) (i := 1) dX1_moveBy_5 rfl rfl ?_
  refine A_iadd (pc := 6) dX1_moveBy_6 ?_
  refine A_putI (pc := 7) (k := 9) clX1 (Nat.le_of_ble_eq_true rfl) dX1_moveBy_7 kF_X1_38 rfl (Or.inl rfl) ⟨rfl, rfl⟩ ?_
  refine A_aload_n (pc := 10) (i := 0) dX1_moveBy_10 rfl rfl ?_
  refine A_dup (pc := 11) dX1_moveBy_11 (fun _ => cv_catr _ _) ?_
  refine A_getI (pc := 12) (k := 11) clX1 (Nat.le_of_ble_eq_true rfl) dX1_moveBy_12 kF_X1_44 rfl ?_
  refine A_iconst (pc := 15) (v := (1 : Int32)) dX1_moveBy_15 (by decide) ?_
  refine A_iadd (pc := 16) dX1_moveBy_16 ?_
  refine A_putI (pc := 17) (k := 11) clX1 (Nat.le_of_ble_eq_true rfl) dX1_moveBy_17 kF_X1_44 rfl (Or.inl rfl) ⟨rfl, rfl⟩ ?_
  exact A_retV rfl dX1_moveBy_20

abbrev mX1_detail : MD := (yX1_detail, cX1_detail, 2, (some .int), { frames := 0, cells := 0, slots := 0, locals := 0 }, none)
theorem kD_X1_detail : CodeIn mX1_detail 1 := ⟨kC_X1_detail, by decide +kernel⟩
def f_X1_detail (i0 : Nat) (x1 : Int32) (h : Hp) : Option Int32 := (nif x1 0 [(some (gI h 1 i0 1)), (some (gI h 1 i0 2)), (some (gI h 1 i0 3)), (if (gI h 1 i0 4) = 0 then (some (0 : Int32)) else (some (1 : Int32))), (some (gI h 1 i0 5)), (some (gI h 1 i0 6)), (some (gI h 1 i0 7)), (some (gI h 1 i0 8)), (some (gI h 1 i0 9)), (some (gI h 1 i0 10)), (some (gI h 1 i0 11))] (some (-1000001 : Int32)))
set_option maxRecDepth 100000 in
set_option maxHeartbeats 4000000 in
theorem a_X1_detail (i0 : Nat) (x1 : Int32) (h : Hp) : CtA (eIr h) mX1_detail U0 U0 [vr 1 (some i0), vi x1] h (f_X1_detail i0 x1 h) := by
  refine Ct.of (ls := [some (vr 1 (some i0)), some (vi x1)]) (n := 0) (by decide +kernel) rfl rfl rfl ?_
  unfold f_X1_detail
  refine A_iload_n (pc := 0) (i := 1) dX1_detail_0 rfl rfl ?_
  refine A_table (pc := 1) (tgt := 123) dX1_detail_1 (by simp) (by simp) (by decide) ?_ (AwL_c 60 (by decide) ?_ (AwL_c 65 (by decide) ?_ (AwL_c 70 (by decide) ?_ (AwL_c 75 (by decide) ?_ (AwL_c 88 (by decide) ?_ (AwL_c 93 (by decide) ?_ (AwL_c 98 (by decide) ?_ (AwL_c 103 (by decide) ?_ (AwL_c 108 (by decide) ?_ (AwL_c 113 (by decide) ?_ (AwL_c 118 (by decide) ?_ AwL_n)))))))))))
  · refine A_ldc (pc := 123) (v := (-1000001 : Int32)) dX1_detail_123 kK_X1_50 ?_
    exact A_retIr rfl dX1_detail_125
  · refine A_aload_n (pc := 60) (i := 0) dX1_detail_60 rfl rfl ?_
    refine A_getI (pc := 61) (k := 1) clX1 (Nat.le_of_ble_eq_true rfl) dX1_detail_61 kF_X1_15 rfl ?_
    exact A_retIr rfl dX1_detail_64
  · refine A_aload_n (pc := 65) (i := 0) dX1_detail_65 rfl rfl ?_
    refine A_getI (pc := 66) (k := 2) clX1 (Nat.le_of_ble_eq_true rfl) dX1_detail_66 kF_X1_18 rfl ?_
    exact A_retIr rfl dX1_detail_69
  · refine A_aload_n (pc := 70) (i := 0) dX1_detail_70 rfl rfl ?_
    refine A_getI (pc := 71) (k := 3) clX1 (Nat.le_of_ble_eq_true rfl) dX1_detail_71 kF_X1_21 rfl ?_
    exact A_retIr rfl dX1_detail_74
  · refine A_aload_n (pc := 75) (i := 0) dX1_detail_75 rfl rfl ?_
    refine A_getI (pc := 76) (k := 4) clX1 (Nat.le_of_ble_eq_true rfl) dX1_detail_76 kF_X1_24 rfl ?_
    refine A_if_eq (pc := 79) (tgt := 86) dX1_detail_79 (by decide) ?_ ?_
    · refine A_iconst (pc := 86) (v := (0 : Int32)) dX1_detail_86 (by decide) ?_
      exact A_retIr rfl dX1_detail_87
    · refine A_iconst (pc := 82) (v := (1 : Int32)) dX1_detail_82 (by decide) ?_
      refine A_goto (pc := 83) (tgt := 87) dX1_detail_83 (by decide) ?_
      exact A_retIr rfl dX1_detail_87
  · refine A_aload_n (pc := 88) (i := 0) dX1_detail_88 rfl rfl ?_
    refine A_getI (pc := 89) (k := 5) clX1 (Nat.le_of_ble_eq_true rfl) dX1_detail_89 kF_X1_41 rfl ?_
    exact A_retIr rfl dX1_detail_92
  · refine A_aload_n (pc := 93) (i := 0) dX1_detail_93 rfl rfl ?_
    refine A_getI (pc := 94) (k := 6) clX1 (Nat.le_of_ble_eq_true rfl) dX1_detail_94 kF_X1_28 rfl ?_
    exact A_retIr rfl dX1_detail_97
  · refine A_aload_n (pc := 98) (i := 0) dX1_detail_98 rfl rfl ?_
    refine A_getI (pc := 99) (k := 7) clX1 (Nat.le_of_ble_eq_true rfl) dX1_detail_99 kF_X1_32 rfl ?_
    exact A_retIr rfl dX1_detail_102
  · refine A_aload_n (pc := 103) (i := 0) dX1_detail_103 rfl rfl ?_
    refine A_getI (pc := 104) (k := 8) clX1 (Nat.le_of_ble_eq_true rfl) dX1_detail_104 kF_X1_35 rfl ?_
    exact A_retIr rfl dX1_detail_107
  · refine A_aload_n (pc := 108) (i := 0) dX1_detail_108 rfl rfl ?_
    refine A_getI (pc := 109) (k := 9) clX1 (Nat.le_of_ble_eq_true rfl) dX1_detail_109 kF_X1_38 rfl ?_
    exact A_retIr rfl dX1_detail_112
  · refine A_aload_n (pc := 113) (i := 0) dX1_detail_113 rfl rfl ?_
    refine A_getI (pc := 114) (k := 10) clX1 (Nat.le_of_ble_eq_true rfl) dX1_detail_114 kF_X1_47 rfl ?_
    exact A_retIr rfl dX1_detail_117
  · refine A_aload_n (pc := 118) (i := 0) dX1_detail_118 rfl rfl ?_
    refine A_getI (pc := 119) (k := 11) clX1 (Nat.le_of_ble_eq_true rfl) dX1_detail_119 kF_X1_44 rfl ?_
    exact A_retIr rfl dX1_detail_122

abbrev mX2_init : MD := (yX2_init, cX2_init, 1, none, { frames := 1, cells := 0, slots := 0, locals := 20 }, none)
theorem kD_X2_init : CodeIn mX2_init 0 := ⟨kC_X2_init, by decide +kernel⟩
def f_X2_init (h : Hp) : Option Hp := (some (wI h 2 0 1 (16777215 : Int32)))
set_option maxRecDepth 100000 in
set_option maxHeartbeats 4000000 in
theorem a_X2_init (U : US) (h : Hp) : CtA eV mX2_init U U [vr 2 (some 0)] h (f_X2_init h) := by
  refine Ct.of (ls := [some (vr 2 (some 0))]) (n := 0) (by decide +kernel) rfl rfl rfl ?_
  unfold f_X2_init
  refine A_aload_n (pc := 0) (i := 0) dX2_init_0 rfl rfl ?_
  refine A_objInit (pc := 1) dX2_init_1 kM_X2_3 kI_obj kC_obj (Nat.le_of_ble_eq_true rfl) (Nat.le_of_ble_eq_true rfl) ?_
  refine A_aload_n (pc := 4) (i := 0) dX2_init_4 rfl rfl ?_
  refine A_ldc (pc := 5) (v := (16777215 : Int32)) dX2_init_5 kK_X2_9 ?_
  refine A_putI (pc := 7) (k := 1) clX2 (Nat.le_of_ble_eq_true rfl) dX2_init_7 kF_X2_10 rfl (Or.inl rfl) ⟨rfl, rfl⟩ ?_
  exact A_retV rfl dX2_init_10

abbrev mX2_wantsToLeave : MD := (yX2_wantsToLeave, cX2_wantsToLeave, 2, (some .boolean), { frames := 1, cells := 0, slots := 0, locals := 20 }, none)
theorem kD_X2_wantsToLeave : CodeIn mX2_wantsToLeave 1 := ⟨kC_X2_wantsToLeave, by decide +kernel⟩
def f_X2_wantsToLeave (i1 : Nat) (h : Hp) : Option Bool := ((f_X1_isLying i1 h).bind fun r1 => (if r1 = true then (if (gI h 2 0 0) < (gI h 1 i1 5) then (some false) else (some true)) else (some false)))
set_option maxRecDepth 100000 in
set_option maxHeartbeats 4000000 in
theorem a_X2_wantsToLeave (i1 : Nat) (h : Hp) : CtA (eBr h) mX2_wantsToLeave U0 U0 [vr 2 (some 0), vr 1 (some i1)] h (f_X2_wantsToLeave i1 h) := by
  refine Ct.of (ls := [some (vr 2 (some 0)), some (vr 1 (some i1))]) (n := 0) (by decide +kernel) rfl rfl rfl ?_
  unfold f_X2_wantsToLeave
  refine A_aload_n (pc := 0) (i := 1) dX2_wantsToLeave_0 rfl rfl ?_
  refine A_callV (pc := 1) (M' := mX1_isLying) (As := []) (st := []) (0, 0) (fun r1 => [vi (bi r1)]) (fun _ => h) (a_X1_isLying i1 h) kD_X1_isLying kM_X2_50 kI_X1_isLying kS_X1_isLying kN_X1 ⟨(Nat.le_of_ble_eq_true rfl), (Nat.le_of_ble_eq_true rfl)⟩ dX2_wantsToLeave_1 rfl rfl rfl (by decide) rfl (Nat.le_of_ble_eq_true rfl) (Nat.le_of_ble_eq_true rfl) (Nat.le_of_ble_eq_true rfl) (fun _ => rfl) (fun _ => rfl) (fun r1 => ?_)
  refine A_ifb_eq (pc := 4) (tgt := 22) dX2_wantsToLeave_4 (by decide) ?_ ?_
  · refine A_iconst (pc := 22) (v := (0 : Int32)) dX2_wantsToLeave_22 (by decide) ?_
    exact A_retBr rfl rfl dX2_wantsToLeave_23
  · refine A_aload_n (pc := 7) (i := 1) dX2_wantsToLeave_7 rfl rfl ?_
    refine A_getI (pc := 8) (k := 5) clX1 (Nat.le_of_ble_eq_true rfl) dX2_wantsToLeave_8 kF_X2_54 rfl ?_
    refine A_aload_n (pc := 11) (i := 0) dX2_wantsToLeave_11 rfl rfl ?_
    refine A_getI (pc := 12) (k := 0) clX2 (Nat.le_of_ble_eq_true rfl) dX2_wantsToLeave_12 kF_X2_16 rfl ?_
    refine A_icmp_gt (pc := 15) (tgt := 22) dX2_wantsToLeave_15 (by decide) ?_ ?_
    · refine A_iconst (pc := 22) (v := (0 : Int32)) dX2_wantsToLeave_22 (by decide) ?_
      exact A_retBr rfl rfl dX2_wantsToLeave_23
    · refine A_iconst (pc := 18) (v := (1 : Int32)) dX2_wantsToLeave_18 (by decide) ?_
      refine A_goto (pc := 19) (tgt := 23) dX2_wantsToLeave_19 (by decide) ?_
      exact A_retBr rfl rfl dX2_wantsToLeave_23

abbrev mX5_movedIfLeaving : MD := (yX5_movedIfLeaving, cX5_movedIfLeaving, 8, (some .int), { frames := 1, cells := 0, slots := 0, locals := 21 }, none)
theorem kD_X5_movedIfLeaving : CodeIn mX5_movedIfLeaving 2 := ⟨kC_X5_movedIfLeaving, by decide +kernel⟩
def fL_X5_movedIfLeaving_26 (h : Hp) : Nat → Nat → Int32 → Int32 → Int32 → Int32 → Option Int32
  | 0, _, _, _, _, _ => none
  | n + 1, i1, x2, x3, x5, x6 => (if x5 ≤ x6 then (some x3) else (if 0 ≤ x6 ∧ x6 < 8 then (match (gP h 11 0 (Int32.toNatClampNeg x6)) with | none => ((fL_X5_movedIfLeaving_26 h n) i1 x2 x3 x5 (x6 + 1)) | some k3 => ((f_X1_isOutsideOf k3 i1 h).bind fun r4 => (if r4 = true then ((f_X1_hasCrewAt k3 x2 h).bind fun r5 => (if r5 = true then ((fL_X5_movedIfLeaving_26 h n) i1 x2 (x3 + 1) x5 (x6 + 1)) else (some (-1 : Int32)))) else ((fL_X5_movedIfLeaving_26 h n) i1 x2 x3 x5 (x6 + 1))))) else none))
set_option maxRecDepth 100000 in
set_option maxHeartbeats 4000000 in
theorem aL_X5_movedIfLeaving_26 (h : Hp) : ∀ (n : Nat) (i1 : Nat) (x2 : Int32) (x3 : Int32) (x5 : Int32) (x6 : Int32), Aw (eIr h) U0 mX5_movedIfLeaving (0, 0) U0 26 [none, some (vr 1 (some i1)), some (vi x2), some (vi x3), some (vr 11 (some 0)), some (vi x5), some (vi x6), none] [] h (fL_X5_movedIfLeaving_26 h n i1 x2 x3 x5 x6) := by
  intro n
  induction n with
  | zero =>
    intro i1 x2 x3 x5 x6
    exact Aw.none
  | succ n ih =>
    intro i1 x2 x3 x5 x6
    show Aw _ _ _ _ _ _ _ _ _ (fL_X5_movedIfLeaving_26 h (n + 1) i1 x2 x3 x5 x6)
    unfold fL_X5_movedIfLeaving_26
    refine A_iload (pc := 26) (i := 6) dX5_movedIfLeaving_26 rfl ?_
    refine A_iload (pc := 28) (i := 5) dX5_movedIfLeaving_28 rfl ?_
    refine A_icmp_ge (pc := 30) (tgt := 74) dX5_movedIfLeaving_30 (by decide) ?_ ?_
    · refine A_iload_n (pc := 74) (i := 3) dX5_movedIfLeaving_74 rfl rfl ?_
      exact A_retIr rfl dX5_movedIfLeaving_75
    · refine A_aload (pc := 33) (i := 4) dX5_movedIfLeaving_33 rfl ?_
      refine A_iload (pc := 35) (i := 6) dX5_movedIfLeaving_35 rfl ?_
      refine A_aaload (pc := 37) (n := 8) (te := 1) (C := RX1) (by decide) (by decide) (by decide) (fun _ => rfl) rfl dX5_movedIfLeaving_37 (by decide) ?_
      generalize (gP h 11 0 (Int32.toNatClampNeg x6)) = q2
      refine A_astore (pc := 38) (i := 7) (ls2 := [none, some (vr 1 (some i1)), some (vi x2), some (vi x3), some (vr 11 (some 0)), some (vi x5), some (vi x6), some (vr 1 q2)]) dX5_movedIfLeaving_38 (Nat.le_of_ble_eq_true rfl) rfl ?_
      refine A_aload (pc := 40) (i := 7) dX5_movedIfLeaving_40 rfl ?_
      refine A_ifnull (pc := 42) (tgt := 68) dX5_movedIfLeaving_42 (by decide) (fun hz => ?_) (fun k3 hz => ?_)
      · subst hz
        try dsimp only
        refine A_iinc (pc := 68) (i := 6) (v := (x6 + 1)) (ls2 := [none, some (vr 1 (some i1)), some (vi x2), some (vi x3), some (vr 11 (some 0)), some (vi x5), some (vi (x6 + 1)), some (vr 1 none)]) dX5_movedIfLeaving_68 rfl rfl (Nat.le_of_ble_eq_true rfl) rfl ?_
        refine A_goto (pc := 71) (tgt := 26) dX5_movedIfLeaving_71 (by decide) ?_
        exact Aw.weak (ls' := [none, some (vr 1 (some i1)), some (vi x2), some (vi x3), some (vr 11 (some 0)), some (vi x5), some (vi (x6 + 1)), none]) ⟨rfl, ⟨rfl, ⟨rfl, ⟨rfl, ⟨rfl, ⟨rfl, trivial⟩⟩⟩⟩⟩⟩ (ih i1 x2 x3 x5 (x6 + 1))
      · subst hz
        try dsimp only
        refine A_aload (pc := 45) (i := 7) dX5_movedIfLeaving_45 rfl ?_
        refine A_aload_n (pc := 47) (i := 1) dX5_movedIfLeaving_47 rfl rfl ?_
        refine A_callV (pc := 48) (M' := mX1_isOutsideOf) (As := [vr 1 (some i1)]) (st := []) (0, 0) (fun r4 => [vi (bi r4)]) (fun _ => h) (a_X1_isOutsideOf k3 i1 h) kD_X1_isOutsideOf kM_X5_141 kI_X1_isOutsideOf kS_X1_isOutsideOf kN_X1 ⟨(Nat.le_of_ble_eq_true rfl), (Nat.le_of_ble_eq_true rfl)⟩ dX5_movedIfLeaving_48 rfl rfl rfl (by decide) rfl (Nat.le_of_ble_eq_true rfl) (Nat.le_of_ble_eq_true rfl) (Nat.le_of_ble_eq_true rfl) (fun _ => rfl) (fun _ => rfl) (fun r4 => ?_)
        refine A_ifb_eq (pc := 51) (tgt := 68) dX5_movedIfLeaving_51 (by decide) ?_ ?_
        · refine A_iinc (pc := 68) (i := 6) (v := (x6 + 1)) (ls2 := [none, some (vr 1 (some i1)), some (vi x2), some (vi x3), some (vr 11 (some 0)), some (vi x5), some (vi (x6 + 1)), some (vr 1 (some k3))]) dX5_movedIfLeaving_68 rfl rfl (Nat.le_of_ble_eq_true rfl) rfl ?_
          refine A_goto (pc := 71) (tgt := 26) dX5_movedIfLeaving_71 (by decide) ?_
          exact Aw.weak (ls' := [none, some (vr 1 (some i1)), some (vi x2), some (vi x3), some (vr 11 (some 0)), some (vi x5), some (vi (x6 + 1)), none]) ⟨rfl, ⟨rfl, ⟨rfl, ⟨rfl, ⟨rfl, ⟨rfl, trivial⟩⟩⟩⟩⟩⟩ (ih i1 x2 x3 x5 (x6 + 1))
        · refine A_aload (pc := 54) (i := 7) dX5_movedIfLeaving_54 rfl ?_
          refine A_iload_n (pc := 56) (i := 2) dX5_movedIfLeaving_56 rfl rfl ?_
          refine A_callV (pc := 57) (M' := mX1_hasCrewAt) (As := [vi x2]) (st := []) (0, 0) (fun r5 => [vi (bi r5)]) (fun _ => h) (a_X1_hasCrewAt k3 x2 h) kD_X1_hasCrewAt kM_X5_156 kI_X1_hasCrewAt kS_X1_hasCrewAt kN_X1 ⟨(Nat.le_of_ble_eq_true rfl), (Nat.le_of_ble_eq_true rfl)⟩ dX5_movedIfLeaving_57 rfl rfl rfl (by decide) rfl (Nat.le_of_ble_eq_true rfl) (Nat.le_of_ble_eq_true rfl) (Nat.le_of_ble_eq_true rfl) (fun _ => rfl) (fun _ => rfl) (fun r5 => ?_)
          refine A_ifb_ne (pc := 60) (tgt := 65) dX5_movedIfLeaving_60 (by decide) ?_ ?_
          · refine A_iinc (pc := 65) (i := 3) (v := (x3 + 1)) (ls2 := [none, some (vr 1 (some i1)), some (vi x2), some (vi (x3 + 1)), some (vr 11 (some 0)), some (vi x5), some (vi x6), some (vr 1 (some k3))]) dX5_movedIfLeaving_65 rfl rfl (Nat.le_of_ble_eq_true rfl) rfl ?_
            refine A_iinc (pc := 68) (i := 6) (v := (x6 + 1)) (ls2 := [none, some (vr 1 (some i1)), some (vi x2), some (vi (x3 + 1)), some (vr 11 (some 0)), some (vi x5), some (vi (x6 + 1)), some (vr 1 (some k3))]) dX5_movedIfLeaving_68 rfl rfl (Nat.le_of_ble_eq_true rfl) rfl ?_
            refine A_goto (pc := 71) (tgt := 26) dX5_movedIfLeaving_71 (by decide) ?_
            exact Aw.weak (ls' := [none, some (vr 1 (some i1)), some (vi x2), some (vi (x3 + 1)), some (vr 11 (some 0)), some (vi x5), some (vi (x6 + 1)), none]) ⟨rfl, ⟨rfl, ⟨rfl, ⟨rfl, ⟨rfl, ⟨rfl, trivial⟩⟩⟩⟩⟩⟩ (ih i1 x2 (x3 + 1) x5 (x6 + 1))
          · refine A_iconst (pc := 63) (v := (-1 : Int32)) dX5_movedIfLeaving_63 (by decide) ?_
            exact A_retIr rfl dX5_movedIfLeaving_64
def f_X5_movedIfLeaving (i1 : Nat) (x2 : Int32) (h : Hp) : Option Int32 := ((f_X1_hasCrewAt i1 x2 h).bind fun r1 => (if r1 = true then (fL_X5_movedIfLeaving_26 h FU i1 x2 (0 : Int32) (8 : Int32) (0 : Int32)) else (some (-1 : Int32))))
set_option maxRecDepth 100000 in
set_option maxHeartbeats 4000000 in
theorem a_X5_movedIfLeaving (i1 : Nat) (x2 : Int32) (h : Hp) : CtA (eIr h) mX5_movedIfLeaving U0 U0 [vr 5 (some 0), vr 1 (some i1), vi x2] h (f_X5_movedIfLeaving i1 x2 h) := by
  refine Ct.of (ls := [some (vr 5 (some 0)), some (vr 1 (some i1)), some (vi x2), none, none, none, none, none]) (n := 5) (by decide +kernel) rfl rfl rfl ?_
  unfold f_X5_movedIfLeaving
  refine A_aload_n (pc := 0) (i := 1) dX5_movedIfLeaving_0 rfl rfl ?_
  refine A_iload_n (pc := 1) (i := 2) dX5_movedIfLeaving_1 rfl rfl ?_
  refine A_callV (pc := 2) (M' := mX1_hasCrewAt) (As := [vi x2]) (st := []) (0, 0) (fun r1 => [vi (bi r1)]) (fun _ => h) (a_X1_hasCrewAt i1 x2 h) kD_X1_hasCrewAt kM_X5_156 kI_X1_hasCrewAt kS_X1_hasCrewAt kN_X1 ⟨(Nat.le_of_ble_eq_true rfl), (Nat.le_of_ble_eq_true rfl)⟩ dX5_movedIfLeaving_2 rfl rfl rfl (by decide) rfl (Nat.le_of_ble_eq_true rfl) (Nat.le_of_ble_eq_true rfl) (Nat.le_of_ble_eq_true rfl) (fun _ => rfl) (fun _ => rfl) (fun r1 => ?_)
  refine A_ifb_ne (pc := 5) (tgt := 10) dX5_movedIfLeaving_5 (by decide) ?_ ?_
  · refine A_iconst (pc := 10) (v := (0 : Int32)) dX5_movedIfLeaving_10 (by decide) ?_
    refine A_istore_n (pc := 11) (i := 3) (ls2 := [some (vr 5 (some 0)), some (vr 1 (some i1)), some (vi x2), some (vi (0 : Int32)), none, none, none, none]) dX5_movedIfLeaving_11 rfl (Nat.le_of_ble_eq_true rfl) rfl ?_
    refine A_aload_n (pc := 12) (i := 0) dX5_movedIfLeaving_12 rfl rfl ?_
    refine A_getS (pc := 13) (k := 1) (tp := 11) clX5 (Nat.le_of_ble_eq_true rfl) dX5_movedIfLeaving_13 kF_X5_19 rfl rfl rfl ?_
    refine A_astore (pc := 16) (i := 4) (ls2 := [some (vr 5 (some 0)), some (vr 1 (some i1)), some (vi x2), some (vi (0 : Int32)), some (vr 11 (some 0)), none, none, none]) dX5_movedIfLeaving_16 (Nat.le_of_ble_eq_true rfl) rfl ?_
    refine A_aload (pc := 18) (i := 4) dX5_movedIfLeaving_18 rfl ?_
    refine A_alen (pc := 20) (v := (8 : Int32)) (by decide) (by decide) (by decide) rfl dX5_movedIfLeaving_20 ?_
    refine A_istore (pc := 21) (i := 5) (ls2 := [some (vr 5 (some 0)), some (vr 1 (some i1)), some (vi x2), some (vi (0 : Int32)), some (vr 11 (some 0)), some (vi (8 : Int32)), none, none]) dX5_movedIfLeaving_21 (Nat.le_of_ble_eq_true rfl) rfl ?_
    refine A_iconst (pc := 23) (v := (0 : Int32)) dX5_movedIfLeaving_23 (by decide) ?_
    refine A_istore (pc := 24) (i := 6) (ls2 := [some (vr 5 (some 0)), some (vr 1 (some i1)), some (vi x2), some (vi (0 : Int32)), some (vr 11 (some 0)), some (vi (8 : Int32)), some (vi (0 : Int32)), none]) dX5_movedIfLeaving_24 (Nat.le_of_ble_eq_true rfl) rfl ?_
    exact Aw.weak (ls' := [none, some (vr 1 (some i1)), some (vi x2), some (vi (0 : Int32)), some (vr 11 (some 0)), some (vi (8 : Int32)), some (vi (0 : Int32)), none]) ⟨rfl, ⟨rfl, ⟨rfl, ⟨rfl, ⟨rfl, ⟨rfl, trivial⟩⟩⟩⟩⟩⟩ (aL_X5_movedIfLeaving_26 h FU i1 x2 (0 : Int32) (8 : Int32) (0 : Int32))
  · refine A_iconst (pc := 8) (v := (-1 : Int32)) dX5_movedIfLeaving_8 (by decide) ?_
    exact A_retIr rfl dX5_movedIfLeaving_9

abbrev mX2_nextToLeave : MD := (yX2_nextToLeave, cX2_nextToLeave, 9, (some (.object "AbreastQuay$Boat")), { frames := 2, cells := 0, slots := 0, locals := 48 }, none)
theorem kD_X2_nextToLeave : CodeIn mX2_nextToLeave 1 := ⟨kC_X2_nextToLeave, by decide +kernel⟩
def fL_X2_nextToLeave_19 (h : Hp) : Nat → (Option Nat) → Int32 → Int32 → Int32 → Option (Option Nat)
  | 0, _, _, _, _ => none
  | n + 1, o2, x3, x5, x6 => (if x5 ≤ x6 then (some o2) else (if 0 ≤ x6 ∧ x6 < 8 then (match (gP h 11 0 (Int32.toNatClampNeg x6)) with | none => ((fL_X2_nextToLeave_19 h n) o2 x3 x5 (x6 + 1)) | some k2 => ((f_X2_wantsToLeave k2 h).bind fun r3 => (if r3 = true then ((f_X5_movedIfLeaving k2 (gI h 2 0 0) h).bind fun r4 => (if r4 < 0 then ((fL_X2_nextToLeave_19 h n) o2 x3 x5 (x6 + 1)) else (if x3 ≤ r4 then ((fL_X2_nextToLeave_19 h n) o2 x3 x5 (x6 + 1)) else ((fL_X2_nextToLeave_19 h n) (some k2) r4 x5 (x6 + 1))))) else ((fL_X2_nextToLeave_19 h n) o2 x3 x5 (x6 + 1))))) else none))
set_option maxRecDepth 100000 in
set_option maxHeartbeats 4000000 in
theorem aL_X2_nextToLeave_19 (h : Hp) : ∀ (n : Nat) (o2 : (Option Nat)) (x3 : Int32) (x5 : Int32) (x6 : Int32), Aw (eRr 1 h) U0 mX2_nextToLeave (0, 0) U0 19 [some (vr 2 (some 0)), some (vr 5 (some 0)), some (vr 1 o2), some (vi x3), some (vr 11 (some 0)), some (vi x5), some (vi x6), none, none] [] h (fL_X2_nextToLeave_19 h n o2 x3 x5 x6) := by
  intro n
  induction n with
  | zero =>
    intro o2 x3 x5 x6
    exact Aw.none
  | succ n ih =>
    intro o2 x3 x5 x6
    show Aw _ _ _ _ _ _ _ _ _ (fL_X2_nextToLeave_19 h (n + 1) o2 x3 x5 x6)
    unfold fL_X2_nextToLeave_19
    refine A_iload (pc := 19) (i := 6) dX2_nextToLeave_19 rfl ?_
    refine A_iload (pc := 21) (i := 5) dX2_nextToLeave_21 rfl ?_
    refine A_icmp_ge (pc := 23) (tgt := 82) dX2_nextToLeave_23 (by decide) ?_ ?_
    · refine A_aload_n (pc := 82) (i := 2) dX2_nextToLeave_82 rfl rfl ?_
      exact A_retRr rfl dX2_nextToLeave_83
    · refine A_aload (pc := 26) (i := 4) dX2_nextToLeave_26 rfl ?_
      refine A_iload (pc := 28) (i := 6) dX2_nextToLeave_28 rfl ?_
      refine A_aaload (pc := 30) (n := 8) (te := 1) (C := RX1) (by decide) (by decide) (by decide) (fun _ => rfl) rfl dX2_nextToLeave_30 (by decide) ?_
      generalize (gP h 11 0 (Int32.toNatClampNeg x6)) = q1
      refine A_astore (pc := 31) (i := 7) (ls2 := [some (vr 2 (some 0)), some (vr 5 (some 0)), some (vr 1 o2), some (vi x3), some (vr 11 (some 0)), some (vi x5), some (vi x6), some (vr 1 q1), none]) dX2_nextToLeave_31 (Nat.le_of_ble_eq_true rfl) rfl ?_
      refine A_aload (pc := 33) (i := 7) dX2_nextToLeave_33 rfl ?_
      refine A_ifnull (pc := 35) (tgt := 76) dX2_nextToLeave_35 (by decide) (fun hz => ?_) (fun k2 hz => ?_)
      · subst hz
        try dsimp only
        refine A_iinc (pc := 76) (i := 6) (v := (x6 + 1)) (ls2 := [some (vr 2 (some 0)), some (vr 5 (some 0)), some (vr 1 o2), some (vi x3), some (vr 11 (some 0)), some (vi x5), some (vi (x6 + 1)), some (vr 1 none), none]) dX2_nextToLeave_76 rfl rfl (Nat.le_of_ble_eq_true rfl) rfl ?_
        refine A_goto (pc := 79) (tgt := 19) dX2_nextToLeave_79 (by decide) ?_
        exact Aw.weak (ls' := [some (vr 2 (some 0)), some (vr 5 (some 0)), some (vr 1 o2), some (vi x3), some (vr 11 (some 0)), some (vi x5), some (vi (x6 + 1)), none, none]) ⟨rfl, ⟨rfl, ⟨rfl, ⟨rfl, ⟨rfl, ⟨rfl, ⟨rfl, trivial⟩⟩⟩⟩⟩⟩⟩ (ih o2 x3 x5 (x6 + 1))
      · subst hz
        try dsimp only
        refine A_aload_n (pc := 38) (i := 0) dX2_nextToLeave_38 rfl rfl ?_
        refine A_aload (pc := 39) (i := 7) dX2_nextToLeave_39 rfl ?_
        refine A_callV (pc := 41) (M' := mX2_wantsToLeave) (As := [vr 1 (some k2)]) (st := []) (0, 0) (fun r3 => [vi (bi r3)]) (fun _ => h) (a_X2_wantsToLeave k2 h) kD_X2_wantsToLeave kM_X2_29 kI_X2_wantsToLeave kS_X2_wantsToLeave kN_X2 ⟨(Nat.le_of_ble_eq_true rfl), (Nat.le_of_ble_eq_true rfl)⟩ dX2_nextToLeave_41 rfl rfl rfl (by decide) rfl (Nat.le_of_ble_eq_true rfl) (Nat.le_of_ble_eq_true rfl) (Nat.le_of_ble_eq_true rfl) (fun _ => rfl) (fun _ => rfl) (fun r3 => ?_)
        refine A_ifb_eq (pc := 44) (tgt := 76) dX2_nextToLeave_44 (by decide) ?_ ?_
        · refine A_iinc (pc := 76) (i := 6) (v := (x6 + 1)) (ls2 := [some (vr 2 (some 0)), some (vr 5 (some 0)), some (vr 1 o2), some (vi x3), some (vr 11 (some 0)), some (vi x5), some (vi (x6 + 1)), some (vr 1 (some k2)), none]) dX2_nextToLeave_76 rfl rfl (Nat.le_of_ble_eq_true rfl) rfl ?_
          refine A_goto (pc := 79) (tgt := 19) dX2_nextToLeave_79 (by decide) ?_
          exact Aw.weak (ls' := [some (vr 2 (some 0)), some (vr 5 (some 0)), some (vr 1 o2), some (vi x3), some (vr 11 (some 0)), some (vi x5), some (vi (x6 + 1)), none, none]) ⟨rfl, ⟨rfl, ⟨rfl, ⟨rfl, ⟨rfl, ⟨rfl, ⟨rfl, trivial⟩⟩⟩⟩⟩⟩⟩ (ih o2 x3 x5 (x6 + 1))
        · refine A_aload_n (pc := 47) (i := 1) dX2_nextToLeave_47 rfl rfl ?_
          refine A_aload (pc := 48) (i := 7) dX2_nextToLeave_48 rfl ?_
          refine A_aload_n (pc := 50) (i := 0) dX2_nextToLeave_50 rfl rfl ?_
          refine A_getI (pc := 51) (k := 0) clX2 (Nat.le_of_ble_eq_true rfl) dX2_nextToLeave_51 kF_X2_16 rfl ?_
          refine A_callV (pc := 54) (M' := mX5_movedIfLeaving) (As := [vr 1 (some k2), vi (gI h 2 0 0)]) (st := []) (0, 0) (fun r4 => [vi r4]) (fun _ => h) (a_X5_movedIfLeaving k2 (gI h 2 0 0) h) kD_X5_movedIfLeaving kM_X2_46 kI_X5_movedIfLeaving kS_X5_movedIfLeaving kN_X5 ⟨(Nat.le_of_ble_eq_true rfl), (Nat.le_of_ble_eq_true rfl)⟩ dX2_nextToLeave_54 rfl rfl rfl (by decide) rfl (Nat.le_of_ble_eq_true rfl) (Nat.le_of_ble_eq_true rfl) (Nat.le_of_ble_eq_true rfl) (fun _ => rfl) (fun _ => rfl) (fun r4 => ?_)
          refine A_istore (pc := 57) (i := 8) (ls2 := [some (vr 2 (some 0)), some (vr 5 (some 0)), some (vr 1 o2), some (vi x3), some (vr 11 (some 0)), some (vi x5), some (vi x6), some (vr 1 (some k2)), some (vi r4)]) dX2_nextToLeave_57 (Nat.le_of_ble_eq_true rfl) rfl ?_
          refine A_iload (pc := 59) (i := 8) dX2_nextToLeave_59 rfl ?_
          refine A_if_lt (pc := 61) (tgt := 76) dX2_nextToLeave_61 (by decide) ?_ ?_
          · refine A_iinc (pc := 76) (i := 6) (v := (x6 + 1)) (ls2 := [some (vr 2 (some 0)), some (vr 5 (some 0)), some (vr 1 o2), some (vi x3), some (vr 11 (some 0)), some (vi x5), some (vi (x6 + 1)), some (vr 1 (some k2)), some (vi r4)]) dX2_nextToLeave_76 rfl rfl (Nat.le_of_ble_eq_true rfl) rfl ?_
            refine A_goto (pc := 79) (tgt := 19) dX2_nextToLeave_79 (by decide) ?_
            exact Aw.weak (ls' := [some (vr 2 (some 0)), some (vr 5 (some 0)), some (vr 1 o2), some (vi x3), some (vr 11 (some 0)), some (vi x5), some (vi (x6 + 1)), none, none]) ⟨rfl, ⟨rfl, ⟨rfl, ⟨rfl, ⟨rfl, ⟨rfl, ⟨rfl, trivial⟩⟩⟩⟩⟩⟩⟩ (ih o2 x3 x5 (x6 + 1))
          · refine A_iload (pc := 64) (i := 8) dX2_nextToLeave_64 rfl ?_
            refine A_iload_n (pc := 66) (i := 3) dX2_nextToLeave_66 rfl rfl ?_
            refine A_icmp_ge (pc := 67) (tgt := 76) dX2_nextToLeave_67 (by decide) ?_ ?_
            · refine A_iinc (pc := 76) (i := 6) (v := (x6 + 1)) (ls2 := [some (vr 2 (some 0)), some (vr 5 (some 0)), some (vr 1 o2), some (vi x3), some (vr 11 (some 0)), some (vi x5), some (vi (x6 + 1)), some (vr 1 (some k2)), some (vi r4)]) dX2_nextToLeave_76 rfl rfl (Nat.le_of_ble_eq_true rfl) rfl ?_
              refine A_goto (pc := 79) (tgt := 19) dX2_nextToLeave_79 (by decide) ?_
              exact Aw.weak (ls' := [some (vr 2 (some 0)), some (vr 5 (some 0)), some (vr 1 o2), some (vi x3), some (vr 11 (some 0)), some (vi x5), some (vi (x6 + 1)), none, none]) ⟨rfl, ⟨rfl, ⟨rfl, ⟨rfl, ⟨rfl, ⟨rfl, ⟨rfl, trivial⟩⟩⟩⟩⟩⟩⟩ (ih o2 x3 x5 (x6 + 1))
            · refine A_aload (pc := 70) (i := 7) dX2_nextToLeave_70 rfl ?_
              refine A_astore_n (pc := 72) (i := 2) (ls2 := [some (vr 2 (some 0)), some (vr 5 (some 0)), some (vr 1 (some k2)), some (vi x3), some (vr 11 (some 0)), some (vi x5), some (vi x6), some (vr 1 (some k2)), some (vi r4)]) dX2_nextToLeave_72 rfl (Nat.le_of_ble_eq_true rfl) rfl ?_
              refine A_iload (pc := 73) (i := 8) dX2_nextToLeave_73 rfl ?_
              refine A_istore_n (pc := 75) (i := 3) (ls2 := [some (vr 2 (some 0)), some (vr 5 (some 0)), some (vr 1 (some k2)), some (vi r4), some (vr 11 (some 0)), some (vi x5), some (vi x6), some (vr 1 (some k2)), some (vi r4)]) dX2_nextToLeave_75 rfl (Nat.le_of_ble_eq_true rfl) rfl ?_
              refine A_iinc (pc := 76) (i := 6) (v := (x6 + 1)) (ls2 := [some (vr 2 (some 0)), some (vr 5 (some 0)), some (vr 1 (some k2)), some (vi r4), some (vr 11 (some 0)), some (vi x5), some (vi (x6 + 1)), some (vr 1 (some k2)), some (vi r4)]) dX2_nextToLeave_76 rfl rfl (Nat.le_of_ble_eq_true rfl) rfl ?_
              refine A_goto (pc := 79) (tgt := 19) dX2_nextToLeave_79 (by decide) ?_
              exact Aw.weak (ls' := [some (vr 2 (some 0)), some (vr 5 (some 0)), some (vr 1 (some k2)), some (vi r4), some (vr 11 (some 0)), some (vi x5), some (vi (x6 + 1)), none, none]) ⟨rfl, ⟨rfl, ⟨rfl, ⟨rfl, ⟨rfl, ⟨rfl, ⟨rfl, trivial⟩⟩⟩⟩⟩⟩⟩ (ih (some k2) r4 x5 (x6 + 1))
def f_X2_nextToLeave (h : Hp) : Option (Option Nat) := (fL_X2_nextToLeave_19 h FU none (8 : Int32) (8 : Int32) (0 : Int32))
set_option maxRecDepth 100000 in
set_option maxHeartbeats 4000000 in
theorem a_X2_nextToLeave (h : Hp) : CtA (eRr 1 h) mX2_nextToLeave U0 U0 [vr 2 (some 0), vr 5 (some 0)] h (f_X2_nextToLeave h) := by
  refine Ct.of (ls := [some (vr 2 (some 0)), some (vr 5 (some 0)), none, none, none, none, none, none, none]) (n := 7) (by decide +kernel) rfl rfl rfl ?_
  unfold f_X2_nextToLeave
  refine A_null (pc := 0) 1 dX2_nextToLeave_0 ?_
  refine A_astore_n (pc := 1) (i := 2) (ls2 := [some (vr 2 (some 0)), some (vr 5 (some 0)), some (vr 1 none), none, none, none, none, none, none]) dX2_nextToLeave_1 rfl (Nat.le_of_ble_eq_true rfl) rfl ?_
  refine A_bipush (pc := 2) (v := (8 : Int32)) dX2_nextToLeave_2 (by decide) ?_
  refine A_istore_n (pc := 4) (i := 3) (ls2 := [some (vr 2 (some 0)), some (vr 5 (some 0)), some (vr 1 none), some (vi (8 : Int32)), none, none, none, none, none]) dX2_nextToLeave_4 rfl (Nat.le_of_ble_eq_true rfl) rfl ?_
  refine A_aload_n (pc := 5) (i := 1) dX2_nextToLeave_5 rfl rfl ?_
  refine A_getS (pc := 6) (k := 1) (tp := 11) clX5 (Nat.le_of_ble_eq_true rfl) dX2_nextToLeave_6 kF_X2_23 rfl rfl rfl ?_
  refine A_astore (pc := 9) (i := 4) (ls2 := [some (vr 2 (some 0)), some (vr 5 (some 0)), some (vr 1 none), some (vi (8 : Int32)), some (vr 11 (some 0)), none, none, none, none]) dX2_nextToLeave_9 (Nat.le_of_ble_eq_true rfl) rfl ?_
  refine A_aload (pc := 11) (i := 4) dX2_nextToLeave_11 rfl ?_
  refine A_alen (pc := 13) (v := (8 : Int32)) (by decide) (by decide) (by decide) rfl dX2_nextToLeave_13 ?_
  refine A_istore (pc := 14) (i := 5) (ls2 := [some (vr 2 (some 0)), some (vr 5 (some 0)), some (vr 1 none), some (vi (8 : Int32)), some (vr 11 (some 0)), some (vi (8 : Int32)), none, none, none]) dX2_nextToLeave_14 (Nat.le_of_ble_eq_true rfl) rfl ?_
  refine A_iconst (pc := 16) (v := (0 : Int32)) dX2_nextToLeave_16 (by decide) ?_
  refine A_istore (pc := 17) (i := 6) (ls2 := [some (vr 2 (some 0)), some (vr 5 (some 0)), some (vr 1 none), some (vi (8 : Int32)), some (vr 11 (some 0)), some (vi (8 : Int32)), some (vi (0 : Int32)), none, none]) dX2_nextToLeave_17 (Nat.le_of_ble_eq_true rfl) rfl ?_
  exact Aw.weak (ls' := [some (vr 2 (some 0)), some (vr 5 (some 0)), some (vr 1 none), some (vi (8 : Int32)), some (vr 11 (some 0)), some (vi (8 : Int32)), some (vi (0 : Int32)), none, none]) ⟨rfl, ⟨rfl, ⟨rfl, ⟨rfl, ⟨rfl, ⟨rfl, ⟨rfl, trivial⟩⟩⟩⟩⟩⟩⟩ (aL_X2_nextToLeave_19 h FU none (8 : Int32) (8 : Int32) (0 : Int32))

abbrev mX5_moveFrom : MD := (yX5_moveFrom, cX5_moveFrom, 9, (some .int), { frames := 1, cells := 0, slots := 0, locals := 21 }, none)
theorem kD_X5_moveFrom : CodeIn mX5_moveFrom 3 := ⟨kC_X5_moveFrom, by decide +kernel⟩
def fL_X5_moveFrom_17 : Nat → Int32 → Int32 → Int32 → Int32 → Int32 → Int32 → Hp → Option (Int32 × Hp)
  | 0, _, _, _, _, _, _, _ => none
  | n + 1, x1, x2, x3, x4, x6, x7, h => (if x6 ≤ x7 then (some (x4, (wI h 5 0 5 ((gI h 5 0 5) + x4)))) else (if 0 ≤ x7 ∧ x7 < 8 then (match (gP h 11 0 (Int32.toNatClampNeg x7)) with | none => ((fL_X5_moveFrom_17 n) x1 x2 x3 x4 x6 (x7 + 1) h) | some k2 => (if (gI h 1 k2 8) = x1 then (if (gI h 1 k2 9) < x2 then ((fL_X5_moveFrom_17 n) x1 x2 x3 x4 x6 (x7 + 1) h) else ((f_X1_moveBy k2 x3 h).bind fun r3 => ((fL_X5_moveFrom_17 n) x1 x2 x3 (x4 + 1) x6 (x7 + 1) r3))) else ((fL_X5_moveFrom_17 n) x1 x2 x3 x4 x6 (x7 + 1) h))) else none))
set_option maxRecDepth 100000 in
set_option maxHeartbeats 4000000 in
theorem aL_X5_moveFrom_17 : ∀ (n : Nat) (x1 : Int32) (x2 : Int32) (x3 : Int32) (x4 : Int32) (x6 : Int32) (x7 : Int32) (h : Hp), Aw eI U0 mX5_moveFrom (0, 0) U0 17 [some (vr 5 (some 0)), some (vi x1), some (vi x2), some (vi x3), some (vi x4), some (vr 11 (some 0)), some (vi x6), some (vi x7), none] [] h (fL_X5_moveFrom_17 n x1 x2 x3 x4 x6 x7 h) := by
  intro n
  induction n with
  | zero =>
    intro x1 x2 x3 x4 x6 x7 h
    exact Aw.none
  | succ n ih =>
    intro x1 x2 x3 x4 x6 x7 h
    show Aw _ _ _ _ _ _ _ _ _ (fL_X5_moveFrom_17 (n + 1) x1 x2 x3 x4 x6 x7 h)
    unfold fL_X5_moveFrom_17
    refine A_iload (pc := 17) (i := 7) dX5_moveFrom_17 rfl ?_
    refine A_iload (pc := 19) (i := 6) dX5_moveFrom_19 rfl ?_
    refine A_icmp_ge (pc := 21) (tgt := 69) dX5_moveFrom_21 (by decide) ?_ ?_
    · refine A_aload_n (pc := 69) (i := 0) dX5_moveFrom_69 rfl rfl ?_
      refine A_dup (pc := 70) dX5_moveFrom_70 (fun _ => cv_catr _ _) ?_
      refine A_getI (pc := 71) (k := 5) clX5 (Nat.le_of_ble_eq_true rfl) dX5_moveFrom_71 kF_X5_134 rfl ?_
      refine A_iload (pc := 74) (i := 4) dX5_moveFrom_74 rfl ?_
      refine A_iadd (pc := 76) dX5_moveFrom_76 ?_
      refine A_putI (pc := 77) (k := 5) clX5 (Nat.le_of_ble_eq_true rfl) dX5_moveFrom_77 kF_X5_134 rfl (Or.inl rfl) ⟨rfl, rfl⟩ ?_
      refine A_iload (pc := 80) (i := 4) dX5_moveFrom_80 rfl ?_
      exact A_retI rfl dX5_moveFrom_82
    · refine A_aload (pc := 24) (i := 5) dX5_moveFrom_24 rfl ?_
      refine A_iload (pc := 26) (i := 7) dX5_moveFrom_26 rfl ?_
      refine A_aaload (pc := 28) (n := 8) (te := 1) (C := RX1) (by decide) (by decide) (by decide) (fun _ => rfl) rfl dX5_moveFrom_28 (by decide) ?_
      generalize (gP h 11 0 (Int32.toNatClampNeg x7)) = q1
      refine A_astore (pc := 29) (i := 8) (ls2 := [some (vr 5 (some 0)), some (vi x1), some (vi x2), some (vi x3), some (vi x4), some (vr 11 (some 0)), some (vi x6), some (vi x7), some (vr 1 q1)]) dX5_moveFrom_29 (Nat.le_of_ble_eq_true rfl) rfl ?_
      refine A_aload (pc := 31) (i := 8) dX5_moveFrom_31 rfl ?_
      refine A_ifnull (pc := 33) (tgt := 63) dX5_moveFrom_33 (by decide) (fun hz => ?_) (fun k2 hz => ?_)
      · subst hz
        try dsimp only
        refine A_iinc (pc := 63) (i := 7) (v := (x7 + 1)) (ls2 := [some (vr 5 (some 0)), some (vi x1), some (vi x2), some (vi x3), some (vi x4), some (vr 11 (some 0)), some (vi x6), some (vi (x7 + 1)), some (vr 1 none)]) dX5_moveFrom_63 rfl rfl (Nat.le_of_ble_eq_true rfl) rfl ?_
        refine A_goto (pc := 66) (tgt := 17) dX5_moveFrom_66 (by decide) ?_
        exact Aw.weak (ls' := [some (vr 5 (some 0)), some (vi x1), some (vi x2), some (vi x3), some (vi x4), some (vr 11 (some 0)), some (vi x6), some (vi (x7 + 1)), none]) ⟨rfl, ⟨rfl, ⟨rfl, ⟨rfl, ⟨rfl, ⟨rfl, ⟨rfl, ⟨rfl, trivial⟩⟩⟩⟩⟩⟩⟩⟩ (ih x1 x2 x3 x4 x6 (x7 + 1) h)
      · subst hz
        try dsimp only
        refine A_aload (pc := 36) (i := 8) dX5_moveFrom_36 rfl ?_
        refine A_getI (pc := 38) (k := 8) clX1 (Nat.le_of_ble_eq_true rfl) dX5_moveFrom_38 kF_X5_42 rfl ?_
        refine A_iload_n (pc := 41) (i := 1) dX5_moveFrom_41 rfl rfl ?_
        refine A_icmp_ne (pc := 42) (tgt := 63) dX5_moveFrom_42 (by decide) ?_ ?_
        · refine A_iinc (pc := 63) (i := 7) (v := (x7 + 1)) (ls2 := [some (vr 5 (some 0)), some (vi x1), some (vi x2), some (vi x3), some (vi x4), some (vr 11 (some 0)), some (vi x6), some (vi (x7 + 1)), some (vr 1 (some k2))]) dX5_moveFrom_63 rfl rfl (Nat.le_of_ble_eq_true rfl) rfl ?_
          refine A_goto (pc := 66) (tgt := 17) dX5_moveFrom_66 (by decide) ?_
          exact Aw.weak (ls' := [some (vr 5 (some 0)), some (vi x1), some (vi x2), some (vi x3), some (vi x4), some (vr 11 (some 0)), some (vi x6), some (vi (x7 + 1)), none]) ⟨rfl, ⟨rfl, ⟨rfl, ⟨rfl, ⟨rfl, ⟨rfl, ⟨rfl, ⟨rfl, trivial⟩⟩⟩⟩⟩⟩⟩⟩ (ih x1 x2 x3 x4 x6 (x7 + 1) h)
        · refine A_aload (pc := 45) (i := 8) dX5_moveFrom_45 rfl ?_
          refine A_getI (pc := 47) (k := 9) clX1 (Nat.le_of_ble_eq_true rfl) dX5_moveFrom_47 kF_X5_45 rfl ?_
          refine A_iload_n (pc := 50) (i := 2) dX5_moveFrom_50 rfl rfl ?_
          refine A_icmp_lt (pc := 51) (tgt := 63) dX5_moveFrom_51 (by decide) ?_ ?_
          · refine A_iinc (pc := 63) (i := 7) (v := (x7 + 1)) (ls2 := [some (vr 5 (some 0)), some (vi x1), some (vi x2), some (vi x3), some (vi x4), some (vr 11 (some 0)), some (vi x6), some (vi (x7 + 1)), some (vr 1 (some k2))]) dX5_moveFrom_63 rfl rfl (Nat.le_of_ble_eq_true rfl) rfl ?_
            refine A_goto (pc := 66) (tgt := 17) dX5_moveFrom_66 (by decide) ?_
            exact Aw.weak (ls' := [some (vr 5 (some 0)), some (vi x1), some (vi x2), some (vi x3), some (vi x4), some (vr 11 (some 0)), some (vi x6), some (vi (x7 + 1)), none]) ⟨rfl, ⟨rfl, ⟨rfl, ⟨rfl, ⟨rfl, ⟨rfl, ⟨rfl, ⟨rfl, trivial⟩⟩⟩⟩⟩⟩⟩⟩ (ih x1 x2 x3 x4 x6 (x7 + 1) h)
          · refine A_aload (pc := 54) (i := 8) dX5_moveFrom_54 rfl ?_
            refine A_iload_n (pc := 56) (i := 3) dX5_moveFrom_56 rfl rfl ?_
            refine A_callV (pc := 57) (M' := mX1_moveBy) (As := [vi x3]) (st := []) (0, 0) (fun r3 => []) (fun r3 => r3) (a_X1_moveBy k2 x3 h) kD_X1_moveBy kM_X5_130 kI_X1_moveBy kS_X1_moveBy kN_X1 ⟨(Nat.le_of_ble_eq_true rfl), (Nat.le_of_ble_eq_true rfl)⟩ dX5_moveFrom_57 rfl rfl rfl (by decide) rfl (Nat.le_of_ble_eq_true rfl) (Nat.le_of_ble_eq_true rfl) (Nat.le_of_ble_eq_true rfl) (fun _ => rfl) (fun _ => rfl) (fun r3 => ?_)
            refine A_iinc (pc := 60) (i := 4) (v := (x4 + 1)) (ls2 := [some (vr 5 (some 0)), some (vi x1), some (vi x2), some (vi x3), some (vi (x4 + 1)), some (vr 11 (some 0)), some (vi x6), some (vi x7), some (vr 1 (some k2))]) dX5_moveFrom_60 rfl rfl (Nat.le_of_ble_eq_true rfl) rfl ?_
            refine A_iinc (pc := 63) (i := 7) (v := (x7 + 1)) (ls2 := [some (vr 5 (some 0)), some (vi x1), some (vi x2), some (vi x3), some (vi (x4 + 1)), some (vr 11 (some 0)), some (vi x6), some (vi (x7 + 1)), some (vr 1 (some k2))]) dX5_moveFrom_63 rfl rfl (Nat.le_of_ble_eq_true rfl) rfl ?_
            refine A_goto (pc := 66) (tgt := 17) dX5_moveFrom_66 (by decide) ?_
            exact Aw.weak (ls' := [some (vr 5 (some 0)), some (vi x1), some (vi x2), some (vi x3), some (vi (x4 + 1)), some (vr 11 (some 0)), some (vi x6), some (vi (x7 + 1)), none]) ⟨rfl, ⟨rfl, ⟨rfl, ⟨rfl, ⟨rfl, ⟨rfl, ⟨rfl, ⟨rfl, trivial⟩⟩⟩⟩⟩⟩⟩⟩ (ih x1 x2 x3 (x4 + 1) x6 (x7 + 1) r3)
def f_X5_moveFrom (x1 : Int32) (x2 : Int32) (x3 : Int32) (h : Hp) : Option (Int32 × Hp) := (fL_X5_moveFrom_17 FU x1 x2 x3 (0 : Int32) (8 : Int32) (0 : Int32) h)
set_option maxRecDepth 100000 in
set_option maxHeartbeats 4000000 in
theorem a_X5_moveFrom (x1 : Int32) (x2 : Int32) (x3 : Int32) (h : Hp) : CtA eI mX5_moveFrom U0 U0 [vr 5 (some 0), vi x1, vi x2, vi x3] h (f_X5_moveFrom x1 x2 x3 h) := by
  refine Ct.of (ls := [some (vr 5 (some 0)), some (vi x1), some (vi x2), some (vi x3), none, none, none, none, none]) (n := 5) (by decide +kernel) rfl rfl rfl ?_
  unfold f_X5_moveFrom
  refine A_iconst (pc := 0) (v := (0 : Int32)) dX5_moveFrom_0 (by decide) ?_
  refine A_istore (pc := 1) (i := 4) (ls2 := [some (vr 5 (some 0)), some (vi x1), some (vi x2), some (vi x3), some (vi (0 : Int32)), none, none, none, none]) dX5_moveFrom_1 (Nat.le_of_ble_eq_true rfl) rfl ?_
  refine A_aload_n (pc := 3) (i := 0) dX5_moveFrom_3 rfl rfl ?_
  refine A_getS (pc := 4) (k := 1) (tp := 11) clX5 (Nat.le_of_ble_eq_true rfl) dX5_moveFrom_4 kF_X5_19 rfl rfl rfl ?_
  refine A_astore (pc := 7) (i := 5) (ls2 := [some (vr 5 (some 0)), some (vi x1), some (vi x2), some (vi x3), some (vi (0 : Int32)), some (vr 11 (some 0)), none, none, none]) dX5_moveFrom_7 (Nat.le_of_ble_eq_true rfl) rfl ?_
  refine A_aload (pc := 9) (i := 5) dX5_moveFrom_9 rfl ?_
  refine A_alen (pc := 11) (v := (8 : Int32)) (by decide) (by decide) (by decide) rfl dX5_moveFrom_11 ?_
  refine A_istore (pc := 12) (i := 6) (ls2 := [some (vr 5 (some 0)), some (vi x1), some (vi x2), some (vi x3), some (vi (0 : Int32)), some (vr 11 (some 0)), some (vi (8 : Int32)), none, none]) dX5_moveFrom_12 (Nat.le_of_ble_eq_true rfl) rfl ?_
  refine A_iconst (pc := 14) (v := (0 : Int32)) dX5_moveFrom_14 (by decide) ?_
  refine A_istore (pc := 15) (i := 7) (ls2 := [some (vr 5 (some 0)), some (vi x1), some (vi x2), some (vi x3), some (vi (0 : Int32)), some (vr 11 (some 0)), some (vi (8 : Int32)), some (vi (0 : Int32)), none]) dX5_moveFrom_15 (Nat.le_of_ble_eq_true rfl) rfl ?_
  exact Aw.weak (ls' := [some (vr 5 (some 0)), some (vi x1), some (vi x2), some (vi x3), some (vi (0 : Int32)), some (vr 11 (some 0)), some (vi (8 : Int32)), some (vi (0 : Int32)), none]) ⟨rfl, ⟨rfl, ⟨rfl, ⟨rfl, ⟨rfl, ⟨rfl, ⟨rfl, ⟨rfl, trivial⟩⟩⟩⟩⟩⟩⟩⟩ (aL_X5_moveFrom_17 FU x1 x2 x3 (0 : Int32) (8 : Int32) (0 : Int32) h)

abbrev mX5_takeAway : MD := (yX5_takeAway, cX5_takeAway, 4, (some .int), { frames := 2, cells := 0, slots := 0, locals := 49 }, none)
theorem kD_X5_takeAway : CodeIn mX5_takeAway 1 := ⟨kC_X5_takeAway, by decide +kernel⟩
def f_X5_takeAway (i1 : Nat) (h : Hp) : Option (Int32 × Hp) := ((f_X1_layAt i1 (-1 : Int32) (-1 : Int32) h).bind fun r1 => ((f_X5_moveFrom (gI h 1 i1 8) ((gI h 1 i1 9) + (1 : Int32)) (-1 : Int32) r1).bind fun r2 => (some (r2.1, r2.2))))
set_option maxRecDepth 100000 in
set_option maxHeartbeats 4000000 in
theorem a_X5_takeAway (i1 : Nat) (h : Hp) : CtA eI mX5_takeAway U0 U0 [vr 5 (some 0), vr 1 (some i1)] h (f_X5_takeAway i1 h) := by
  refine Ct.of (ls := [some (vr 5 (some 0)), some (vr 1 (some i1)), none, none]) (n := 2) (by decide +kernel) rfl rfl rfl ?_
  unfold f_X5_takeAway
  refine A_aload_n (pc := 0) (i := 1) dX5_takeAway_0 rfl rfl ?_
  refine A_getI (pc := 1) (k := 8) clX1 (Nat.le_of_ble_eq_true rfl) dX5_takeAway_1 kF_X5_42 rfl ?_
  refine A_istore_n (pc := 4) (i := 2) (ls2 := [some (vr 5 (some 0)), some (vr 1 (some i1)), some (vi (gI h 1 i1 8)), none]) dX5_takeAway_4 rfl (Nat.le_of_ble_eq_true rfl) rfl ?_
  refine A_aload_n (pc := 5) (i := 1) dX5_takeAway_5 rfl rfl ?_
  refine A_getI (pc := 6) (k := 9) clX1 (Nat.le_of_ble_eq_true rfl) dX5_takeAway_6 kF_X5_45 rfl ?_
  refine A_istore_n (pc := 9) (i := 3) (ls2 := [some (vr 5 (some 0)), some (vr 1 (some i1)), some (vi (gI h 1 i1 8)), some (vi (gI h 1 i1 9))]) dX5_takeAway_9 rfl (Nat.le_of_ble_eq_true rfl) rfl ?_
  refine A_aload_n (pc := 10) (i := 1) dX5_takeAway_10 rfl rfl ?_
  refine A_iconst (pc := 11) (v := (-1 : Int32)) dX5_takeAway_11 (by decide) ?_
  refine A_iconst (pc := 12) (v := (-1 : Int32)) dX5_takeAway_12 (by decide) ?_
  refine A_callV (pc := 13) (M' := mX1_layAt) (As := [vi (-1 : Int32), vi (-1 : Int32)]) (st := []) (0, 0) (fun r1 => []) (fun r1 => r1) (a_X1_layAt i1 (-1 : Int32) (-1 : Int32) h) kD_X1_layAt kM_X5_118 kI_X1_layAt kS_X1_layAt kN_X1 ⟨(Nat.le_of_ble_eq_true rfl), (Nat.le_of_ble_eq_true rfl)⟩ dX5_takeAway_13 rfl rfl rfl (by decide) rfl (Nat.le_of_ble_eq_true rfl) (Nat.le_of_ble_eq_true rfl) (Nat.le_of_ble_eq_true rfl) (fun _ => rfl) (fun _ => rfl) (fun r1 => ?_)
  refine A_aload_n (pc := 16) (i := 0) dX5_takeAway_16 rfl rfl ?_
  refine A_iload_n (pc := 17) (i := 2) dX5_takeAway_17 rfl rfl ?_
  refine A_iload_n (pc := 18) (i := 3) dX5_takeAway_18 rfl rfl ?_
  refine A_iconst (pc := 19) (v := (1 : Int32)) dX5_takeAway_19 (by decide) ?_
  refine A_iadd (pc := 20) dX5_takeAway_20 ?_
  refine A_iconst (pc := 21) (v := (-1 : Int32)) dX5_takeAway_21 (by decide) ?_
  refine A_callV (pc := 22) (M' := mX5_moveFrom) (As := [vi (gI h 1 i1 8), vi ((gI h 1 i1 9) + (1 : Int32)), vi (-1 : Int32)]) (st := []) (0, 0) (fun r2 => [vi r2.1]) (fun r2 => r2.2) (a_X5_moveFrom (gI h 1 i1 8) ((gI h 1 i1 9) + (1 : Int32)) (-1 : Int32) r1) kD_X5_moveFrom kM_X5_126 kI_X5_moveFrom kS_X5_moveFrom kN_X5 ⟨(Nat.le_of_ble_eq_true rfl), (Nat.le_of_ble_eq_true rfl)⟩ dX5_takeAway_22 rfl rfl rfl (by decide) rfl (Nat.le_of_ble_eq_true rfl) (Nat.le_of_ble_eq_true rfl) (Nat.le_of_ble_eq_true rfl) (fun _ => rfl) (fun _ => rfl) (fun r2 => ?_)
  exact A_retI rfl dX5_takeAway_25

abbrev mX2_sendOff : MD := (yX2_sendOff, cX2_sendOff, 5, (some .int), { frames := 3, cells := 0, slots := 0, locals := 76 }, none)
theorem kD_X2_sendOff : CodeIn mX2_sendOff 1 := ⟨kC_X2_sendOff, by decide +kernel⟩
def fL_X2_sendOff_4 : Nat → Int32 → Int32 → Hp → Option (Int32 × Hp)
  | 0, _, _, _ => none
  | n + 1, x2, x3, h => (if (8 : Int32) ≤ x3 then (some (x2, h)) else ((f_X2_nextToLeave h).bind fun r1 => (match r1 with | none => (some (x2, h)) | some k2 => ((f_X5_takeAway k2 h).bind fun r3 => ((fL_X2_sendOff_4 n) (x2 + 1) (x3 + 1) r3.2)))))
set_option maxRecDepth 100000 in
set_option maxHeartbeats 4000000 in
theorem aL_X2_sendOff_4 : ∀ (n : Nat) (x2 : Int32) (x3 : Int32) (h : Hp), Aw eI U0 mX2_sendOff (0, 0) U0 4 [some (vr 2 (some 0)), some (vr 5 (some 0)), some (vi x2), some (vi x3), none] [] h (fL_X2_sendOff_4 n x2 x3 h) := by
  intro n
  induction n with
  | zero =>
    intro x2 x3 h
    exact Aw.none
  | succ n ih =>
    intro x2 x3 h
    show Aw _ _ _ _ _ _ _ _ _ (fL_X2_sendOff_4 (n + 1) x2 x3 h)
    unfold fL_X2_sendOff_4
    refine A_iload_n (pc := 4) (i := 3) dX2_sendOff_4 rfl rfl ?_
    refine A_bipush (pc := 5) (v := (8 : Int32)) dX2_sendOff_5 (by decide) ?_
    refine A_icmp_ge (pc := 7) (tgt := 41) dX2_sendOff_7 (by decide) ?_ ?_
    · refine A_iload_n (pc := 41) (i := 2) dX2_sendOff_41 rfl rfl ?_
      exact A_retI rfl dX2_sendOff_42
    · refine A_aload_n (pc := 10) (i := 0) dX2_sendOff_10 rfl rfl ?_
      refine A_aload_n (pc := 11) (i := 1) dX2_sendOff_11 rfl rfl ?_
      refine A_callV (pc := 12) (M' := mX2_nextToLeave) (As := [vr 5 (some 0)]) (st := []) (0, 0) (fun r1 => [vr 1 r1]) (fun _ => h) (a_X2_nextToLeave h) kD_X2_nextToLeave kM_X2_38 kI_X2_nextToLeave kS_X2_nextToLeave kN_X2 ⟨(Nat.le_of_ble_eq_true rfl), (Nat.le_of_ble_eq_true rfl)⟩ dX2_sendOff_12 rfl rfl rfl (by decide) rfl (Nat.le_of_ble_eq_true rfl) (Nat.le_of_ble_eq_true rfl) (Nat.le_of_ble_eq_true rfl) (fun _ => rfl) (fun _ => rfl) (fun r1 => ?_)
      refine A_astore (pc := 15) (i := 4) (ls2 := [some (vr 2 (some 0)), some (vr 5 (some 0)), some (vi x2), some (vi x3), some (vr 1 r1)]) dX2_sendOff_15 (Nat.le_of_ble_eq_true rfl) rfl ?_
      refine A_aload (pc := 17) (i := 4) dX2_sendOff_17 rfl ?_
      refine A_ifnonnull (pc := 19) (tgt := 25) dX2_sendOff_19 (by decide) (fun hz => ?_) (fun k2 hz => ?_)
      · subst hz
        try dsimp only
        refine A_goto (pc := 22) (tgt := 41) dX2_sendOff_22 (by decide) ?_
        refine A_iload_n (pc := 41) (i := 2) dX2_sendOff_41 rfl rfl ?_
        exact A_retI rfl dX2_sendOff_42
      · subst hz
        try dsimp only
        refine A_aload_n (pc := 25) (i := 1) dX2_sendOff_25 rfl rfl ?_
        refine A_aload (pc := 26) (i := 4) dX2_sendOff_26 rfl ?_
        refine A_callV (pc := 28) (M' := mX5_takeAway) (As := [vr 1 (some k2)]) (st := []) (0, 0) (fun r3 => [vi r3.1]) (fun r3 => r3.2) (a_X5_takeAway k2 h) kD_X5_takeAway kM_X2_42 kI_X5_takeAway kS_X5_takeAway kN_X5 ⟨(Nat.le_of_ble_eq_true rfl), (Nat.le_of_ble_eq_true rfl)⟩ dX2_sendOff_28 rfl rfl rfl (by decide) rfl (Nat.le_of_ble_eq_true rfl) (Nat.le_of_ble_eq_true rfl) (Nat.le_of_ble_eq_true rfl) (fun _ => rfl) (fun _ => rfl) (fun r3 => ?_)
        refine A_pop (pc := 31) dX2_sendOff_31 (fun _ => rfl) ?_
        refine A_iinc (pc := 32) (i := 2) (v := (x2 + 1)) (ls2 := [some (vr 2 (some 0)), some (vr 5 (some 0)), some (vi (x2 + 1)), some (vi x3), some (vr 1 (some k2))]) dX2_sendOff_32 rfl rfl (Nat.le_of_ble_eq_true rfl) rfl ?_
        refine A_iinc (pc := 35) (i := 3) (v := (x3 + 1)) (ls2 := [some (vr 2 (some 0)), some (vr 5 (some 0)), some (vi (x2 + 1)), some (vi (x3 + 1)), some (vr 1 (some k2))]) dX2_sendOff_35 rfl rfl (Nat.le_of_ble_eq_true rfl) rfl ?_
        refine A_goto (pc := 38) (tgt := 4) dX2_sendOff_38 (by decide) ?_
        exact Aw.weak (ls' := [some (vr 2 (some 0)), some (vr 5 (some 0)), some (vi (x2 + 1)), some (vi (x3 + 1)), none]) ⟨rfl, ⟨rfl, ⟨rfl, ⟨rfl, trivial⟩⟩⟩⟩ (ih (x2 + 1) (x3 + 1) r3.2)
def f_X2_sendOff (h : Hp) : Option (Int32 × Hp) := (fL_X2_sendOff_4 FU (0 : Int32) (0 : Int32) h)
set_option maxRecDepth 100000 in
set_option maxHeartbeats 4000000 in
theorem a_X2_sendOff (h : Hp) : CtA eI mX2_sendOff U0 U0 [vr 2 (some 0), vr 5 (some 0)] h (f_X2_sendOff h) := by
  refine Ct.of (ls := [some (vr 2 (some 0)), some (vr 5 (some 0)), none, none, none]) (n := 3) (by decide +kernel) rfl rfl rfl ?_
  unfold f_X2_sendOff
  refine A_iconst (pc := 0) (v := (0 : Int32)) dX2_sendOff_0 (by decide) ?_
  refine A_istore_n (pc := 1) (i := 2) (ls2 := [some (vr 2 (some 0)), some (vr 5 (some 0)), some (vi (0 : Int32)), none, none]) dX2_sendOff_1 rfl (Nat.le_of_ble_eq_true rfl) rfl ?_
  refine A_iconst (pc := 2) (v := (0 : Int32)) dX2_sendOff_2 (by decide) ?_
  refine A_istore_n (pc := 3) (i := 3) (ls2 := [some (vr 2 (some 0)), some (vr 5 (some 0)), some (vi (0 : Int32)), some (vi (0 : Int32)), none]) dX2_sendOff_3 rfl (Nat.le_of_ble_eq_true rfl) rfl ?_
  exact Aw.weak (ls' := [some (vr 2 (some 0)), some (vr 5 (some 0)), some (vi (0 : Int32)), some (vi (0 : Int32)), none]) ⟨rfl, ⟨rfl, ⟨rfl, ⟨rfl, trivial⟩⟩⟩⟩ (aL_X2_sendOff_4 FU (0 : Int32) (0 : Int32) h)

abbrev mX2_passHour : MD := (yX2_passHour, cX2_passHour, 7, (some .int), { frames := 4, cells := 0, slots := 0, locals := 100 }, none)
theorem kD_X2_passHour : CodeIn mX2_passHour 1 := ⟨kC_X2_passHour, by decide +kernel⟩
def fL_X2_passHour_36 : Nat → Int32 → Int32 → Int32 → Hp → Option (Int32 × Hp)
  | 0, _, _, _, _ => none
  | n + 1, x2, x4, x5, h => (if x4 ≤ x5 then (if (gI h 2 0 0) < (23 : Int32) then (some (x2, (wI h 2 0 0 ((gI h 2 0 0) + (1 : Int32))))) else (some (x2, (wI h 2 0 0 (0 : Int32))))) else (if 0 ≤ x5 ∧ x5 < 8 then (match (gP h 11 0 (Int32.toNatClampNeg x5)) with | none => ((fL_X2_passHour_36 n) x2 x4 (x5 + 1) h) | some k2 => ((f_X2_wantsToLeave k2 h).bind fun r3 => (if r3 = true then ((fL_X2_passHour_36 n) x2 x4 (x5 + 1) (wI h 1 k2 10 ((gI h 1 k2 10) + (1 : Int32)))) else ((fL_X2_passHour_36 n) x2 x4 (x5 + 1) h)))) else none))
set_option maxRecDepth 100000 in
set_option maxHeartbeats 4000000 in
theorem aL_X2_passHour_36 : ∀ (n : Nat) (x2 : Int32) (x4 : Int32) (x5 : Int32) (h : Hp), Aw eI U0 mX2_passHour (0, 0) U0 36 [some (vr 2 (some 0)), none, some (vi x2), some (vr 11 (some 0)), some (vi x4), some (vi x5), none] [] h (fL_X2_passHour_36 n x2 x4 x5 h) := by
  intro n
  induction n with
  | zero =>
    intro x2 x4 x5 h
    exact Aw.none
  | succ n ih =>
    intro x2 x4 x5 h
    show Aw _ _ _ _ _ _ _ _ _ (fL_X2_passHour_36 (n + 1) x2 x4 x5 h)
    unfold fL_X2_passHour_36
    refine A_iload (pc := 36) (i := 5) dX2_passHour_36 rfl ?_
    refine A_iload (pc := 38) (i := 4) dX2_passHour_38 rfl ?_
    refine A_icmp_ge (pc := 40) (tgt := 80) dX2_passHour_40 (by decide) ?_ ?_
    · refine A_aload_n (pc := 80) (i := 0) dX2_passHour_80 rfl rfl ?_
      refine A_aload_n (pc := 81) (i := 0) dX2_passHour_81 rfl rfl ?_
      refine A_getI (pc := 82) (k := 0) clX2 (Nat.le_of_ble_eq_true rfl) dX2_passHour_82 kF_X2_16 rfl ?_
      refine A_bipush (pc := 85) (v := (23 : Int32)) dX2_passHour_85 (by decide) ?_
      refine A_icmp_lt (pc := 87) (tgt := 94) dX2_passHour_87 (by decide) ?_ ?_
      · refine A_aload_n (pc := 94) (i := 0) dX2_passHour_94 rfl rfl ?_
        refine A_getI (pc := 95) (k := 0) clX2 (Nat.le_of_ble_eq_true rfl) dX2_passHour_95 kF_X2_16 rfl ?_
        refine A_iconst (pc := 98) (v := (1 : Int32)) dX2_passHour_98 (by decide) ?_
        refine A_iadd (pc := 99) dX2_passHour_99 ?_
        refine A_putI (pc := 100) (k := 0) clX2 (Nat.le_of_ble_eq_true rfl) dX2_passHour_100 kF_X2_16 rfl (Or.inl rfl) ⟨rfl, rfl⟩ ?_
        refine A_iload_n (pc := 103) (i := 2) dX2_passHour_103 rfl rfl ?_
        exact A_retI rfl dX2_passHour_104
      · refine A_iconst (pc := 90) (v := (0 : Int32)) dX2_passHour_90 (by decide) ?_
        refine A_goto (pc := 91) (tgt := 100) dX2_passHour_91 (by decide) ?_
        refine A_putI (pc := 100) (k := 0) clX2 (Nat.le_of_ble_eq_true rfl) dX2_passHour_100 kF_X2_16 rfl (Or.inl rfl) ⟨rfl, rfl⟩ ?_
        refine A_iload_n (pc := 103) (i := 2) dX2_passHour_103 rfl rfl ?_
        exact A_retI rfl dX2_passHour_104
    · refine A_aload_n (pc := 43) (i := 3) dX2_passHour_43 rfl rfl ?_
      refine A_iload (pc := 44) (i := 5) dX2_passHour_44 rfl ?_
      refine A_aaload (pc := 46) (n := 8) (te := 1) (C := RX1) (by decide) (by decide) (by decide) (fun _ => rfl) rfl dX2_passHour_46 (by decide) ?_
      generalize (gP h 11 0 (Int32.toNatClampNeg x5)) = q1
      refine A_astore (pc := 47) (i := 6) (ls2 := [some (vr 2 (some 0)), none, some (vi x2), some (vr 11 (some 0)), some (vi x4), some (vi x5), some (vr 1 q1)]) dX2_passHour_47 (Nat.le_of_ble_eq_true rfl) rfl ?_
      refine A_aload (pc := 49) (i := 6) dX2_passHour_49 rfl ?_
      refine A_ifnull (pc := 51) (tgt := 74) dX2_passHour_51 (by decide) (fun hz => ?_) (fun k2 hz => ?_)
      · subst hz
        try dsimp only
        refine A_iinc (pc := 74) (i := 5) (v := (x5 + 1)) (ls2 := [some (vr 2 (some 0)), none, some (vi x2), some (vr 11 (some 0)), some (vi x4), some (vi (x5 + 1)), some (vr 1 none)]) dX2_passHour_74 rfl rfl (Nat.le_of_ble_eq_true rfl) rfl ?_
        refine A_goto (pc := 77) (tgt := 36) dX2_passHour_77 (by decide) ?_
        exact Aw.weak (ls' := [some (vr 2 (some 0)), none, some (vi x2), some (vr 11 (some 0)), some (vi x4), some (vi (x5 + 1)), none]) ⟨rfl, ⟨rfl, ⟨rfl, ⟨rfl, ⟨rfl, trivial⟩⟩⟩⟩⟩ (ih x2 x4 (x5 + 1) h)
      · subst hz
        try dsimp only
        refine A_aload_n (pc := 54) (i := 0) dX2_passHour_54 rfl rfl ?_
        refine A_aload (pc := 55) (i := 6) dX2_passHour_55 rfl ?_
        refine A_callV (pc := 57) (M' := mX2_wantsToLeave) (As := [vr 1 (some k2)]) (st := []) (0, 0) (fun r3 => [vi (bi r3)]) (fun _ => h) (a_X2_wantsToLeave k2 h) kD_X2_wantsToLeave kM_X2_29 kI_X2_wantsToLeave kS_X2_wantsToLeave kN_X2 ⟨(Nat.le_of_ble_eq_true rfl), (Nat.le_of_ble_eq_true rfl)⟩ dX2_passHour_57 rfl rfl rfl (by decide) rfl (Nat.le_of_ble_eq_true rfl) (Nat.le_of_ble_eq_true rfl) (Nat.le_of_ble_eq_true rfl) (fun _ => rfl) (fun _ => rfl) (fun r3 => ?_)
        refine A_ifb_eq (pc := 60) (tgt := 74) dX2_passHour_60 (by decide) ?_ ?_
        · refine A_iinc (pc := 74) (i := 5) (v := (x5 + 1)) (ls2 := [some (vr 2 (some 0)), none, some (vi x2), some (vr 11 (some 0)), some (vi x4), some (vi (x5 + 1)), some (vr 1 (some k2))]) dX2_passHour_74 rfl rfl (Nat.le_of_ble_eq_true rfl) rfl ?_
          refine A_goto (pc := 77) (tgt := 36) dX2_passHour_77 (by decide) ?_
          exact Aw.weak (ls' := [some (vr 2 (some 0)), none, some (vi x2), some (vr 11 (some 0)), some (vi x4), some (vi (x5 + 1)), none]) ⟨rfl, ⟨rfl, ⟨rfl, ⟨rfl, ⟨rfl, trivial⟩⟩⟩⟩⟩ (ih x2 x4 (x5 + 1) h)
        · refine A_aload (pc := 63) (i := 6) dX2_passHour_63 rfl ?_
          refine A_dup (pc := 65) dX2_passHour_65 (fun _ => cv_catr _ _) ?_
          refine A_getI (pc := 66) (k := 10) clX1 (Nat.le_of_ble_eq_true rfl) dX2_passHour_66 kF_X2_33 rfl ?_
          refine A_iconst (pc := 69) (v := (1 : Int32)) dX2_passHour_69 (by decide) ?_
          refine A_iadd (pc := 70) dX2_passHour_70 ?_
          refine A_putI (pc := 71) (k := 10) clX1 (Nat.le_of_ble_eq_true rfl) dX2_passHour_71 kF_X2_33 rfl (Or.inl rfl) ⟨rfl, rfl⟩ ?_
          refine A_iinc (pc := 74) (i := 5) (v := (x5 + 1)) (ls2 := [some (vr 2 (some 0)), none, some (vi x2), some (vr 11 (some 0)), some (vi x4), some (vi (x5 + 1)), some (vr 1 (some k2))]) dX2_passHour_74 rfl rfl (Nat.le_of_ble_eq_true rfl) rfl ?_
          refine A_goto (pc := 77) (tgt := 36) dX2_passHour_77 (by decide) ?_
          exact Aw.weak (ls' := [some (vr 2 (some 0)), none, some (vi x2), some (vr 11 (some 0)), some (vi x4), some (vi (x5 + 1)), none]) ⟨rfl, ⟨rfl, ⟨rfl, ⟨rfl, ⟨rfl, trivial⟩⟩⟩⟩⟩ (ih x2 x4 (x5 + 1) (wI h 1 k2 10 ((gI h 1 k2 10) + (1 : Int32))))
def fJ_X2_passHour_23 (xs0 : Int32) (h : Hp) : Option (Int32 × Hp) := (fL_X2_passHour_36 FU xs0 (8 : Int32) (0 : Int32) h)
set_option maxRecDepth 100000 in
set_option maxHeartbeats 4000000 in
theorem aJ_X2_passHour_23 (xs0 : Int32) (h : Hp) : Aw eI U0 mX2_passHour (0, 0) U0 23 [some (vr 2 (some 0)), some (vr 5 (some 0)), none, none, none, none, none] [vi xs0] h (fJ_X2_passHour_23 xs0 h) := by
  unfold fJ_X2_passHour_23
  refine A_istore_n (pc := 23) (i := 2) (ls2 := [some (vr 2 (some 0)), some (vr 5 (some 0)), some (vi xs0), none, none, none, none]) dX2_passHour_23 rfl (Nat.le_of_ble_eq_true rfl) rfl ?_
  refine A_aload_n (pc := 24) (i := 1) dX2_passHour_24 rfl rfl ?_
  refine A_getS (pc := 25) (k := 1) (tp := 11) clX5 (Nat.le_of_ble_eq_true rfl) dX2_passHour_25 kF_X2_23 rfl rfl rfl ?_
  refine A_astore_n (pc := 28) (i := 3) (ls2 := [some (vr 2 (some 0)), some (vr 5 (some 0)), some (vi xs0), some (vr 11 (some 0)), none, none, none]) dX2_passHour_28 rfl (Nat.le_of_ble_eq_true rfl) rfl ?_
  refine A_aload_n (pc := 29) (i := 3) dX2_passHour_29 rfl rfl ?_
  refine A_alen (pc := 30) (v := (8 : Int32)) (by decide) (by decide) (by decide) rfl dX2_passHour_30 ?_
  refine A_istore (pc := 31) (i := 4) (ls2 := [some (vr 2 (some 0)), some (vr 5 (some 0)), some (vi xs0), some (vr 11 (some 0)), some (vi (8 : Int32)), none, none]) dX2_passHour_31 (Nat.le_of_ble_eq_true rfl) rfl ?_
  refine A_iconst (pc := 33) (v := (0 : Int32)) dX2_passHour_33 (by decide) ?_
  refine A_istore (pc := 34) (i := 5) (ls2 := [some (vr 2 (some 0)), some (vr 5 (some 0)), some (vi xs0), some (vr 11 (some 0)), some (vi (8 : Int32)), some (vi (0 : Int32)), none]) dX2_passHour_34 (Nat.le_of_ble_eq_true rfl) rfl ?_
  exact Aw.weak (ls' := [some (vr 2 (some 0)), none, some (vi xs0), some (vr 11 (some 0)), some (vi (8 : Int32)), some (vi (0 : Int32)), none]) ⟨rfl, ⟨rfl, ⟨rfl, ⟨rfl, ⟨rfl, trivial⟩⟩⟩⟩⟩ (aL_X2_passHour_36 FU xs0 (8 : Int32) (0 : Int32) h)
def f_X2_passHour (h : Hp) : Option (Int32 × Hp) := (if (((gI h 2 0 1) >>> ((gI h 2 0 0) &&& 31)) &&& (1 : Int32)) = 0 then (fJ_X2_passHour_23 (0 : Int32) h) else ((f_X2_sendOff h).bind fun r4 => (fJ_X2_passHour_23 r4.1 r4.2)))
set_option maxRecDepth 100000 in
set_option maxHeartbeats 4000000 in
theorem a_X2_passHour (h : Hp) : CtA eI mX2_passHour U0 U0 [vr 2 (some 0), vr 5 (some 0)] h (f_X2_passHour h) := by
  refine Ct.of (ls := [some (vr 2 (some 0)), some (vr 5 (some 0)), none, none, none, none, none]) (n := 5) (by decide +kernel) rfl rfl rfl ?_
  unfold f_X2_passHour
  refine A_aload_n (pc := 0) (i := 0) dX2_passHour_0 rfl rfl ?_
  refine A_getI (pc := 1) (k := 1) clX2 (Nat.le_of_ble_eq_true rfl) dX2_passHour_1 kF_X2_10 rfl ?_
  refine A_aload_n (pc := 4) (i := 0) dX2_passHour_4 rfl rfl ?_
  refine A_getI (pc := 5) (k := 0) clX2 (Nat.le_of_ble_eq_true rfl) dX2_passHour_5 kF_X2_16 rfl ?_
  refine A_ishr (pc := 8) dX2_passHour_8 ?_
  refine A_iconst (pc := 9) (v := (1 : Int32)) dX2_passHour_9 (by decide) ?_
  refine A_iand (pc := 10) dX2_passHour_10 ?_
  refine A_if_eq (pc := 11) (tgt := 22) dX2_passHour_11 (by decide) ?_ ?_
  · refine A_iconst (pc := 22) (v := (0 : Int32)) dX2_passHour_22 (by decide) ?_
    exact Aw.weak (ls' := [some (vr 2 (some 0)), some (vr 5 (some 0)), none, none, none, none, none]) ⟨rfl, ⟨rfl, trivial⟩⟩ (aJ_X2_passHour_23 (0 : Int32) h)
  · refine A_aload_n (pc := 14) (i := 0) dX2_passHour_14 rfl rfl ?_
    refine A_aload_n (pc := 15) (i := 1) dX2_passHour_15 rfl rfl ?_
    refine A_callV (pc := 16) (M' := mX2_sendOff) (As := [vr 5 (some 0)]) (st := []) (0, 0) (fun r4 => [vi r4.1]) (fun r4 => r4.2) (a_X2_sendOff h) kD_X2_sendOff kM_X2_19 kI_X2_sendOff kS_X2_sendOff kN_X2 ⟨(Nat.le_of_ble_eq_true rfl), (Nat.le_of_ble_eq_true rfl)⟩ dX2_passHour_16 rfl rfl rfl (by decide) rfl (Nat.le_of_ble_eq_true rfl) (Nat.le_of_ble_eq_true rfl) (Nat.le_of_ble_eq_true rfl) (fun _ => rfl) (fun _ => rfl) (fun r4 => ?_)
    refine A_goto (pc := 19) (tgt := 23) dX2_passHour_19 (by decide) ?_
    exact Aw.weak (ls' := [some (vr 2 (some 0)), some (vr 5 (some 0)), none, none, none, none, none]) ⟨rfl, ⟨rfl, trivial⟩⟩ (aJ_X2_passHour_23 r4.1 r4.2)

abbrev mX3_init : MD := (yX3_init, cX3_init, 1, none, { frames := 1, cells := 4, slots := 104, locals := 20 }, none)
theorem kD_X3_init : CodeIn mX3_init 0 := ⟨kC_X3_init, by decide +kernel⟩
def f_X3_init (h : Hp) : Option Hp := (if gN h 18 = 0 then (if gN (wN h 18) 19 = 0 then (if gN (wN (wN h 18) 19) 20 = 0 then (if gN (wN (wN (wN h 18) 19) 20) 21 = 0 then (some (wN (wN (wN (wN h 18) 19) 20) 21)) else none) else none) else none) else none)
set_option maxRecDepth 100000 in
set_option maxHeartbeats 4000000 in
theorem a_X3_init (U : US) (h : Hp) : CtA eV mX3_init U (uS (uS (uS (uS U 3 0 0) 3 0 1) 3 0 2) 3 0 3) [vr 3 (some 0)] h (f_X3_init h) := by
  refine Ct.of (ls := [some (vr 3 (some 0))]) (n := 0) (by decide +kernel) rfl rfl rfl ?_
  unfold f_X3_init
  refine A_aload_n (pc := 0) (i := 0) dX3_init_0 rfl rfl ?_
  refine A_objInit (pc := 1) dX3_init_1 kM_X3_3 kI_obj kC_obj (Nat.le_of_ble_eq_true rfl) (Nat.le_of_ble_eq_true rfl) ?_
  refine A_aload_n (pc := 4) (i := 0) dX3_init_4 rfl rfl ?_
  refine A_bipush (pc := 5) (v := (80 : Int32)) dX3_init_5 (by decide) ?_
  refine A_newI (pc := 7) (t := 18) (i := 0) (ty := .byte) (3, 24) (by decide) (by decide) dX3_init_7 rfl kA_byte rfl (by decide) (by decide) (by decide) (fun _ => rfl) (by decide) (by decide) rfl (Nat.le_of_ble_eq_true rfl) (Nat.le_of_ble_eq_true rfl) ?_
  refine A_putS (pc := 9) (k := 0) (tp := 18) clX3 (Nat.le_of_ble_eq_true rfl) dX3_init_9 kF_X3_11 rfl rfl (by decide) (Or.inr ⟨rfl, rfl⟩) (fun _ => ⟨rfl, rfl⟩) ?_
  refine A_aload_n (pc := 12) (i := 0) dX3_init_12 rfl rfl ?_
  refine A_bipush (pc := 13) (v := (8 : Int32)) dX3_init_13 (by decide) ?_
  refine A_newI (pc := 15) (t := 19) (i := 0) (ty := .int) (2, 16) (by decide) (by decide) dX3_init_15 rfl kA_int rfl (by decide) (by decide) (by decide) (fun _ => rfl) (by decide) (by decide) rfl (Nat.le_of_ble_eq_true rfl) (Nat.le_of_ble_eq_true rfl) ?_
  refine A_putS (pc := 17) (k := 1) (tp := 19) clX3 (Nat.le_of_ble_eq_true rfl) dX3_init_17 kF_X3_15 rfl rfl (by decide) (Or.inr ⟨rfl, rfl⟩) (fun _ => ⟨rfl, rfl⟩) ?_
  refine A_aload_n (pc := 20) (i := 0) dX3_init_20 rfl rfl ?_
  refine A_bipush (pc := 21) (v := (8 : Int32)) dX3_init_21 (by decide) ?_
  refine A_newI (pc := 23) (t := 20) (i := 0) (ty := .int) (1, 8) (by decide) (by decide) dX3_init_23 rfl kA_int rfl (by decide) (by decide) (by decide) (fun _ => rfl) (by decide) (by decide) rfl (Nat.le_of_ble_eq_true rfl) (Nat.le_of_ble_eq_true rfl) ?_
  refine A_putS (pc := 25) (k := 2) (tp := 20) clX3 (Nat.le_of_ble_eq_true rfl) dX3_init_25 kF_X3_19 rfl rfl (by decide) (Or.inr ⟨rfl, rfl⟩) (fun _ => ⟨rfl, rfl⟩) ?_
  refine A_aload_n (pc := 28) (i := 0) dX3_init_28 rfl rfl ?_
  refine A_bipush (pc := 29) (v := (8 : Int32)) dX3_init_29 (by decide) ?_
  refine A_newI (pc := 31) (t := 21) (i := 0) (ty := .int) (0, 0) (by decide) (by decide) dX3_init_31 rfl kA_int rfl (by decide) (by decide) (by decide) (fun _ => rfl) (by decide) (by decide) rfl (Nat.le_of_ble_eq_true rfl) (Nat.le_of_ble_eq_true rfl) ?_
  refine A_putS (pc := 33) (k := 3) (tp := 21) clX3 (Nat.le_of_ble_eq_true rfl) dX3_init_33 kF_X3_22 rfl rfl (by decide) (Or.inr ⟨rfl, rfl⟩) (fun _ => ⟨rfl, rfl⟩) ?_
  exact A_retV rfl dX3_init_36

abbrev mX7_isWithin : MD := (yX7_isWithin, cX7_isWithin, 3, (some .boolean), { frames := 0, cells := 0, slots := 0, locals := 0 }, none)
theorem kD_X7_isWithin : CodeIn mX7_isWithin 3 := ⟨kC_X7_isWithin, by decide +kernel⟩
def f_X7_isWithin (x0 : Int32) (x1 : Int32) (x2 : Int32) (h : Hp) : Option Bool := (if x0 < x1 then (some false) else (if x2 < x0 then (some false) else (some true)))
set_option maxRecDepth 100000 in
set_option maxHeartbeats 4000000 in
theorem a_X7_isWithin (x0 : Int32) (x1 : Int32) (x2 : Int32) (h : Hp) : CtA (eBr h) mX7_isWithin U0 U0 [vi x0, vi x1, vi x2] h (f_X7_isWithin x0 x1 x2 h) := by
  refine Ct.of (ls := [some (vi x0), some (vi x1), some (vi x2)]) (n := 0) (by decide +kernel) rfl rfl rfl ?_
  unfold f_X7_isWithin
  refine A_iload_n (pc := 0) (i := 0) dX7_isWithin_0 rfl rfl ?_
  refine A_iload_n (pc := 1) (i := 1) dX7_isWithin_1 rfl rfl ?_
  refine A_icmp_lt (pc := 2) (tgt := 14) dX7_isWithin_2 (by decide) ?_ ?_
  · refine A_iconst (pc := 14) (v := (0 : Int32)) dX7_isWithin_14 (by decide) ?_
    exact A_retBr rfl rfl dX7_isWithin_15
  · refine A_iload_n (pc := 5) (i := 0) dX7_isWithin_5 rfl rfl ?_
    refine A_iload_n (pc := 6) (i := 2) dX7_isWithin_6 rfl rfl ?_
    refine A_icmp_gt (pc := 7) (tgt := 14) dX7_isWithin_7 (by decide) ?_ ?_
    · refine A_iconst (pc := 14) (v := (0 : Int32)) dX7_isWithin_14 (by decide) ?_
      exact A_retBr rfl rfl dX7_isWithin_15
    · refine A_iconst (pc := 10) (v := (1 : Int32)) dX7_isWithin_10 (by decide) ?_
      refine A_goto (pc := 11) (tgt := 15) dX7_isWithin_11 (by decide) ?_
      exact A_retBr rfl rfl dX7_isWithin_15

abbrev mX3_takeBytes : MD := (yX3_takeBytes, cX3_takeBytes, 5, (some .int), { frames := 1, cells := 0, slots := 0, locals := 22 }, none)
theorem kD_X3_takeBytes : CodeIn mX3_takeBytes 2 := ⟨kC_X3_takeBytes, by decide +kernel⟩
def fL_X3_takeBytes_33 : Nat → Int64 → Int32 → Int32 → Hp → Option (Int32 × Hp)
  | 0, _, _, _, _ => none
  | n + 1, w1, x3, x4, h => (if x3 ≤ x4 then (some ((gI (wI h 3 0 4 ((gI h 3 0 4) + x3)) 3 0 4), (wI h 3 0 4 ((gI h 3 0 4) + x3)))) else (if 0 ≤ ((gI h 3 0 4) + x4) ∧ ((gI h 3 0 4) + x4) < 80 then ((fL_X3_takeBytes_33 n) w1 x3 (x4 + 1) (wI h 18 0 (Int32.toNatClampNeg ((gI h 3 0 4) + x4)) (vp_nar .byte (Int8.toInt32 (Int32.toInt8 (Int64.toInt32 (w1 >>> (Int32.toInt64 ((8 : Int32) * x4) &&& 63)))))))) else none))
set_option maxRecDepth 100000 in
set_option maxHeartbeats 4000000 in
theorem aL_X3_takeBytes_33 : ∀ (n : Nat) (w1 : Int64) (x3 : Int32) (x4 : Int32) (h : Hp), Aw eI U0 mX3_takeBytes (0, 0) U0 33 [some (vr 3 (some 0)), some (vl w1), none, some (vi x3), some (vi x4)] [] h (fL_X3_takeBytes_33 n w1 x3 x4 h) := by
  intro n
  induction n with
  | zero =>
    intro w1 x3 x4 h
    exact Aw.none
  | succ n ih =>
    intro w1 x3 x4 h
    show Aw _ _ _ _ _ _ _ _ _ (fL_X3_takeBytes_33 (n + 1) w1 x3 x4 h)
    unfold fL_X3_takeBytes_33
    refine A_iload (pc := 33) (i := 4) dX3_takeBytes_33 rfl ?_
    refine A_iload_n (pc := 35) (i := 3) dX3_takeBytes_35 rfl rfl ?_
    refine A_icmp_ge (pc := 36) (tgt := 66) dX3_takeBytes_36 (by decide) ?_ ?_
    · refine A_aload_n (pc := 66) (i := 0) dX3_takeBytes_66 rfl rfl ?_
      refine A_dup (pc := 67) dX3_takeBytes_67 (fun _ => cv_catr _ _) ?_
      refine A_getI (pc := 68) (k := 4) clX3 (Nat.le_of_ble_eq_true rfl) dX3_takeBytes_68 kF_X3_30 rfl ?_
      refine A_iload_n (pc := 71) (i := 3) dX3_takeBytes_71 rfl rfl ?_
      refine A_iadd (pc := 72) dX3_takeBytes_72 ?_
      refine A_putI (pc := 73) (k := 4) clX3 (Nat.le_of_ble_eq_true rfl) dX3_takeBytes_73 kF_X3_30 rfl (Or.inl rfl) ⟨rfl, rfl⟩ ?_
      refine A_aload_n (pc := 76) (i := 0) dX3_takeBytes_76 rfl rfl ?_
      refine A_getI (pc := 77) (k := 4) clX3 (Nat.le_of_ble_eq_true rfl) dX3_takeBytes_77 kF_X3_30 rfl ?_
      exact A_retI rfl dX3_takeBytes_80
    · refine A_aload_n (pc := 39) (i := 0) dX3_takeBytes_39 rfl rfl ?_
      refine A_getS (pc := 40) (k := 0) (tp := 18) clX3 (Nat.le_of_ble_eq_true rfl) dX3_takeBytes_40 kF_X3_11 rfl rfl rfl ?_
      refine A_aload_n (pc := 43) (i := 0) dX3_takeBytes_43 rfl rfl ?_
      refine A_getI (pc := 44) (k := 4) clX3 (Nat.le_of_ble_eq_true rfl) dX3_takeBytes_44 kF_X3_30 rfl ?_
      refine A_iload (pc := 47) (i := 4) dX3_takeBytes_47 rfl ?_
      refine A_iadd (pc := 49) dX3_takeBytes_49 ?_
      refine A_lload_n (pc := 50) (i := 1) dX3_takeBytes_50 rfl rfl ?_
      refine A_bipush (pc := 51) (v := (8 : Int32)) dX3_takeBytes_51 (by decide) ?_
      refine A_iload (pc := 53) (i := 4) dX3_takeBytes_53 rfl ?_
      refine A_imul (pc := 55) dX3_takeBytes_55 ?_
      refine A_lshr (pc := 56) dX3_takeBytes_56 ?_
      refine A_l2i (pc := 57) dX3_takeBytes_57 ?_
      refine A_i2b (pc := 58) dX3_takeBytes_58 ?_
      refine A_bastore (pc := 59) (n := 80) (by decide) (by decide) rfl dX3_takeBytes_59 (by decide) ?_
      refine A_iinc (pc := 60) (i := 4) (v := (x4 + 1)) (ls2 := [some (vr 3 (some 0)), some (vl w1), none, some (vi x3), some (vi (x4 + 1))]) dX3_takeBytes_60 rfl rfl (Nat.le_of_ble_eq_true rfl) rfl ?_
      refine A_goto (pc := 63) (tgt := 33) dX3_takeBytes_63 (by decide) ?_
      exact Aw.weak (ls' := [some (vr 3 (some 0)), some (vl w1), none, some (vi x3), some (vi (x4 + 1))]) ⟨rfl, ⟨rfl, ⟨rfl, ⟨rfl, trivial⟩⟩⟩⟩ (ih w1 x3 (x4 + 1) (wI h 18 0 (Int32.toNatClampNeg ((gI h 3 0 4) + x4)) (vp_nar .byte (Int8.toInt32 (Int32.toInt8 (Int64.toInt32 (w1 >>> (Int32.toInt64 ((8 : Int32) * x4) &&& 63))))))))
def f_X3_takeBytes (w1 : Int64) (x3 : Int32) (h : Hp) : Option (Int32 × Hp) := ((f_X7_isWithin x3 (1 : Int32) (8 : Int32) h).bind fun r1 => (if r1 = true then (if ((gI h 3 0 4) + x3) ≤ (80 : Int32) then (fL_X3_takeBytes_33 FU w1 x3 (0 : Int32) h) else (some ((-1000002 : Int32), h))) else (some ((-1000001 : Int32), h))))
set_option maxRecDepth 100000 in
set_option maxHeartbeats 4000000 in
theorem a_X3_takeBytes (w1 : Int64) (x3 : Int32) (h : Hp) : CtA eI mX3_takeBytes U0 U0 [vr 3 (some 0), vl w1, vi x3] h (f_X3_takeBytes w1 x3 h) := by
  refine Ct.of (ls := [some (vr 3 (some 0)), some (vl w1), none, some (vi x3), none]) (n := 1) (by decide +kernel) rfl rfl rfl ?_
  unfold f_X3_takeBytes
  refine A_iload_n (pc := 0) (i := 3) dX3_takeBytes_0 rfl rfl ?_
  refine A_iconst (pc := 1) (v := (1 : Int32)) dX3_takeBytes_1 (by decide) ?_
  refine A_bipush (pc := 2) (v := (8 : Int32)) dX3_takeBytes_2 (by decide) ?_
  refine A_callN (pc := 4) (M' := mX7_isWithin) (host := RX7) (As := [vi x3, vi (1 : Int32), vi (8 : Int32)]) (st := []) (0, 0) (fun r1 => [vi (bi r1)]) (fun _ => h) (a_X7_isWithin x3 (1 : Int32) (8 : Int32) h) kD_X7_isWithin kQ_X3_25 kT_X7_isWithin kN_X7 ⟨(Nat.le_of_ble_eq_true rfl), (Nat.le_of_ble_eq_true rfl)⟩ dX3_takeBytes_4 rfl rfl (Nat.le_of_ble_eq_true rfl) (Nat.le_of_ble_eq_true rfl) (Nat.le_of_ble_eq_true rfl) (fun _ => rfl) (fun _ => rfl) (fun r1 => ?_)
  refine A_ifb_ne (pc := 7) (tgt := 13) dX3_takeBytes_7 (by decide) ?_ ?_
  · refine A_aload_n (pc := 13) (i := 0) dX3_takeBytes_13 rfl rfl ?_
    refine A_getI (pc := 14) (k := 4) clX3 (Nat.le_of_ble_eq_true rfl) dX3_takeBytes_14 kF_X3_30 rfl ?_
    refine A_iload_n (pc := 17) (i := 3) dX3_takeBytes_17 rfl rfl ?_
    refine A_iadd (pc := 18) dX3_takeBytes_18 ?_
    refine A_aload_n (pc := 19) (i := 0) dX3_takeBytes_19 rfl rfl ?_
    refine A_getS (pc := 20) (k := 0) (tp := 18) clX3 (Nat.le_of_ble_eq_true rfl) dX3_takeBytes_20 kF_X3_11 rfl rfl rfl ?_
    refine A_alen (pc := 23) (v := (80 : Int32)) (by decide) (by decide) (by decide) rfl dX3_takeBytes_23 ?_
    refine A_icmp_le (pc := 24) (tgt := 30) dX3_takeBytes_24 (by decide) ?_ ?_
    · refine A_iconst (pc := 30) (v := (0 : Int32)) dX3_takeBytes_30 (by decide) ?_
      refine A_istore (pc := 31) (i := 4) (ls2 := [some (vr 3 (some 0)), some (vl w1), none, some (vi x3), some (vi (0 : Int32))]) dX3_takeBytes_31 (Nat.le_of_ble_eq_true rfl) rfl ?_
      exact Aw.weak (ls' := [some (vr 3 (some 0)), some (vl w1), none, some (vi x3), some (vi (0 : Int32))]) ⟨rfl, ⟨rfl, ⟨rfl, ⟨rfl, trivial⟩⟩⟩⟩ (aL_X3_takeBytes_33 FU w1 x3 (0 : Int32) h)
    · refine A_ldc (pc := 27) (v := (-1000002 : Int32)) dX3_takeBytes_27 kK_X3_34 ?_
      exact A_retI rfl dX3_takeBytes_29
  · refine A_ldc (pc := 10) (v := (-1000001 : Int32)) dX3_takeBytes_10 kK_X3_29 ?_
    exact A_retI rfl dX3_takeBytes_12

abbrev mX3_kindOf : MD := (yX3_kindOf, cX3_kindOf, 1, (some .int), { frames := 0, cells := 0, slots := 0, locals := 0 }, none)
theorem kD_X3_kindOf : CodeIn mX3_kindOf 1 := ⟨kC_X3_kindOf, by decide +kernel⟩
def f_X3_kindOf (x0 : Int32) (h : Hp) : Option Int32 := (lif x0 [((98 : Int32), (some (0 : Int32))), ((99 : Int32), (some (1 : Int32))), ((108 : Int32), (some (2 : Int32))), ((114 : Int32), (some (3 : Int32)))] (some (-1 : Int32)))
set_option maxRecDepth 100000 in
set_option maxHeartbeats 4000000 in
theorem a_X3_kindOf (x0 : Int32) (h : Hp) : CtA (eIr h) mX3_kindOf U0 U0 [vi x0] h (f_X3_kindOf x0 h) := by
  refine Ct.of (ls := [some (vi x0)]) (n := 0) (by decide +kernel) rfl rfl rfl ?_
  unfold f_X3_kindOf
  refine A_iload_n (pc := 0) (i := 0) dX3_kindOf_0 rfl rfl ?_
  refine A_lookup (pc := 1) (tgt := 52) dX3_kindOf_1 (by decide) (by decide) ?_ (LwL_c 44 (by decide) (by decide) ?_ (LwL_c 46 (by decide) (by decide) ?_ (LwL_c 48 (by decide) (by decide) ?_ (LwL_c 50 (by decide) (by decide) ?_ LwL_n))))
  · refine A_iconst (pc := 52) (v := (-1 : Int32)) dX3_kindOf_52 (by decide) ?_
    exact A_retIr rfl dX3_kindOf_53
  · refine A_iconst (pc := 44) (v := (0 : Int32)) dX3_kindOf_44 (by decide) ?_
    exact A_retIr rfl dX3_kindOf_45
  · refine A_iconst (pc := 46) (v := (1 : Int32)) dX3_kindOf_46 (by decide) ?_
    exact A_retIr rfl dX3_kindOf_47
  · refine A_iconst (pc := 48) (v := (2 : Int32)) dX3_kindOf_48 (by decide) ?_
    exact A_retIr rfl dX3_kindOf_49
  · refine A_iconst (pc := 50) (v := (3 : Int32)) dX3_kindOf_50 (by decide) ?_
    exact A_retIr rfl dX3_kindOf_51

abbrev mX3_canStand : MD := (yX3_canStand, cX3_canStand, 2, (some .boolean), { frames := 1, cells := 0, slots := 0, locals := 22 }, none)
theorem kD_X3_canStand : CodeIn mX3_canStand 2 := ⟨kC_X3_canStand, by decide +kernel⟩
def f_X3_canStand (x0 : Int32) (x1 : Int32) (h : Hp) : Option Bool := (lif (x1 - x1 / (7 : Int32) * (7 : Int32)) [((0 : Int32), ((f_X3_kindOf x0 h).bind fun r2 => (if r2 < 0 then (some false) else (if (56 : Int32) ≤ x1 then (some false) else (some true))))), ((3 : Int32), (if x0 = (58 : Int32) then (some true) else (some false))), ((6 : Int32), (if x0 = (59 : Int32) then (some true) else (some false)))] ((f_X7_isWithin x0 (48 : Int32) (57 : Int32) h).bind fun r1 => (some r1)))
set_option maxRecDepth 100000 in
set_option maxHeartbeats 4000000 in
theorem a_X3_canStand (x0 : Int32) (x1 : Int32) (h : Hp) : CtA (eBr h) mX3_canStand U0 U0 [vi x0, vi x1] h (f_X3_canStand x0 x1 h) := by
  refine Ct.of (ls := [some (vi x0), some (vi x1)]) (n := 0) (by decide +kernel) rfl rfl rfl ?_
  unfold f_X3_canStand
  refine A_iload_n (pc := 0) (i := 1) dX3_canStand_0 rfl rfl ?_
  refine A_bipush (pc := 1) (v := (7 : Int32)) dX3_canStand_1 (by decide) ?_
  refine A_irem (pc := 3) dX3_canStand_3 (by decide) ?_
  refine A_lookup (pc := 4) (tgt := 83) dX3_canStand_4 (by decide) (by decide) ?_ (LwL_c 40 (by decide) (by decide) ?_ (LwL_c 59 (by decide) (by decide) ?_ (LwL_c 71 (by decide) (by decide) ?_ LwL_n)))
  · refine A_iload_n (pc := 83) (i := 0) dX3_canStand_83 rfl rfl ?_
    refine A_bipush (pc := 84) (v := (48 : Int32)) dX3_canStand_84 (by decide) ?_
    refine A_bipush (pc := 86) (v := (57 : Int32)) dX3_canStand_86 (by decide) ?_
    refine A_callN (pc := 88) (M' := mX7_isWithin) (host := RX7) (As := [vi x0, vi (48 : Int32), vi (57 : Int32)]) (st := []) (0, 0) (fun r1 => [vi (bi r1)]) (fun _ => h) (a_X7_isWithin x0 (48 : Int32) (57 : Int32) h) kD_X7_isWithin kQ_X3_25 kT_X7_isWithin kN_X7 ⟨(Nat.le_of_ble_eq_true rfl), (Nat.le_of_ble_eq_true rfl)⟩ dX3_canStand_88 rfl rfl (Nat.le_of_ble_eq_true rfl) (Nat.le_of_ble_eq_true rfl) (Nat.le_of_ble_eq_true rfl) (fun _ => rfl) (fun _ => rfl) (fun r1 => ?_)
    exact A_retBr rfl rfl dX3_canStand_91
  · refine A_iload_n (pc := 40) (i := 0) dX3_canStand_40 rfl rfl ?_
    refine A_callS (pc := 41) (M' := mX3_kindOf) (As := [vi x0]) (st := []) (0, 0) (fun r2 => [vi r2]) (fun _ => h) (a_X3_kindOf x0 h) kD_X3_kindOf kM_X3_43 kT_X3_kindOf kN_X3 ⟨(Nat.le_of_ble_eq_true rfl), (Nat.le_of_ble_eq_true rfl)⟩ dX3_canStand_41 rfl rfl (Nat.le_of_ble_eq_true rfl) (Nat.le_of_ble_eq_true rfl) (Nat.le_of_ble_eq_true rfl) (fun _ => rfl) (fun _ => rfl) (fun r2 => ?_)
    refine A_if_lt (pc := 44) (tgt := 57) dX3_canStand_44 (by decide) ?_ ?_
    · refine A_iconst (pc := 57) (v := (0 : Int32)) dX3_canStand_57 (by decide) ?_
      exact A_retBr rfl rfl dX3_canStand_58
    · refine A_iload_n (pc := 47) (i := 1) dX3_canStand_47 rfl rfl ?_
      refine A_bipush (pc := 48) (v := (56 : Int32)) dX3_canStand_48 (by decide) ?_
      refine A_icmp_ge (pc := 50) (tgt := 57) dX3_canStand_50 (by decide) ?_ ?_
      · refine A_iconst (pc := 57) (v := (0 : Int32)) dX3_canStand_57 (by decide) ?_
        exact A_retBr rfl rfl dX3_canStand_58
      · refine A_iconst (pc := 53) (v := (1 : Int32)) dX3_canStand_53 (by decide) ?_
        refine A_goto (pc := 54) (tgt := 58) dX3_canStand_54 (by decide) ?_
        exact A_retBr rfl rfl dX3_canStand_58
  · refine A_iload_n (pc := 59) (i := 0) dX3_canStand_59 rfl rfl ?_
    refine A_bipush (pc := 60) (v := (58 : Int32)) dX3_canStand_60 (by decide) ?_
    refine A_icmp_ne (pc := 62) (tgt := 69) dX3_canStand_62 (by decide) ?_ ?_
    · refine A_iconst (pc := 69) (v := (0 : Int32)) dX3_canStand_69 (by decide) ?_
      exact A_retBr rfl rfl dX3_canStand_70
    · refine A_iconst (pc := 65) (v := (1 : Int32)) dX3_canStand_65 (by decide) ?_
      refine A_goto (pc := 66) (tgt := 70) dX3_canStand_66 (by decide) ?_
      exact A_retBr rfl rfl dX3_canStand_70
  · refine A_iload_n (pc := 71) (i := 0) dX3_canStand_71 rfl rfl ?_
    refine A_bipush (pc := 72) (v := (59 : Int32)) dX3_canStand_72 (by decide) ?_
    refine A_icmp_ne (pc := 74) (tgt := 81) dX3_canStand_74 (by decide) ?_ ?_
    · refine A_iconst (pc := 81) (v := (0 : Int32)) dX3_canStand_81 (by decide) ?_
      exact A_retBr rfl rfl dX3_canStand_82
    · refine A_iconst (pc := 77) (v := (1 : Int32)) dX3_canStand_77 (by decide) ?_
      refine A_goto (pc := 78) (tgt := 82) dX3_canStand_78 (by decide) ?_
      exact A_retBr rfl rfl dX3_canStand_82

abbrev mX3_firstWrong : MD := (yX3_firstWrong, cX3_firstWrong, 2, (some .int), { frames := 2, cells := 0, slots := 0, locals := 43 }, none)
theorem kD_X3_firstWrong : CodeIn mX3_firstWrong 0 := ⟨kC_X3_firstWrong, by decide +kernel⟩
def fL_X3_firstWrong_2 (h : Hp) : Nat → Int32 → Option Int32
  | 0, _ => none
  | n + 1, x1 => (if (gI h 3 0 4) ≤ x1 then (if ((gI h 3 0 4) - (gI h 3 0 4) / (7 : Int32) * (7 : Int32)) = 0 then (some (-1 : Int32)) else (some (gI h 3 0 4))) else (if 0 ≤ x1 ∧ x1 < 80 then ((f_X3_canStand (gI h 18 0 (Int32.toNatClampNeg x1)) x1 h).bind fun r1 => (if r1 = true then ((fL_X3_firstWrong_2 h n) (x1 + 1)) else (some x1))) else none))
set_option maxRecDepth 100000 in
set_option maxHeartbeats 4000000 in
theorem aL_X3_firstWrong_2 (h : Hp) : ∀ (n : Nat) (x1 : Int32), Aw (eIr h) U0 mX3_firstWrong (0, 0) U0 2 [some (vr 3 (some 0)), some (vi x1)] [] h (fL_X3_firstWrong_2 h n x1) := by
  intro n
  induction n with
  | zero =>
    intro x1
    exact Aw.none
  | succ n ih =>
    intro x1
    show Aw _ _ _ _ _ _ _ _ _ (fL_X3_firstWrong_2 h (n + 1) x1)
    unfold fL_X3_firstWrong_2
    refine A_iload_n (pc := 2) (i := 1) dX3_firstWrong_2 rfl rfl ?_
    refine A_aload_n (pc := 3) (i := 0) dX3_firstWrong_3 rfl rfl ?_
    refine A_getI (pc := 4) (k := 4) clX3 (Nat.le_of_ble_eq_true rfl) dX3_firstWrong_4 kF_X3_30 rfl ?_
    refine A_icmp_ge (pc := 7) (tgt := 31) dX3_firstWrong_7 (by decide) ?_ ?_
    · refine A_aload_n (pc := 31) (i := 0) dX3_firstWrong_31 rfl rfl ?_
      refine A_getI (pc := 32) (k := 4) clX3 (Nat.le_of_ble_eq_true rfl) dX3_firstWrong_32 kF_X3_30 rfl ?_
      refine A_bipush (pc := 35) (v := (7 : Int32)) dX3_firstWrong_35 (by decide) ?_
      refine A_irem (pc := 37) dX3_firstWrong_37 (by decide) ?_
      refine A_if_ne (pc := 38) (tgt := 45) dX3_firstWrong_38 (by decide) ?_ ?_
      · refine A_aload_n (pc := 45) (i := 0) dX3_firstWrong_45 rfl rfl ?_
        refine A_getI (pc := 46) (k := 4) clX3 (Nat.le_of_ble_eq_true rfl) dX3_firstWrong_46 kF_X3_30 rfl ?_
        exact A_retIr rfl dX3_firstWrong_49
      · refine A_iconst (pc := 41) (v := (-1 : Int32)) dX3_firstWrong_41 (by decide) ?_
        refine A_goto (pc := 42) (tgt := 49) dX3_firstWrong_42 (by decide) ?_
        exact A_retIr rfl dX3_firstWrong_49
    · refine A_aload_n (pc := 10) (i := 0) dX3_firstWrong_10 rfl rfl ?_
      refine A_getS (pc := 11) (k := 0) (tp := 18) clX3 (Nat.le_of_ble_eq_true rfl) dX3_firstWrong_11 kF_X3_11 rfl rfl rfl ?_
      refine A_iload_n (pc := 14) (i := 1) dX3_firstWrong_14 rfl rfl ?_
      refine A_baload (pc := 15) (n := 80) (by decide) (by decide) (Or.inl rfl) dX3_firstWrong_15 (by decide) ?_
      refine A_iload_n (pc := 16) (i := 1) dX3_firstWrong_16 rfl rfl ?_
      refine A_callS (pc := 17) (M' := mX3_canStand) (As := [vi (gI h 18 0 (Int32.toNatClampNeg x1)), vi x1]) (st := []) (0, 0) (fun r1 => [vi (bi r1)]) (fun _ => h) (a_X3_canStand (gI h 18 0 (Int32.toNatClampNeg x1)) x1 h) kD_X3_canStand kM_X3_50 kT_X3_canStand kN_X3 ⟨(Nat.le_of_ble_eq_true rfl), (Nat.le_of_ble_eq_true rfl)⟩ dX3_firstWrong_17 rfl rfl (Nat.le_of_ble_eq_true rfl) (Nat.le_of_ble_eq_true rfl) (Nat.le_of_ble_eq_true rfl) (fun _ => rfl) (fun _ => rfl) (fun r1 => ?_)
      refine A_ifb_ne (pc := 20) (tgt := 25) dX3_firstWrong_20 (by decide) ?_ ?_
      · refine A_iinc (pc := 25) (i := 1) (v := (x1 + 1)) (ls2 := [some (vr 3 (some 0)), some (vi (x1 + 1))]) dX3_firstWrong_25 rfl rfl (Nat.le_of_ble_eq_true rfl) rfl ?_
        refine A_goto (pc := 28) (tgt := 2) dX3_firstWrong_28 (by decide) ?_
        exact Aw.weak (ls' := [some (vr 3 (some 0)), some (vi (x1 + 1))]) ⟨rfl, ⟨rfl, trivial⟩⟩ (ih (x1 + 1))
      · refine A_iload_n (pc := 23) (i := 1) dX3_firstWrong_23 rfl rfl ?_
        exact A_retIr rfl dX3_firstWrong_24
def f_X3_firstWrong (h : Hp) : Option Int32 := (fL_X3_firstWrong_2 h FU (0 : Int32))
set_option maxRecDepth 100000 in
set_option maxHeartbeats 4000000 in
theorem a_X3_firstWrong (h : Hp) : CtA (eIr h) mX3_firstWrong U0 U0 [vr 3 (some 0)] h (f_X3_firstWrong h) := by
  refine Ct.of (ls := [some (vr 3 (some 0)), none]) (n := 1) (by decide +kernel) rfl rfl rfl ?_
  unfold f_X3_firstWrong
  refine A_iconst (pc := 0) (v := (0 : Int32)) dX3_firstWrong_0 (by decide) ?_
  refine A_istore_n (pc := 1) (i := 1) (ls2 := [some (vr 3 (some 0)), some (vi (0 : Int32))]) dX3_firstWrong_1 rfl (Nat.le_of_ble_eq_true rfl) rfl ?_
  exact Aw.weak (ls' := [some (vr 3 (some 0)), some (vi (0 : Int32))]) ⟨rfl, ⟨rfl, trivial⟩⟩ (aL_X3_firstWrong_2 h FU (0 : Int32))

abbrev mX3_twoDigits : MD := (yX3_twoDigits, cX3_twoDigits, 2, (some .int), { frames := 0, cells := 0, slots := 0, locals := 0 }, none)
theorem kD_X3_twoDigits : CodeIn mX3_twoDigits 1 := ⟨kC_X3_twoDigits, by decide +kernel⟩
def f_X3_twoDigits (x1 : Int32) (h : Hp) : Option Int32 := (if x1 < 0 then (some (0 : Int32)) else (if (x1 + (1 : Int32)) < (80 : Int32) then (if 0 ≤ x1 ∧ x1 < 80 then (if 0 ≤ (x1 + (1 : Int32)) ∧ (x1 + (1 : Int32)) < 80 then (some (((((gI h 18 0 (Int32.toNatClampNeg x1)) - (48 : Int32)) * (10 : Int32)) + (gI h 18 0 (Int32.toNatClampNeg (x1 + (1 : Int32))))) - (48 : Int32))) else none) else none) else (some (0 : Int32))))
set_option maxRecDepth 100000 in
set_option maxHeartbeats 4000000 in
theorem a_X3_twoDigits (x1 : Int32) (h : Hp) : CtA (eIr h) mX3_twoDigits U0 U0 [vr 3 (some 0), vi x1] h (f_X3_twoDigits x1 h) := by
  refine Ct.of (ls := [some (vr 3 (some 0)), some (vi x1)]) (n := 0) (by decide +kernel) rfl rfl rfl ?_
  unfold f_X3_twoDigits
  refine A_iload_n (pc := 0) (i := 1) dX3_twoDigits_0 rfl rfl ?_
  refine A_if_lt (pc := 1) (tgt := 15) dX3_twoDigits_1 (by decide) ?_ ?_
  · refine A_iconst (pc := 15) (v := (0 : Int32)) dX3_twoDigits_15 (by decide) ?_
    exact A_retIr rfl dX3_twoDigits_16
  · refine A_iload_n (pc := 4) (i := 1) dX3_twoDigits_4 rfl rfl ?_
    refine A_iconst (pc := 5) (v := (1 : Int32)) dX3_twoDigits_5 (by decide) ?_
    refine A_iadd (pc := 6) dX3_twoDigits_6 ?_
    refine A_aload_n (pc := 7) (i := 0) dX3_twoDigits_7 rfl rfl ?_
    refine A_getS (pc := 8) (k := 0) (tp := 18) clX3 (Nat.le_of_ble_eq_true rfl) dX3_twoDigits_8 kF_X3_11 rfl rfl rfl ?_
    refine A_alen (pc := 11) (v := (80 : Int32)) (by decide) (by decide) (by decide) rfl dX3_twoDigits_11 ?_
    refine A_icmp_lt (pc := 12) (tgt := 17) dX3_twoDigits_12 (by decide) ?_ ?_
    · refine A_aload_n (pc := 17) (i := 0) dX3_twoDigits_17 rfl rfl ?_
      refine A_getS (pc := 18) (k := 0) (tp := 18) clX3 (Nat.le_of_ble_eq_true rfl) dX3_twoDigits_18 kF_X3_11 rfl rfl rfl ?_
      refine A_iload_n (pc := 21) (i := 1) dX3_twoDigits_21 rfl rfl ?_
      refine A_baload (pc := 22) (n := 80) (by decide) (by decide) (Or.inl rfl) dX3_twoDigits_22 (by decide) ?_
      refine A_bipush (pc := 23) (v := (48 : Int32)) dX3_twoDigits_23 (by decide) ?_
      refine A_isub (pc := 25) dX3_twoDigits_25 ?_
      refine A_bipush (pc := 26) (v := (10 : Int32)) dX3_twoDigits_26 (by decide) ?_
      refine A_imul (pc := 28) dX3_twoDigits_28 ?_
      refine A_aload_n (pc := 29) (i := 0) dX3_twoDigits_29 rfl rfl ?_
      refine A_getS (pc := 30) (k := 0) (tp := 18) clX3 (Nat.le_of_ble_eq_true rfl) dX3_twoDigits_30 kF_X3_11 rfl rfl rfl ?_
      refine A_iload_n (pc := 33) (i := 1) dX3_twoDigits_33 rfl rfl ?_
      refine A_iconst (pc := 34) (v := (1 : Int32)) dX3_twoDigits_34 (by decide) ?_
      refine A_iadd (pc := 35) dX3_twoDigits_35 ?_
      refine A_baload (pc := 36) (n := 80) (by decide) (by decide) (Or.inl rfl) dX3_twoDigits_36 (by decide) ?_
      refine A_iadd (pc := 37) dX3_twoDigits_37 ?_
      refine A_bipush (pc := 38) (v := (48 : Int32)) dX3_twoDigits_38 (by decide) ?_
      refine A_isub (pc := 40) dX3_twoDigits_40 ?_
      exact A_retIr rfl dX3_twoDigits_41
    · refine A_iconst (pc := 15) (v := (0 : Int32)) dX3_twoDigits_15 (by decide) ?_
      exact A_retIr rfl dX3_twoDigits_16

abbrev mX3_takeText : MD := (yX3_takeText, cX3_takeText, 5, (some .int), { frames := 3, cells := 0, slots := 0, locals := 64 }, none)
theorem kD_X3_takeText : CodeIn mX3_takeText 0 := ⟨kC_X3_takeText, by decide +kernel⟩
def fL_X3_takeText_34 : Nat → Int32 → Hp → Option (Int32 × Hp)
  | 0, _, _ => none
  | n + 1, x3, h => (if (gI h 3 0 5) ≤ x3 then (some ((gI h 3 0 5), h)) else (if (8 : Int32) ≤ x3 then (some ((gI h 3 0 5), h)) else (if 0 ≤ (x3 * (7 : Int32)) ∧ (x3 * (7 : Int32)) < 80 then ((f_X3_kindOf (gI h 18 0 (Int32.toNatClampNeg (x3 * (7 : Int32)))) h).bind fun r2 => (if 0 ≤ x3 ∧ x3 < 8 then ((f_X3_twoDigits ((x3 * (7 : Int32)) + (1 : Int32)) (wI h 19 0 (Int32.toNatClampNeg x3) r2)).bind fun r3 => (if 0 ≤ x3 ∧ x3 < 8 then ((f_X3_twoDigits ((x3 * (7 : Int32)) + (4 : Int32)) (wI (wI h 19 0 (Int32.toNatClampNeg x3) r2) 20 0 (Int32.toNatClampNeg x3) r3)).bind fun r4 => (if 0 ≤ x3 ∧ x3 < 8 then ((fL_X3_takeText_34 n) (x3 + 1) (wI (wI (wI h 19 0 (Int32.toNatClampNeg x3) r2) 20 0 (Int32.toNatClampNeg x3) r3) 21 0 (Int32.toNatClampNeg x3) r4)) else none)) else none)) else none)) else none)))
set_option maxRecDepth 100000 in
set_option maxHeartbeats 4000000 in
theorem aL_X3_takeText_34 : ∀ (n : Nat) (x3 : Int32) (h : Hp), Aw eI U0 mX3_takeText (0, 0) U0 34 [some (vr 3 (some 0)), none, none, some (vi x3), none] [] h (fL_X3_takeText_34 n x3 h) := by
  intro n
  induction n with
  | zero =>
    intro x3 h
    exact Aw.none
  | succ n ih =>
    intro x3 h
    show Aw _ _ _ _ _ _ _ _ _ (fL_X3_takeText_34 (n + 1) x3 h)
    unfold fL_X3_takeText_34
    refine A_iload_n (pc := 34) (i := 3) dX3_takeText_34 rfl rfl ?_
    refine A_aload_n (pc := 35) (i := 0) dX3_takeText_35 rfl rfl ?_
    refine A_getI (pc := 36) (k := 5) clX3 (Nat.le_of_ble_eq_true rfl) dX3_takeText_36 kF_X3_40 rfl ?_
    refine A_icmp_ge (pc := 39) (tgt := 104) dX3_takeText_39 (by decide) ?_ ?_
    · refine A_aload_n (pc := 104) (i := 0) dX3_takeText_104 rfl rfl ?_
      refine A_getI (pc := 105) (k := 5) clX3 (Nat.le_of_ble_eq_true rfl) dX3_takeText_105 kF_X3_40 rfl ?_
      exact A_retI rfl dX3_takeText_108
    · refine A_iload_n (pc := 42) (i := 3) dX3_takeText_42 rfl rfl ?_
      refine A_bipush (pc := 43) (v := (8 : Int32)) dX3_takeText_43 (by decide) ?_
      refine A_icmp_ge (pc := 45) (tgt := 104) dX3_takeText_45 (by decide) ?_ ?_
      · refine A_aload_n (pc := 104) (i := 0) dX3_takeText_104 rfl rfl ?_
        refine A_getI (pc := 105) (k := 5) clX3 (Nat.le_of_ble_eq_true rfl) dX3_takeText_105 kF_X3_40 rfl ?_
        exact A_retI rfl dX3_takeText_108
      · refine A_iload_n (pc := 48) (i := 3) dX3_takeText_48 rfl rfl ?_
        refine A_bipush (pc := 49) (v := (7 : Int32)) dX3_takeText_49 (by decide) ?_
        refine A_imul (pc := 51) dX3_takeText_51 ?_
        refine A_istore (pc := 52) (i := 4) (ls2 := [some (vr 3 (some 0)), none, none, some (vi x3), some (vi (x3 * (7 : Int32)))]) dX3_takeText_52 (Nat.le_of_ble_eq_true rfl) rfl ?_
        refine A_aload_n (pc := 54) (i := 0) dX3_takeText_54 rfl rfl ?_
        refine A_getS (pc := 55) (k := 1) (tp := 19) clX3 (Nat.le_of_ble_eq_true rfl) dX3_takeText_55 kF_X3_15 rfl rfl rfl ?_
        refine A_iload_n (pc := 58) (i := 3) dX3_takeText_58 rfl rfl ?_
        refine A_aload_n (pc := 59) (i := 0) dX3_takeText_59 rfl rfl ?_
        refine A_getS (pc := 60) (k := 0) (tp := 18) clX3 (Nat.le_of_ble_eq_true rfl) dX3_takeText_60 kF_X3_11 rfl rfl rfl ?_
        refine A_iload (pc := 63) (i := 4) dX3_takeText_63 rfl ?_
        refine A_baload (pc := 65) (n := 80) (by decide) (by decide) (Or.inl rfl) dX3_takeText_65 (by decide) ?_
        refine A_callS (pc := 66) (M' := mX3_kindOf) (As := [vi (gI h 18 0 (Int32.toNatClampNeg (x3 * (7 : Int32))))]) (st := [vi x3, vr 19 (some 0)]) (0, 0) (fun r2 => [vi r2, vi x3, vr 19 (some 0)]) (fun _ => h) (a_X3_kindOf (gI h 18 0 (Int32.toNatClampNeg (x3 * (7 : Int32)))) h) kD_X3_kindOf kM_X3_43 kT_X3_kindOf kN_X3 ⟨(Nat.le_of_ble_eq_true rfl), (Nat.le_of_ble_eq_true rfl)⟩ dX3_takeText_66 rfl rfl (Nat.le_of_ble_eq_true rfl) (Nat.le_of_ble_eq_true rfl) (Nat.le_of_ble_eq_true rfl) (fun _ => rfl) (fun _ => rfl) (fun r2 => ?_)
        refine A_iastore (pc := 69) (n := 8) (by decide) (by decide) rfl dX3_takeText_69 (by decide) ?_
        refine A_aload_n (pc := 70) (i := 0) dX3_takeText_70 rfl rfl ?_
        refine A_getS (pc := 71) (k := 2) (tp := 20) clX3 (Nat.le_of_ble_eq_true rfl) dX3_takeText_71 kF_X3_19 rfl rfl rfl ?_
        refine A_iload_n (pc := 74) (i := 3) dX3_takeText_74 rfl rfl ?_
        refine A_aload_n (pc := 75) (i := 0) dX3_takeText_75 rfl rfl ?_
        refine A_iload (pc := 76) (i := 4) dX3_takeText_76 rfl ?_
        refine A_iconst (pc := 78) (v := (1 : Int32)) dX3_takeText_78 (by decide) ?_
        refine A_iadd (pc := 79) dX3_takeText_79 ?_
        refine A_callV (pc := 80) (M' := mX3_twoDigits) (As := [vi ((x3 * (7 : Int32)) + (1 : Int32))]) (st := [vi x3, vr 20 (some 0)]) (0, 0) (fun r3 => [vi r3, vi x3, vr 20 (some 0)]) (fun _ => (wI h 19 0 (Int32.toNatClampNeg x3) r2)) (a_X3_twoDigits ((x3 * (7 : Int32)) + (1 : Int32)) (wI h 19 0 (Int32.toNatClampNeg x3) r2)) kD_X3_twoDigits kM_X3_47 kI_X3_twoDigits kS_X3_twoDigits kN_X3 ⟨(Nat.le_of_ble_eq_true rfl), (Nat.le_of_ble_eq_true rfl)⟩ dX3_takeText_80 rfl rfl rfl (by decide) rfl (Nat.le_of_ble_eq_true rfl) (Nat.le_of_ble_eq_true rfl) (Nat.le_of_ble_eq_true rfl) (fun _ => rfl) (fun _ => rfl) (fun r3 => ?_)
        refine A_iastore (pc := 83) (n := 8) (by decide) (by decide) rfl dX3_takeText_83 (by decide) ?_
        refine A_aload_n (pc := 84) (i := 0) dX3_takeText_84 rfl rfl ?_
        refine A_getS (pc := 85) (k := 3) (tp := 21) clX3 (Nat.le_of_ble_eq_true rfl) dX3_takeText_85 kF_X3_22 rfl rfl rfl ?_
        refine A_iload_n (pc := 88) (i := 3) dX3_takeText_88 rfl rfl ?_
        refine A_aload_n (pc := 89) (i := 0) dX3_takeText_89 rfl rfl ?_
        refine A_iload (pc := 90) (i := 4) dX3_takeText_90 rfl ?_
        refine A_iconst (pc := 92) (v := (4 : Int32)) dX3_takeText_92 (by decide) ?_
        refine A_iadd (pc := 93) dX3_takeText_93 ?_
        refine A_callV (pc := 94) (M' := mX3_twoDigits) (As := [vi ((x3 * (7 : Int32)) + (4 : Int32))]) (st := [vi x3, vr 21 (some 0)]) (0, 0) (fun r4 => [vi r4, vi x3, vr 21 (some 0)]) (fun _ => (wI (wI h 19 0 (Int32.toNatClampNeg x3) r2) 20 0 (Int32.toNatClampNeg x3) r3)) (a_X3_twoDigits ((x3 * (7 : Int32)) + (4 : Int32)) (wI (wI h 19 0 (Int32.toNatClampNeg x3) r2) 20 0 (Int32.toNatClampNeg x3) r3)) kD_X3_twoDigits kM_X3_47 kI_X3_twoDigits kS_X3_twoDigits kN_X3 ⟨(Nat.le_of_ble_eq_true rfl), (Nat.le_of_ble_eq_true rfl)⟩ dX3_takeText_94 rfl rfl rfl (by decide) rfl (Nat.le_of_ble_eq_true rfl) (Nat.le_of_ble_eq_true rfl) (Nat.le_of_ble_eq_true rfl) (fun _ => rfl) (fun _ => rfl) (fun r4 => ?_)
        refine A_iastore (pc := 97) (n := 8) (by decide) (by decide) rfl dX3_takeText_97 (by decide) ?_
        refine A_iinc (pc := 98) (i := 3) (v := (x3 + 1)) (ls2 := [some (vr 3 (some 0)), none, none, some (vi (x3 + 1)), some (vi (x3 * (7 : Int32)))]) dX3_takeText_98 rfl rfl (Nat.le_of_ble_eq_true rfl) rfl ?_
        refine A_goto (pc := 101) (tgt := 34) dX3_takeText_101 (by decide) ?_
        exact Aw.weak (ls' := [some (vr 3 (some 0)), none, none, some (vi (x3 + 1)), none]) ⟨rfl, ⟨rfl, trivial⟩⟩ (ih (x3 + 1) (wI (wI (wI h 19 0 (Int32.toNatClampNeg x3) r2) 20 0 (Int32.toNatClampNeg x3) r3) 21 0 (Int32.toNatClampNeg x3) r4))
def f_X3_takeText (h : Hp) : Option (Int32 × Hp) := ((f_X3_firstWrong h).bind fun r1 => (if r1 < 0 then (fL_X3_takeText_34 FU (0 : Int32) (wI (wI h 3 0 4 (0 : Int32)) 3 0 5 ((gI h 3 0 4) / (7 : Int32)))) else (some (((-1000100 : Int32) - r1), (wI h 3 0 4 (0 : Int32))))))
set_option maxRecDepth 100000 in
set_option maxHeartbeats 4000000 in
theorem a_X3_takeText (h : Hp) : CtA eI mX3_takeText U0 U0 [vr 3 (some 0)] h (f_X3_takeText h) := by
  refine Ct.of (ls := [some (vr 3 (some 0)), none, none, none, none]) (n := 4) (by decide +kernel) rfl rfl rfl ?_
  unfold f_X3_takeText
  refine A_aload_n (pc := 0) (i := 0) dX3_takeText_0 rfl rfl ?_
  refine A_getI (pc := 1) (k := 4) clX3 (Nat.le_of_ble_eq_true rfl) dX3_takeText_1 kF_X3_30 rfl ?_
  refine A_istore_n (pc := 4) (i := 1) (ls2 := [some (vr 3 (some 0)), some (vi (gI h 3 0 4)), none, none, none]) dX3_takeText_4 rfl (Nat.le_of_ble_eq_true rfl) rfl ?_
  refine A_aload_n (pc := 5) (i := 0) dX3_takeText_5 rfl rfl ?_
  refine A_callV (pc := 6) (M' := mX3_firstWrong) (As := []) (st := []) (0, 0) (fun r1 => [vi r1]) (fun _ => h) (a_X3_firstWrong h) kD_X3_firstWrong kM_X3_35 kI_X3_firstWrong kS_X3_firstWrong kN_X3 ⟨(Nat.le_of_ble_eq_true rfl), (Nat.le_of_ble_eq_true rfl)⟩ dX3_takeText_6 rfl rfl rfl (by decide) rfl (Nat.le_of_ble_eq_true rfl) (Nat.le_of_ble_eq_true rfl) (Nat.le_of_ble_eq_true rfl) (fun _ => rfl) (fun _ => rfl) (fun r1 => ?_)
  refine A_istore_n (pc := 9) (i := 2) (ls2 := [some (vr 3 (some 0)), some (vi (gI h 3 0 4)), some (vi r1), none, none]) dX3_takeText_9 rfl (Nat.le_of_ble_eq_true rfl) rfl ?_
  refine A_aload_n (pc := 10) (i := 0) dX3_takeText_10 rfl rfl ?_
  refine A_iconst (pc := 11) (v := (0 : Int32)) dX3_takeText_11 (by decide) ?_
  refine A_putI (pc := 12) (k := 4) clX3 (Nat.le_of_ble_eq_true rfl) dX3_takeText_12 kF_X3_30 rfl (Or.inl rfl) ⟨rfl, rfl⟩ ?_
  refine A_iload_n (pc := 15) (i := 2) dX3_takeText_15 rfl rfl ?_
  refine A_if_lt (pc := 16) (tgt := 24) dX3_takeText_16 (by decide) ?_ ?_
  · refine A_aload_n (pc := 24) (i := 0) dX3_takeText_24 rfl rfl ?_
    refine A_iload_n (pc := 25) (i := 1) dX3_takeText_25 rfl rfl ?_
    refine A_bipush (pc := 26) (v := (7 : Int32)) dX3_takeText_26 (by decide) ?_
    refine A_idiv (pc := 28) dX3_takeText_28 (by decide) ?_
    refine A_putI (pc := 29) (k := 5) clX3 (Nat.le_of_ble_eq_true rfl) dX3_takeText_29 kF_X3_40 rfl (Or.inl rfl) ⟨rfl, rfl⟩ ?_
    refine A_iconst (pc := 32) (v := (0 : Int32)) dX3_takeText_32 (by decide) ?_
    refine A_istore_n (pc := 33) (i := 3) (ls2 := [some (vr 3 (some 0)), some (vi (gI h 3 0 4)), some (vi r1), some (vi (0 : Int32)), none]) dX3_takeText_33 rfl (Nat.le_of_ble_eq_true rfl) rfl ?_
    exact Aw.weak (ls' := [some (vr 3 (some 0)), none, none, some (vi (0 : Int32)), none]) ⟨rfl, ⟨rfl, trivial⟩⟩ (aL_X3_takeText_34 FU (0 : Int32) (wI (wI h 3 0 4 (0 : Int32)) 3 0 5 ((gI h 3 0 4) / (7 : Int32))))
  · refine A_ldc (pc := 19) (v := (-1000100 : Int32)) dX3_takeText_19 kK_X3_39 ?_
    refine A_iload_n (pc := 21) (i := 2) dX3_takeText_21 rfl rfl ?_
    refine A_isub (pc := 22) dX3_takeText_22 ?_
    exact A_retI rfl dX3_takeText_23

abbrev mX3_priceFor : MD := (yX3_priceFor, cX3_priceFor, 3, (some .int), { frames := 1, cells := 0, slots := 0, locals := 21 }, none)
theorem kD_X3_priceFor : CodeIn mX3_priceFor 1 := ⟨kC_X3_priceFor, by decide +kernel⟩
def fL_X3_priceFor_2 (h : Hp) : Nat → Nat → Int32 → Option Int32
  | 0, _, _ => none
  | n + 1, i1, x2 => (if (gI h 3 0 5) ≤ x2 then (some (-1000004 : Int32)) else (if (8 : Int32) ≤ x2 then (some (-1000004 : Int32)) else (if 0 ≤ x2 ∧ x2 < 8 then ((f_X1_isOfKind i1 (gI h 19 0 (Int32.toNatClampNeg x2)) h).bind fun r1 => (if r1 = true then (if 0 ≤ x2 ∧ x2 < 8 then (if (gI h 20 0 (Int32.toNatClampNeg x2)) < (gI h 1 i1 2) then ((fL_X3_priceFor_2 h n) i1 (x2 + 1)) else (if 0 ≤ x2 ∧ x2 < 8 then (some (gI h 21 0 (Int32.toNatClampNeg x2))) else none)) else none) else ((fL_X3_priceFor_2 h n) i1 (x2 + 1)))) else none)))
set_option maxRecDepth 100000 in
set_option maxHeartbeats 4000000 in
theorem aL_X3_priceFor_2 (h : Hp) : ∀ (n : Nat) (i1 : Nat) (x2 : Int32), Aw (eIr h) U0 mX3_priceFor (0, 0) U0 2 [some (vr 3 (some 0)), some (vr 1 (some i1)), some (vi x2)] [] h (fL_X3_priceFor_2 h n i1 x2) := by
  intro n
  induction n with
  | zero =>
    intro i1 x2
    exact Aw.none
  | succ n ih =>
    intro i1 x2
    show Aw _ _ _ _ _ _ _ _ _ (fL_X3_priceFor_2 h (n + 1) i1 x2)
    unfold fL_X3_priceFor_2
    refine A_iload_n (pc := 2) (i := 2) dX3_priceFor_2 rfl rfl ?_
    refine A_aload_n (pc := 3) (i := 0) dX3_priceFor_3 rfl rfl ?_
    refine A_getI (pc := 4) (k := 5) clX3 (Nat.le_of_ble_eq_true rfl) dX3_priceFor_4 kF_X3_40 rfl ?_
    refine A_icmp_ge (pc := 7) (tgt := 55) dX3_priceFor_7 (by decide) ?_ ?_
    · refine A_ldc (pc := 55) (v := (-1000004 : Int32)) dX3_priceFor_55 kK_X3_63 ?_
      exact A_retIr rfl dX3_priceFor_57
    · refine A_iload_n (pc := 10) (i := 2) dX3_priceFor_10 rfl rfl ?_
      refine A_bipush (pc := 11) (v := (8 : Int32)) dX3_priceFor_11 (by decide) ?_
      refine A_icmp_ge (pc := 13) (tgt := 55) dX3_priceFor_13 (by decide) ?_ ?_
      · refine A_ldc (pc := 55) (v := (-1000004 : Int32)) dX3_priceFor_55 kK_X3_63 ?_
        exact A_retIr rfl dX3_priceFor_57
      · refine A_aload_n (pc := 16) (i := 1) dX3_priceFor_16 rfl rfl ?_
        refine A_aload_n (pc := 17) (i := 0) dX3_priceFor_17 rfl rfl ?_
        refine A_getS (pc := 18) (k := 1) (tp := 19) clX3 (Nat.le_of_ble_eq_true rfl) dX3_priceFor_18 kF_X3_15 rfl rfl rfl ?_
        refine A_iload_n (pc := 21) (i := 2) dX3_priceFor_21 rfl rfl ?_
        refine A_iaload (pc := 22) (n := 8) (by decide) (by decide) rfl dX3_priceFor_22 (by decide) ?_
        refine A_callV (pc := 23) (M' := mX1_isOfKind) (As := [vi (gI h 19 0 (Int32.toNatClampNeg x2))]) (st := []) (0, 0) (fun r1 => [vi (bi r1)]) (fun _ => h) (a_X1_isOfKind i1 (gI h 19 0 (Int32.toNatClampNeg x2)) h) kD_X1_isOfKind kM_X3_54 kI_X1_isOfKind kS_X1_isOfKind kN_X1 ⟨(Nat.le_of_ble_eq_true rfl), (Nat.le_of_ble_eq_true rfl)⟩ dX3_priceFor_23 rfl rfl rfl (by decide) rfl (Nat.le_of_ble_eq_true rfl) (Nat.le_of_ble_eq_true rfl) (Nat.le_of_ble_eq_true rfl) (fun _ => rfl) (fun _ => rfl) (fun r1 => ?_)
        refine A_ifb_eq (pc := 26) (tgt := 49) dX3_priceFor_26 (by decide) ?_ ?_
        · refine A_iinc (pc := 49) (i := 2) (v := (x2 + 1)) (ls2 := [some (vr 3 (some 0)), some (vr 1 (some i1)), some (vi (x2 + 1))]) dX3_priceFor_49 rfl rfl (Nat.le_of_ble_eq_true rfl) rfl ?_
          refine A_goto (pc := 52) (tgt := 2) dX3_priceFor_52 (by decide) ?_
          exact Aw.weak (ls' := [some (vr 3 (some 0)), some (vr 1 (some i1)), some (vi (x2 + 1))]) ⟨rfl, ⟨rfl, ⟨rfl, trivial⟩⟩⟩ (ih i1 (x2 + 1))
        · refine A_aload_n (pc := 29) (i := 0) dX3_priceFor_29 rfl rfl ?_
          refine A_getS (pc := 30) (k := 2) (tp := 20) clX3 (Nat.le_of_ble_eq_true rfl) dX3_priceFor_30 kF_X3_19 rfl rfl rfl ?_
          refine A_iload_n (pc := 33) (i := 2) dX3_priceFor_33 rfl rfl ?_
          refine A_iaload (pc := 34) (n := 8) (by decide) (by decide) rfl dX3_priceFor_34 (by decide) ?_
          refine A_aload_n (pc := 35) (i := 1) dX3_priceFor_35 rfl rfl ?_
          refine A_getI (pc := 36) (k := 2) clX1 (Nat.le_of_ble_eq_true rfl) dX3_priceFor_36 kF_X3_60 rfl ?_
          refine A_icmp_lt (pc := 39) (tgt := 49) dX3_priceFor_39 (by decide) ?_ ?_
          · refine A_iinc (pc := 49) (i := 2) (v := (x2 + 1)) (ls2 := [some (vr 3 (some 0)), some (vr 1 (some i1)), some (vi (x2 + 1))]) dX3_priceFor_49 rfl rfl (Nat.le_of_ble_eq_true rfl) rfl ?_
            refine A_goto (pc := 52) (tgt := 2) dX3_priceFor_52 (by decide) ?_
            exact Aw.weak (ls' := [some (vr 3 (some 0)), some (vr 1 (some i1)), some (vi (x2 + 1))]) ⟨rfl, ⟨rfl, ⟨rfl, trivial⟩⟩⟩ (ih i1 (x2 + 1))
          · refine A_aload_n (pc := 42) (i := 0) dX3_priceFor_42 rfl rfl ?_
            refine A_getS (pc := 43) (k := 3) (tp := 21) clX3 (Nat.le_of_ble_eq_true rfl) dX3_priceFor_43 kF_X3_22 rfl rfl rfl ?_
            refine A_iload_n (pc := 46) (i := 2) dX3_priceFor_46 rfl rfl ?_
            refine A_iaload (pc := 47) (n := 8) (by decide) (by decide) rfl dX3_priceFor_47 (by decide) ?_
            exact A_retIr rfl dX3_priceFor_48
def f_X3_priceFor (i1 : Nat) (h : Hp) : Option Int32 := (fL_X3_priceFor_2 h FU i1 (0 : Int32))
set_option maxRecDepth 100000 in
set_option maxHeartbeats 4000000 in
theorem a_X3_priceFor (i1 : Nat) (h : Hp) : CtA (eIr h) mX3_priceFor U0 U0 [vr 3 (some 0), vr 1 (some i1)] h (f_X3_priceFor i1 h) := by
  refine Ct.of (ls := [some (vr 3 (some 0)), some (vr 1 (some i1)), none]) (n := 1) (by decide +kernel) rfl rfl rfl ?_
  unfold f_X3_priceFor
  refine A_iconst (pc := 0) (v := (0 : Int32)) dX3_priceFor_0 (by decide) ?_
  refine A_istore_n (pc := 1) (i := 2) (ls2 := [some (vr 3 (some 0)), some (vr 1 (some i1)), some (vi (0 : Int32))]) dX3_priceFor_1 rfl (Nat.le_of_ble_eq_true rfl) rfl ?_
  exact Aw.weak (ls' := [some (vr 3 (some 0)), some (vr 1 (some i1)), some (vi (0 : Int32))]) ⟨rfl, ⟨rfl, ⟨rfl, trivial⟩⟩⟩ (aL_X3_priceFor_2 h FU i1 (0 : Int32))

abbrev mX4_init : MD := (yX4_init, cX4_init, 1, none, { frames := 1, cells := 6, slots := 530, locals := 20 }, none)
theorem kD_X4_init : CodeIn mX4_init 0 := ⟨kC_X4_init, by decide +kernel⟩
def f_X4_init (h : Hp) : Option Hp := (if gN h 12 = 0 then (if gN (wN h 12) 13 = 0 then (if gN (wN (wN h 12) 13) 14 = 0 then (if gN (wN (wN (wN h 12) 13) 14) 15 = 0 then (if gN (wN (wN (wN (wN h 12) 13) 14) 15) 16 = 0 then (if gN (wN (wN (wN (wN (wN h 12) 13) 14) 15) 16) 17 = 0 then (some (wN (wN (wN (wN (wN (wN h 12) 13) 14) 15) 16) 17)) else none) else none) else none) else none) else none) else none)
set_option maxRecDepth 100000 in
set_option maxHeartbeats 4000000 in
theorem a_X4_init (U : US) (h : Hp) : CtA eV mX4_init U (uS (uS (uS (uS (uS (uS U 4 0 0) 4 0 1) 4 0 2) 4 0 3) 4 0 4) 4 0 5) [vr 4 (some 0)] h (f_X4_init h) := by
  refine Ct.of (ls := [some (vr 4 (some 0))]) (n := 0) (by decide +kernel) rfl rfl rfl ?_
  unfold f_X4_init
  refine A_aload_n (pc := 0) (i := 0) dX4_init_0 rfl rfl ?_
  refine A_objInit (pc := 1) dX4_init_1 kM_X4_5 kI_obj kC_obj (Nat.le_of_ble_eq_true rfl) (Nat.le_of_ble_eq_true rfl) ?_
  refine A_aload_n (pc := 4) (i := 0) dX4_init_4 rfl rfl ?_
  refine A_bipush (pc := 5) (v := (6 : Int32)) dX4_init_5 (by decide) ?_
  refine A_newQ (pc := 7) (t := 12) (i := 0) (C := RX1) (5, 524) (by decide) (by decide) (by decide) dX4_init_7 kL_X4_11 (by simp) rfl (by decide) (by decide) (by decide) (fun _ => rfl) (Nat.le_of_ble_eq_true rfl) (Nat.le_of_ble_eq_true rfl) ?_
  refine A_putS (pc := 10) (k := 0) (tp := 12) clX4 (Nat.le_of_ble_eq_true rfl) dX4_init_10 kF_X4_13 rfl rfl (by decide) (Or.inr ⟨rfl, rfl⟩) (fun _ => ⟨rfl, rfl⟩) ?_
  refine A_aload_n (pc := 13) (i := 0) dX4_init_13 rfl rfl ?_
  refine A_bipush (pc := 14) (v := (6 : Int32)) dX4_init_14 (by decide) ?_
  refine A_newI (pc := 16) (t := 13) (i := 0) (ty := .int) (4, 518) (by decide) (by decide) dX4_init_16 rfl kA_int rfl (by decide) (by decide) (by decide) (fun _ => rfl) (by decide) (by decide) rfl (Nat.le_of_ble_eq_true rfl) (Nat.le_of_ble_eq_true rfl) ?_
  refine A_putS (pc := 18) (k := 1) (tp := 13) clX4 (Nat.le_of_ble_eq_true rfl) dX4_init_18 kF_X4_17 rfl rfl (by decide) (Or.inr ⟨rfl, rfl⟩) (fun _ => ⟨rfl, rfl⟩) ?_
  refine A_aload_n (pc := 21) (i := 0) dX4_init_21 rfl rfl ?_
  refine A_bipush (pc := 22) (v := (6 : Int32)) dX4_init_22 (by decide) ?_
  refine A_newI (pc := 24) (t := 14) (i := 0) (ty := .int) (3, 512) (by decide) (by decide) dX4_init_24 rfl kA_int rfl (by decide) (by decide) (by decide) (fun _ => rfl) (by decide) (by decide) rfl (Nat.le_of_ble_eq_true rfl) (Nat.le_of_ble_eq_true rfl) ?_
  refine A_putS (pc := 26) (k := 2) (tp := 14) clX4 (Nat.le_of_ble_eq_true rfl) dX4_init_26 kF_X4_21 rfl rfl (by decide) (Or.inr ⟨rfl, rfl⟩) (fun _ => ⟨rfl, rfl⟩) ?_
  refine A_aload_n (pc := 29) (i := 0) dX4_init_29 rfl rfl ?_
  refine A_sipush (pc := 30) (v := (384 : Int32)) dX4_init_30 (by decide) ?_
  refine A_newL (pc := 33) (t := 15) (i := 0) (2, 128) (by decide) (by decide) dX4_init_33 rfl kA_long rfl (by decide) (by decide) (by decide) (fun _ => rfl) rfl (Nat.le_of_ble_eq_true rfl) (Nat.le_of_ble_eq_true rfl) ?_
  refine A_putS (pc := 35) (k := 3) (tp := 15) clX4 (Nat.le_of_ble_eq_true rfl) dX4_init_35 kF_X4_24 rfl rfl (by decide) (Or.inr ⟨rfl, rfl⟩) (fun _ => ⟨rfl, rfl⟩) ?_
  refine A_aload_n (pc := 38) (i := 0) dX4_init_38 rfl rfl ?_
  refine A_bipush (pc := 39) (v := (64 : Int32)) dX4_init_39 (by decide) ?_
  refine A_newL (pc := 41) (t := 16) (i := 0) (1, 64) (by decide) (by decide) dX4_init_41 rfl kA_long rfl (by decide) (by decide) (by decide) (fun _ => rfl) rfl (Nat.le_of_ble_eq_true rfl) (Nat.le_of_ble_eq_true rfl) ?_
  refine A_putS (pc := 43) (k := 4) (tp := 16) clX4 (Nat.le_of_ble_eq_true rfl) dX4_init_43 kF_X4_28 rfl rfl (by decide) (Or.inr ⟨rfl, rfl⟩) (fun _ => ⟨rfl, rfl⟩) ?_
  refine A_aload_n (pc := 46) (i := 0) dX4_init_46 rfl rfl ?_
  refine A_bipush (pc := 47) (v := (64 : Int32)) dX4_init_47 (by decide) ?_
  refine A_newL (pc := 49) (t := 17) (i := 0) (0, 0) (by decide) (by decide) dX4_init_49 rfl kA_long rfl (by decide) (by decide) (by decide) (fun _ => rfl) rfl (Nat.le_of_ble_eq_true rfl) (Nat.le_of_ble_eq_true rfl) ?_
  refine A_putS (pc := 51) (k := 5) (tp := 17) clX4 (Nat.le_of_ble_eq_true rfl) dX4_init_51 kF_X4_31 rfl rfl (by decide) (Or.inr ⟨rfl, rfl⟩) (fun _ => ⟨rfl, rfl⟩) ?_
  exact A_retV rfl dX4_init_54
