abbrev mJ7_fill_53178 : MD := (yJ7_fill_53178, cJ7_fill_53178, 4, none, { frames := 0, cells := 0, slots := 0, locals := 0 }, none)
theorem kD_J7_fill_53178 : CodeIn mJ7_fill_53178 2 := ⟨kC_J7_fill_53178, by decide +kernel⟩
def fL_J7_fill_53178_5 : Nat → Nat → Int32 → Int32 → Int32 → Hp → Option Hp
  | 0, _, _, _, _, _ => none
  | n + 1, i0, x1, x2, x3, h => (if x3 ≤ x2 then (some h) else (if 0 ≤ x2 ∧ x2 < 8 then ((fL_J7_fill_53178_5 n) i0 x1 (x2 + 1) x3 (wI h 23 i0 (Int32.toNatClampNeg x2) x1)) else none))
set_option maxRecDepth 100000 in
set_option maxHeartbeats 4000000 in
theorem aL_J7_fill_53178_5 : ∀ (n : Nat) (i0 : Nat) (x1 : Int32) (x2 : Int32) (x3 : Int32) (h : Hp), Aw eV U0 mJ7_fill_53178 (0, 0) U0 5 [some (vr 23 (some i0)), some (vi x1), some (vi x2), some (vi x3)] [] h (fL_J7_fill_53178_5 n i0 x1 x2 x3 h) := by
  intro n
  induction n with
  | zero =>
    intro i0 x1 x2 x3 h
    exact Aw.none
  | succ n ih =>
    intro i0 x1 x2 x3 h
    show Aw _ _ _ _ _ _ _ _ _ (fL_J7_fill_53178_5 (n + 1) i0 x1 x2 x3 h)
    unfold fL_J7_fill_53178_5
    refine A_iload_n (pc := 5) (i := 2) dJ7_fill_53178_5 rfl rfl ?_
    refine A_iload_n (pc := 6) (i := 3) dJ7_fill_53178_6 rfl rfl ?_
    refine A_icmp_ge (pc := 7) (tgt := 20) dJ7_fill_53178_7 (by decide) ?_ ?_
    · exact A_retV rfl dJ7_fill_53178_20
    · refine A_aload_n (pc := 10) (i := 0) dJ7_fill_53178_10 rfl rfl ?_
      refine A_iload_n (pc := 11) (i := 2) dJ7_fill_53178_11 rfl rfl ?_
      refine A_iload_n (pc := 12) (i := 1) dJ7_fill_53178_12 rfl rfl ?_
      refine A_iastore (pc := 13) (n := 8) (by decide) (by decide) rfl dJ7_fill_53178_13 (by decide) ?_
      refine A_iinc (pc := 14) (i := 2) (v := (x2 + 1)) (ls2 := [some (vr 23 (some i0)), some (vi x1), some (vi (x2 + 1)), some (vi x3)]) dJ7_fill_53178_14 rfl rfl (Nat.le_of_ble_eq_true rfl) rfl ?_
      refine A_goto (pc := 17) (tgt := 5) dJ7_fill_53178_17 (by decide) ?_
      exact Aw.weak (ls' := [some (vr 23 (some i0)), some (vi x1), some (vi (x2 + 1)), some (vi x3)]) ⟨rfl, ⟨rfl, ⟨rfl, ⟨rfl, trivial⟩⟩⟩⟩ (ih i0 x1 (x2 + 1) x3 (wI h 23 i0 (Int32.toNatClampNeg x2) x1))
def f_J7_fill_53178 (i0 : Nat) (x1 : Int32) (h : Hp) : Option Hp := (fL_J7_fill_53178_5 FU i0 x1 (0 : Int32) (8 : Int32) h)
set_option maxRecDepth 100000 in
set_option maxHeartbeats 4000000 in
theorem a_J7_fill_53178 (i0 : Nat) (x1 : Int32) (h : Hp) : CtA eV mJ7_fill_53178 U0 U0 [vr 23 (some i0), vi x1] h (f_J7_fill_53178 i0 x1 h) := by
  refine Ct.of (ls := [some (vr 23 (some i0)), some (vi x1), none, none]) (n := 2) (by decide +kernel) rfl rfl rfl ?_
  unfold f_J7_fill_53178
  refine A_iconst (pc := 0) (v := (0 : Int32)) dJ7_fill_53178_0 (by decide) ?_
  refine A_istore_n (pc := 1) (i := 2) (ls2 := [some (vr 23 (some i0)), some (vi x1), some (vi (0 : Int32)), none]) dJ7_fill_53178_1 rfl (Nat.le_of_ble_eq_true rfl) rfl ?_
  refine A_aload_n (pc := 2) (i := 0) dJ7_fill_53178_2 rfl rfl ?_
  refine A_alen (pc := 3) (v := (8 : Int32)) (by decide) (by decide) (by decide) rfl dJ7_fill_53178_3 ?_
  refine A_istore_n (pc := 4) (i := 3) (ls2 := [some (vr 23 (some i0)), some (vi x1), some (vi (0 : Int32)), some (vi (8 : Int32))]) dJ7_fill_53178_4 rfl (Nat.le_of_ble_eq_true rfl) rfl ?_
  exact Aw.weak (ls' := [some (vr 23 (some i0)), some (vi x1), some (vi (0 : Int32)), some (vi (8 : Int32))]) ⟨rfl, ⟨rfl, ⟨rfl, ⟨rfl, trivial⟩⟩⟩⟩ (aL_J7_fill_53178_5 FU i0 x1 (0 : Int32) (8 : Int32) h)

abbrev mX6_begin : MD := (yX6_begin, cX6_begin, 3, (some .int), { frames := 1, cells := 0, slots := 0, locals := 23 }, none)
theorem kD_X6_begin : CodeIn mX6_begin 2 := ⟨kC_X6_begin, by decide +kernel⟩
def fJ_X6_begin_25 (i0 : Nat) (x1 : Int32) (x2 : Int32) (h : Hp) : Option (Int32 × Hp) := (if 0 ≤ x2 then (if x2 ≤ (8 : Int32) then (if x1 = 0 then ((f_J7_fill_53178 i0 (0 : Int32) (wI (wI h 6 i0 1 x1) 6 i0 2 (0 : Int32))).bind fun r2 => (some ((gI r2 6 i0 2), r2))) else ((f_J7_fill_53178 i0 (0 : Int32) (wI (wI h 6 i0 1 x1) 6 i0 2 x2)).bind fun r1 => (some ((gI r1 6 i0 2), r1)))) else (some ((-1000001 : Int32), h))) else (some ((-1000007 : Int32), h)))
set_option maxRecDepth 100000 in
set_option maxHeartbeats 4000000 in
theorem aJ_X6_begin_25 (i0 : Nat) (x1 : Int32) (x2 : Int32) (h : Hp) : Aw eI U0 mX6_begin (0, 0) U0 25 [some (vr 6 (some i0)), some (vi x1), some (vi x2)] [] h (fJ_X6_begin_25 i0 x1 x2 h) := by
  unfold fJ_X6_begin_25
  refine A_iload_n (pc := 25) (i := 2) dX6_begin_25 rfl rfl ?_
  refine A_if_ge (pc := 26) (tgt := 32) dX6_begin_26 (by decide) ?_ ?_
  · refine A_iload_n (pc := 32) (i := 2) dX6_begin_32 rfl rfl ?_
    refine A_aload_n (pc := 33) (i := 0) dX6_begin_33 rfl rfl ?_
    refine A_getS (pc := 34) (k := 0) (tp := 23) clX6 (Nat.le_of_ble_eq_true rfl) dX6_begin_34 kF_X6_11 rfl rfl rfl ?_
    refine A_alen (pc := 37) (v := (8 : Int32)) (by decide) (by decide) (by decide) rfl dX6_begin_37 ?_
    refine A_icmp_le (pc := 38) (tgt := 44) dX6_begin_38 (by decide) ?_ ?_
    · refine A_aload_n (pc := 44) (i := 0) dX6_begin_44 rfl rfl ?_
      refine A_iload_n (pc := 45) (i := 1) dX6_begin_45 rfl rfl ?_
      refine A_putI (pc := 46) (k := 1) clX6 (Nat.le_of_ble_eq_true rfl) dX6_begin_46 kF_X6_15 rfl (Or.inl rfl) ⟨rfl, rfl⟩ ?_
      refine A_aload_n (pc := 49) (i := 0) dX6_begin_49 rfl rfl ?_
      refine A_iload_n (pc := 50) (i := 1) dX6_begin_50 rfl rfl ?_
      refine A_if_ne (pc := 51) (tgt := 58) dX6_begin_51 (by decide) ?_ ?_
      · refine A_iload_n (pc := 58) (i := 2) dX6_begin_58 rfl rfl ?_
        refine A_putI (pc := 59) (k := 2) clX6 (Nat.le_of_ble_eq_true rfl) dX6_begin_59 kF_X6_21 rfl (Or.inl rfl) ⟨rfl, rfl⟩ ?_
        refine A_aload_n (pc := 62) (i := 0) dX6_begin_62 rfl rfl ?_
        refine A_getS (pc := 63) (k := 0) (tp := 23) clX6 (Nat.le_of_ble_eq_true rfl) dX6_begin_63 kF_X6_11 rfl rfl rfl ?_
        refine A_iconst (pc := 66) (v := (0 : Int32)) dX6_begin_66 (by decide) ?_
        refine A_callS (pc := 67) (M' := mJ7_fill_53178) (As := [vr 23 (some i0), vi (0 : Int32)]) (st := []) (0, 0) (fun r1 => []) (fun r1 => r1) (a_J7_fill_53178 i0 (0 : Int32) (wI (wI h 6 i0 1 x1) 6 i0 2 x2)) kD_J7_fill_53178 kM_X6_24 kT_J7_fill_53178 kN_J7 ⟨(Nat.le_of_ble_eq_true rfl), (Nat.le_of_ble_eq_true rfl)⟩ dX6_begin_67 rfl rfl (Nat.le_of_ble_eq_true rfl) (Nat.le_of_ble_eq_true rfl) (Nat.le_of_ble_eq_true rfl) (fun _ => rfl) (fun _ => rfl) (fun r1 => ?_)
        refine A_aload_n (pc := 70) (i := 0) dX6_begin_70 rfl rfl ?_
        refine A_getI (pc := 71) (k := 2) clX6 (Nat.le_of_ble_eq_true rfl) dX6_begin_71 kF_X6_21 rfl ?_
        exact A_retI rfl dX6_begin_74
      · refine A_iconst (pc := 54) (v := (0 : Int32)) dX6_begin_54 (by decide) ?_
        refine A_goto (pc := 55) (tgt := 59) dX6_begin_55 (by decide) ?_
        refine A_putI (pc := 59) (k := 2) clX6 (Nat.le_of_ble_eq_true rfl) dX6_begin_59 kF_X6_21 rfl (Or.inl rfl) ⟨rfl, rfl⟩ ?_
        refine A_aload_n (pc := 62) (i := 0) dX6_begin_62 rfl rfl ?_
        refine A_getS (pc := 63) (k := 0) (tp := 23) clX6 (Nat.le_of_ble_eq_true rfl) dX6_begin_63 kF_X6_11 rfl rfl rfl ?_
        refine A_iconst (pc := 66) (v := (0 : Int32)) dX6_begin_66 (by decide) ?_
        refine A_callS (pc := 67) (M' := mJ7_fill_53178) (As := [vr 23 (some i0), vi (0 : Int32)]) (st := []) (0, 0) (fun r2 => []) (fun r2 => r2) (a_J7_fill_53178 i0 (0 : Int32) (wI (wI h 6 i0 1 x1) 6 i0 2 (0 : Int32))) kD_J7_fill_53178 kM_X6_24 kT_J7_fill_53178 kN_J7 ⟨(Nat.le_of_ble_eq_true rfl), (Nat.le_of_ble_eq_true rfl)⟩ dX6_begin_67 rfl rfl (Nat.le_of_ble_eq_true rfl) (Nat.le_of_ble_eq_true rfl) (Nat.le_of_ble_eq_true rfl) (fun _ => rfl) (fun _ => rfl) (fun r2 => ?_)
        refine A_aload_n (pc := 70) (i := 0) dX6_begin_70 rfl rfl ?_
        refine A_getI (pc := 71) (k := 2) clX6 (Nat.le_of_ble_eq_true rfl) dX6_begin_71 kF_X6_21 rfl ?_
        exact A_retI rfl dX6_begin_74
    · refine A_ldc (pc := 41) (v := (-1000001 : Int32)) dX6_begin_41 kK_X6_19 ?_
      exact A_retI rfl dX6_begin_43
  · refine A_ldc (pc := 29) (v := (-1000007 : Int32)) dX6_begin_29 kK_X6_20 ?_
    exact A_retI rfl dX6_begin_31
def f_X6_begin (i0 : Nat) (x1 : Int32) (x2 : Int32) (h : Hp) : Option (Int32 × Hp) := (if x1 = 0 then (fJ_X6_begin_25 i0 x1 x2 h) else (if x1 = (8 : Int32) then (fJ_X6_begin_25 i0 x1 x2 h) else (if x1 = (16 : Int32) then (fJ_X6_begin_25 i0 x1 x2 h) else (if x1 = (32 : Int32) then (fJ_X6_begin_25 i0 x1 x2 h) else (some ((-1000001 : Int32), h))))))
set_option maxRecDepth 100000 in
set_option maxHeartbeats 4000000 in
theorem a_X6_begin (i0 : Nat) (x1 : Int32) (x2 : Int32) (h : Hp) : CtA eI mX6_begin U0 U0 [vr 6 (some i0), vi x1, vi x2] h (f_X6_begin i0 x1 x2 h) := by
  refine Ct.of (ls := [some (vr 6 (some i0)), some (vi x1), some (vi x2)]) (n := 0) (by decide +kernel) rfl rfl rfl ?_
  unfold f_X6_begin
  refine A_iload_n (pc := 0) (i := 1) dX6_begin_0 rfl rfl ?_
  refine A_if_eq (pc := 1) (tgt := 25) dX6_begin_1 (by decide) ?_ ?_
  · exact Aw.weak (ls' := [some (vr 6 (some i0)), some (vi x1), some (vi x2)]) ⟨rfl, ⟨rfl, ⟨rfl, trivial⟩⟩⟩ (aJ_X6_begin_25 i0 x1 x2 h)
  · refine A_iload_n (pc := 4) (i := 1) dX6_begin_4 rfl rfl ?_
    refine A_bipush (pc := 5) (v := (8 : Int32)) dX6_begin_5 (by decide) ?_
    refine A_icmp_eq (pc := 7) (tgt := 25) dX6_begin_7 (by decide) ?_ ?_
    · exact Aw.weak (ls' := [some (vr 6 (some i0)), some (vi x1), some (vi x2)]) ⟨rfl, ⟨rfl, ⟨rfl, trivial⟩⟩⟩ (aJ_X6_begin_25 i0 x1 x2 h)
    · refine A_iload_n (pc := 10) (i := 1) dX6_begin_10 rfl rfl ?_
      refine A_bipush (pc := 11) (v := (16 : Int32)) dX6_begin_11 (by decide) ?_
      refine A_icmp_eq (pc := 13) (tgt := 25) dX6_begin_13 (by decide) ?_ ?_
      · exact Aw.weak (ls' := [some (vr 6 (some i0)), some (vi x1), some (vi x2)]) ⟨rfl, ⟨rfl, ⟨rfl, trivial⟩⟩⟩ (aJ_X6_begin_25 i0 x1 x2 h)
      · refine A_iload_n (pc := 16) (i := 1) dX6_begin_16 rfl rfl ?_
        refine A_bipush (pc := 17) (v := (32 : Int32)) dX6_begin_17 (by decide) ?_
        refine A_icmp_eq (pc := 19) (tgt := 25) dX6_begin_19 (by decide) ?_ ?_
        · exact Aw.weak (ls' := [some (vr 6 (some i0)), some (vi x1), some (vi x2)]) ⟨rfl, ⟨rfl, ⟨rfl, trivial⟩⟩⟩ (aJ_X6_begin_25 i0 x1 x2 h)
        · refine A_ldc (pc := 22) (v := (-1000001 : Int32)) dX6_begin_22 kK_X6_19 ?_
          exact A_retI rfl dX6_begin_24

abbrev mX6_hasNumbers : MD := (yX6_hasNumbers, cX6_hasNumbers, 3, (some .boolean), { frames := 0, cells := 0, slots := 0, locals := 0 }, none)
theorem kD_X6_hasNumbers : CodeIn mX6_hasNumbers 2 := ⟨kC_X6_hasNumbers, by decide +kernel⟩
def f_X6_hasNumbers (i0 : Nat) (x1 : Int32) (x2 : Int32) (h : Hp) : Option Bool := (if x1 < 0 then (some false) else (if x2 < 0 then (some false) else (if (gI h 6 i0 2) < x1 then (some false) else (if ((gI h 6 i0 2) - x1) < x2 then (some false) else (some true)))))
set_option maxRecDepth 100000 in
set_option maxHeartbeats 4000000 in
theorem a_X6_hasNumbers (i0 : Nat) (x1 : Int32) (x2 : Int32) (h : Hp) : CtA (eBr h) mX6_hasNumbers U0 U0 [vr 6 (some i0), vi x1, vi x2] h (f_X6_hasNumbers i0 x1 x2 h) := by
  refine Ct.of (ls := [some (vr 6 (some i0)), some (vi x1), some (vi x2)]) (n := 0) (by decide +kernel) rfl rfl rfl ?_
  unfold f_X6_hasNumbers
  refine A_iload_n (pc := 0) (i := 1) dX6_hasNumbers_0 rfl rfl ?_
  refine A_if_lt (pc := 1) (tgt := 30) dX6_hasNumbers_1 (by decide) ?_ ?_
  · refine A_iconst (pc := 30) (v := (0 : Int32)) dX6_hasNumbers_30 (by decide) ?_
    exact A_retBr rfl rfl dX6_hasNumbers_31
  · refine A_iload_n (pc := 4) (i := 2) dX6_hasNumbers_4 rfl rfl ?_
    refine A_if_lt (pc := 5) (tgt := 30) dX6_hasNumbers_5 (by decide) ?_ ?_
    · refine A_iconst (pc := 30) (v := (0 : Int32)) dX6_hasNumbers_30 (by decide) ?_
      exact A_retBr rfl rfl dX6_hasNumbers_31
    · refine A_iload_n (pc := 8) (i := 1) dX6_hasNumbers_8 rfl rfl ?_
      refine A_aload_n (pc := 9) (i := 0) dX6_hasNumbers_9 rfl rfl ?_
      refine A_getI (pc := 10) (k := 2) clX6 (Nat.le_of_ble_eq_true rfl) dX6_hasNumbers_10 kF_X6_21 rfl ?_
      refine A_icmp_gt (pc := 13) (tgt := 30) dX6_hasNumbers_13 (by decide) ?_ ?_
      · refine A_iconst (pc := 30) (v := (0 : Int32)) dX6_hasNumbers_30 (by decide) ?_
        exact A_retBr rfl rfl dX6_hasNumbers_31
      · refine A_iload_n (pc := 16) (i := 2) dX6_hasNumbers_16 rfl rfl ?_
        refine A_aload_n (pc := 17) (i := 0) dX6_hasNumbers_17 rfl rfl ?_
        refine A_getI (pc := 18) (k := 2) clX6 (Nat.le_of_ble_eq_true rfl) dX6_hasNumbers_18 kF_X6_21 rfl ?_
        refine A_iload_n (pc := 21) (i := 1) dX6_hasNumbers_21 rfl rfl ?_
        refine A_isub (pc := 22) dX6_hasNumbers_22 ?_
        refine A_icmp_gt (pc := 23) (tgt := 30) dX6_hasNumbers_23 (by decide) ?_ ?_
        · refine A_iconst (pc := 30) (v := (0 : Int32)) dX6_hasNumbers_30 (by decide) ?_
          exact A_retBr rfl rfl dX6_hasNumbers_31
        · refine A_iconst (pc := 26) (v := (1 : Int32)) dX6_hasNumbers_26 (by decide) ?_
          refine A_goto (pc := 27) (tgt := 31) dX6_hasNumbers_27 (by decide) ?_
          exact A_retBr rfl rfl dX6_hasNumbers_31

abbrev mX6_numberAt : MD := (yX6_numberAt, cX6_numberAt, 2, (some .int), { frames := 0, cells := 0, slots := 0, locals := 0 }, none)
theorem kD_X6_numberAt : CodeIn mX6_numberAt 1 := ⟨kC_X6_numberAt, by decide +kernel⟩
def f_X6_numberAt (i0 : Nat) (x1 : Int32) (h : Hp) : Option Int32 := (if x1 < 0 then (some (-1 : Int32)) else (if (gI h 6 i0 2) ≤ x1 then (some (-1 : Int32)) else (if (8 : Int32) ≤ x1 then (some (-1 : Int32)) else (if 0 ≤ x1 ∧ x1 < 8 then (some (gI h 23 i0 (Int32.toNatClampNeg x1))) else none))))
set_option maxRecDepth 100000 in
set_option maxHeartbeats 4000000 in
theorem a_X6_numberAt (i0 : Nat) (x1 : Int32) (h : Hp) : CtA (eIr h) mX6_numberAt U0 U0 [vr 6 (some i0), vi x1] h (f_X6_numberAt i0 x1 h) := by
  refine Ct.of (ls := [some (vr 6 (some i0)), some (vi x1)]) (n := 0) (by decide +kernel) rfl rfl rfl ?_
  unfold f_X6_numberAt
  refine A_iload_n (pc := 0) (i := 1) dX6_numberAt_0 rfl rfl ?_
  refine A_if_lt (pc := 1) (tgt := 30) dX6_numberAt_1 (by decide) ?_ ?_
  · refine A_iconst (pc := 30) (v := (-1 : Int32)) dX6_numberAt_30 (by decide) ?_
    exact A_retIr rfl dX6_numberAt_31
  · refine A_iload_n (pc := 4) (i := 1) dX6_numberAt_4 rfl rfl ?_
    refine A_aload_n (pc := 5) (i := 0) dX6_numberAt_5 rfl rfl ?_
    refine A_getI (pc := 6) (k := 2) clX6 (Nat.le_of_ble_eq_true rfl) dX6_numberAt_6 kF_X6_21 rfl ?_
    refine A_icmp_ge (pc := 9) (tgt := 30) dX6_numberAt_9 (by decide) ?_ ?_
    · refine A_iconst (pc := 30) (v := (-1 : Int32)) dX6_numberAt_30 (by decide) ?_
      exact A_retIr rfl dX6_numberAt_31
    · refine A_iload_n (pc := 12) (i := 1) dX6_numberAt_12 rfl rfl ?_
      refine A_aload_n (pc := 13) (i := 0) dX6_numberAt_13 rfl rfl ?_
      refine A_getS (pc := 14) (k := 0) (tp := 23) clX6 (Nat.le_of_ble_eq_true rfl) dX6_numberAt_14 kF_X6_11 rfl rfl rfl ?_
      refine A_alen (pc := 17) (v := (8 : Int32)) (by decide) (by decide) (by decide) rfl dX6_numberAt_17 ?_
      refine A_icmp_ge (pc := 18) (tgt := 30) dX6_numberAt_18 (by decide) ?_ ?_
      · refine A_iconst (pc := 30) (v := (-1 : Int32)) dX6_numberAt_30 (by decide) ?_
        exact A_retIr rfl dX6_numberAt_31
      · refine A_aload_n (pc := 21) (i := 0) dX6_numberAt_21 rfl rfl ?_
        refine A_getS (pc := 22) (k := 0) (tp := 23) clX6 (Nat.le_of_ble_eq_true rfl) dX6_numberAt_22 kF_X6_11 rfl rfl rfl ?_
        refine A_iload_n (pc := 25) (i := 1) dX6_numberAt_25 rfl rfl ?_
        refine A_iaload (pc := 26) (n := 8) (by decide) (by decide) rfl dX6_numberAt_26 (by decide) ?_
        refine A_goto (pc := 27) (tgt := 31) dX6_numberAt_27 (by decide) ?_
        exact A_retIr rfl dX6_numberAt_31

abbrev mX6_cutToWidth : MD := (yX6_cutToWidth, cX6_cutToWidth, 2, (some .int), { frames := 0, cells := 0, slots := 0, locals := 0 }, none)
theorem kD_X6_cutToWidth : CodeIn mX6_cutToWidth 1 := ⟨kC_X6_cutToWidth, by decide +kernel⟩
def f_X6_cutToWidth (i0 : Nat) (x1 : Int32) (h : Hp) : Option Int32 := (lif (gI h 6 i0 1) [((8 : Int32), (some (Int8.toInt32 (Int32.toInt8 x1)))), ((16 : Int32), (some (Int16.toInt32 (Int32.toInt16 x1))))] (some x1))
set_option maxRecDepth 100000 in
set_option maxHeartbeats 4000000 in
theorem a_X6_cutToWidth (i0 : Nat) (x1 : Int32) (h : Hp) : CtA (eIr h) mX6_cutToWidth U0 U0 [vr 6 (some i0), vi x1] h (f_X6_cutToWidth i0 x1 h) := by
  refine Ct.of (ls := [some (vr 6 (some i0)), some (vi x1)]) (n := 0) (by decide +kernel) rfl rfl rfl ?_
  unfold f_X6_cutToWidth
  refine A_aload_n (pc := 0) (i := 0) dX6_cutToWidth_0 rfl rfl ?_
  refine A_getI (pc := 1) (k := 1) clX6 (Nat.le_of_ble_eq_true rfl) dX6_cutToWidth_1 kF_X6_15 rfl ?_
  refine A_lookup (pc := 4) (tgt := 38) dX6_cutToWidth_4 (by decide) (by decide) ?_ (LwL_c 32 (by decide) (by decide) ?_ (LwL_c 35 (by decide) (by decide) ?_ LwL_n))
  · refine A_iload_n (pc := 38) (i := 1) dX6_cutToWidth_38 rfl rfl ?_
    exact A_retIr rfl dX6_cutToWidth_39
  · refine A_iload_n (pc := 32) (i := 1) dX6_cutToWidth_32 rfl rfl ?_
    refine A_i2b (pc := 33) dX6_cutToWidth_33 ?_
    exact A_retIr rfl dX6_cutToWidth_34
  · refine A_iload_n (pc := 35) (i := 1) dX6_cutToWidth_35 rfl rfl ?_
    refine A_i2s (pc := 36) dX6_cutToWidth_36 ?_
    exact A_retIr rfl dX6_cutToWidth_37

abbrev mX6_replace : MD := (yX6_replace, cX6_replace, 4, (some .int), { frames := 1, cells := 0, slots := 0, locals := 21 }, none)
theorem kD_X6_replace : CodeIn mX6_replace 2 := ⟨kC_X6_replace, by decide +kernel⟩
def f_X6_replace (i0 : Nat) (x1 : Int32) (x2 : Int32) (h : Hp) : Option (Int32 × Hp) := ((f_X6_numberAt i0 x1 h).bind fun r1 => (if x1 < 0 then (some (r1, h)) else (if (8 : Int32) ≤ x1 then (some (r1, h)) else ((f_X6_cutToWidth i0 x2 h).bind fun r2 => (if 0 ≤ x1 ∧ x1 < 8 then (some (r1, (wI h 23 i0 (Int32.toNatClampNeg x1) r2))) else none)))))
set_option maxRecDepth 100000 in
set_option maxHeartbeats 4000000 in
theorem a_X6_replace (i0 : Nat) (x1 : Int32) (x2 : Int32) (h : Hp) : CtA eI mX6_replace U0 U0 [vr 6 (some i0), vi x1, vi x2] h (f_X6_replace i0 x1 x2 h) := by
  refine Ct.of (ls := [some (vr 6 (some i0)), some (vi x1), some (vi x2), none]) (n := 1) (by decide +kernel) rfl rfl rfl ?_
  unfold f_X6_replace
  refine A_aload_n (pc := 0) (i := 0) dX6_replace_0 rfl rfl ?_
  refine A_iload_n (pc := 1) (i := 1) dX6_replace_1 rfl rfl ?_
  refine A_callV (pc := 2) (M' := mX6_numberAt) (As := [vi x1]) (st := []) (0, 0) (fun r1 => [vi r1]) (fun _ => h) (a_X6_numberAt i0 x1 h) kD_X6_numberAt kM_X6_30 kI_X6_numberAt kS_X6_numberAt kN_X6 ⟨(Nat.le_of_ble_eq_true rfl), (Nat.le_of_ble_eq_true rfl)⟩ dX6_replace_2 rfl rfl rfl (by decide) rfl (Nat.le_of_ble_eq_true rfl) (Nat.le_of_ble_eq_true rfl) (Nat.le_of_ble_eq_true rfl) (fun _ => rfl) (fun _ => rfl) (fun r1 => ?_)
  refine A_istore_n (pc := 5) (i := 3) (ls2 := [some (vr 6 (some i0)), some (vi x1), some (vi x2), some (vi r1)]) dX6_replace_5 rfl (Nat.le_of_ble_eq_true rfl) rfl ?_
  refine A_iload_n (pc := 6) (i := 1) dX6_replace_6 rfl rfl ?_
  refine A_if_lt (pc := 7) (tgt := 30) dX6_replace_7 (by decide) ?_ ?_
  · refine A_iload_n (pc := 30) (i := 3) dX6_replace_30 rfl rfl ?_
    exact A_retI rfl dX6_replace_31
  · refine A_iload_n (pc := 10) (i := 1) dX6_replace_10 rfl rfl ?_
    refine A_aload_n (pc := 11) (i := 0) dX6_replace_11 rfl rfl ?_
    refine A_getS (pc := 12) (k := 0) (tp := 23) clX6 (Nat.le_of_ble_eq_true rfl) dX6_replace_12 kF_X6_11 rfl rfl rfl ?_
    refine A_alen (pc := 15) (v := (8 : Int32)) (by decide) (by decide) (by decide) rfl dX6_replace_15 ?_
    refine A_icmp_ge (pc := 16) (tgt := 30) dX6_replace_16 (by decide) ?_ ?_
    · refine A_iload_n (pc := 30) (i := 3) dX6_replace_30 rfl rfl ?_
      exact A_retI rfl dX6_replace_31
    · refine A_aload_n (pc := 19) (i := 0) dX6_replace_19 rfl rfl ?_
      refine A_getS (pc := 20) (k := 0) (tp := 23) clX6 (Nat.le_of_ble_eq_true rfl) dX6_replace_20 kF_X6_11 rfl rfl rfl ?_
      refine A_iload_n (pc := 23) (i := 1) dX6_replace_23 rfl rfl ?_
      refine A_aload_n (pc := 24) (i := 0) dX6_replace_24 rfl rfl ?_
      refine A_iload_n (pc := 25) (i := 2) dX6_replace_25 rfl rfl ?_
      refine A_callV (pc := 26) (M' := mX6_cutToWidth) (As := [vi x2]) (st := [vi x1, vr 23 (some i0)]) (0, 0) (fun r2 => [vi r2, vi x1, vr 23 (some i0)]) (fun _ => h) (a_X6_cutToWidth i0 x2 h) kD_X6_cutToWidth kM_X6_34 kI_X6_cutToWidth kS_X6_cutToWidth kN_X6 ⟨(Nat.le_of_ble_eq_true rfl), (Nat.le_of_ble_eq_true rfl)⟩ dX6_replace_26 rfl rfl rfl (by decide) rfl (Nat.le_of_ble_eq_true rfl) (Nat.le_of_ble_eq_true rfl) (Nat.le_of_ble_eq_true rfl) (fun _ => rfl) (fun _ => rfl) (fun r2 => ?_)
      refine A_iastore (pc := 29) (n := 8) (by decide) (by decide) rfl dX6_replace_29 (by decide) ?_
      refine A_iload_n (pc := 30) (i := 3) dX6_replace_30 rfl rfl ?_
      exact A_retI rfl dX6_replace_31

abbrev mX7_init : MD := (yX7_init, cX7_init, 2, none, { frames := 2, cells := 25, slots := 716, locals := 40 }, none)
theorem kD_X7_init : CodeIn mX7_init 0 := ⟨kC_X7_init, by decide +kernel⟩
def f_X7_init (h : Hp) : Option Hp := (if gN h 5 = 0 then ((f_X5_init (wN h 5)).bind fun r1 => (if gN r1 2 = 0 then ((f_X2_init (wN r1 2)).bind fun r2 => (if gN r2 4 = 0 then ((f_X4_init (wN r2 4)).bind fun r3 => (if gN r3 3 = 0 then ((f_X3_init (wN r3 3)).bind fun r4 => (if gN r4 22 = 0 then (if gN (wN r4 22) 6 = 0 then ((f_X6_init 0 (wN (wN r4 22) 6)).bind fun r5 => (if gN (wP r5 22 0 (Int32.toNatClampNeg (0 : Int32)) (some 0)) 6 = 1 then ((f_X6_init 1 (wN (wP r5 22 0 (Int32.toNatClampNeg (0 : Int32)) (some 0)) 6)).bind fun r6 => (if gN (wP r6 22 0 (Int32.toNatClampNeg (1 : Int32)) (some 1)) 6 = 2 then ((f_X6_init 2 (wN (wP r6 22 0 (Int32.toNatClampNeg (1 : Int32)) (some 1)) 6)).bind fun r7 => (if gN (wP r7 22 0 (Int32.toNatClampNeg (2 : Int32)) (some 2)) 6 = 3 then ((f_X6_init 3 (wN (wP r7 22 0 (Int32.toNatClampNeg (2 : Int32)) (some 2)) 6)).bind fun r8 => (some (wP r8 22 0 (Int32.toNatClampNeg (3 : Int32)) (some 3)))) else none)) else none)) else none)) else none) else none)) else none)) else none)) else none)) else none)
set_option maxRecDepth 100000 in
set_option maxHeartbeats 4000000 in
theorem a_X7_init (U : US) (h : Hp) : CtA eV mX7_init U (uS (uN (uS (uN (uS (uN (uS (uN (uS (uS (uS (uS (uS (uS (uN (uS (uS (uS (uS (uS (uS (uS (uN (uS (uN (uS (uS (uS (uN U 5 0) 5 0 0) 5 0 1) 7 0 0) 2 0) 7 0 1) 4 0) 4 0 0) 4 0 1) 4 0 2) 4 0 3) 4 0 4) 4 0 5) 7 0 2) 3 0) 3 0 0) 3 0 1) 3 0 2) 3 0 3) 7 0 3) 7 0 4) 6 0) 6 0 0) 6 1) 6 1 0) 6 2) 6 2 0) 6 3) 6 3 0) [vr 7 (some 0)] h (f_X7_init h) := by
  refine Ct.of (ls := [some (vr 7 (some 0)), none]) (n := 1) (by decide +kernel) rfl rfl rfl ?_
  unfold f_X7_init
  refine A_aload_n (pc := 0) (i := 0) dX7_init_0 rfl rfl ?_
  refine A_objInit (pc := 1) dX7_init_1 kM_X7_1 kI_obj kC_obj (Nat.le_of_ble_eq_true rfl) (Nat.le_of_ble_eq_true rfl) ?_
  refine A_aload_n (pc := 4) (i := 0) dX7_init_4 rfl rfl ?_
  refine A_newS (pc := 5) (i := 0) (24, 710) clX5 dX7_init_5 kL_X7_7 kZ_X5 kN_X5 hdX5 (Nat.le_of_ble_eq_true rfl) (Nat.le_of_ble_eq_true rfl) ?_
  refine A_dup (pc := 8) dX7_init_8 (fun _ => cv_catr _ _) ?_
  refine A_callI (pc := 9) (M' := mX5_init) (As := []) (st := [vr 5 (some 0), vr 7 (some 0)]) (22, 698) (fun r1 => [vr 5 (some 0), vr 7 (some 0)]) (fun r1 => r1) (a_X5_init (uN U 5 0) (wN h 5)) kD_X5_init rfl rfl kM_X7_9 kI_X5_init kN_X5 ⟨(Nat.le_of_ble_eq_true rfl), (Nat.le_of_ble_eq_true rfl)⟩ dX7_init_9 rfl rfl (Nat.le_of_ble_eq_true rfl) (Nat.le_of_ble_eq_true rfl) (Nat.le_of_ble_eq_true rfl) (fun _ => rfl) (fun _ => rfl) (fun r1 => ?_)
  refine A_putS (pc := 12) (k := 0) (tp := 5) clX7 (Nat.le_of_ble_eq_true rfl) dX7_init_12 kF_X7_10 rfl rfl (by decide) (Or.inr ⟨rfl, rfl⟩) (fun _ => ⟨rfl, rfl⟩) ?_
  refine A_aload_n (pc := 15) (i := 0) dX7_init_15 rfl rfl ?_
  refine A_newS (pc := 16) (i := 0) (21, 696) clX2 dX7_init_16 kL_X7_16 kZ_X2 kN_X2 hdX2 (Nat.le_of_ble_eq_true rfl) (Nat.le_of_ble_eq_true rfl) ?_
  refine A_dup (pc := 19) dX7_init_19 (fun _ => cv_catr _ _) ?_
  refine A_callI (pc := 20) (M' := mX2_init) (As := []) (st := [vr 2 (some 0), vr 7 (some 0)]) (21, 696) (fun r2 => [vr 2 (some 0), vr 7 (some 0)]) (fun r2 => r2) (a_X2_init (uN (uS (uS (uS (uN U 5 0) 5 0 0) 5 0 1) 7 0 0) 2 0) (wN r1 2)) kD_X2_init rfl rfl kM_X7_18 kI_X2_init kN_X2 ⟨(Nat.le_of_ble_eq_true rfl), (Nat.le_of_ble_eq_true rfl)⟩ dX7_init_20 rfl rfl (Nat.le_of_ble_eq_true rfl) (Nat.le_of_ble_eq_true rfl) (Nat.le_of_ble_eq_true rfl) (fun _ => rfl) (fun _ => rfl) (fun r2 => ?_)
  refine A_putS (pc := 23) (k := 1) (tp := 2) clX7 (Nat.le_of_ble_eq_true rfl) dX7_init_23 kF_X7_19 rfl rfl (by decide) (Or.inr ⟨rfl, rfl⟩) (fun _ => ⟨rfl, rfl⟩) ?_
  refine A_aload_n (pc := 26) (i := 0) dX7_init_26 rfl rfl ?_
  refine A_newS (pc := 27) (i := 0) (20, 688) clX4 dX7_init_27 kL_X7_23 kZ_X4 kN_X4 hdX4 (Nat.le_of_ble_eq_true rfl) (Nat.le_of_ble_eq_true rfl) ?_
  refine A_dup (pc := 30) dX7_init_30 (fun _ => cv_catr _ _) ?_
  refine A_callI (pc := 31) (M' := mX4_init) (As := []) (st := [vr 4 (some 0), vr 7 (some 0)]) (14, 158) (fun r3 => [vr 4 (some 0), vr 7 (some 0)]) (fun r3 => r3) (a_X4_init (uN (uS (uN (uS (uS (uS (uN U 5 0) 5 0 0) 5 0 1) 7 0 0) 2 0) 7 0 1) 4 0) (wN r2 4)) kD_X4_init rfl rfl kM_X7_25 kI_X4_init kN_X4 ⟨(Nat.le_of_ble_eq_true rfl), (Nat.le_of_ble_eq_true rfl)⟩ dX7_init_31 rfl rfl (Nat.le_of_ble_eq_true rfl) (Nat.le_of_ble_eq_true rfl) (Nat.le_of_ble_eq_true rfl) (fun _ => rfl) (fun _ => rfl) (fun r3 => ?_)
  refine A_putS (pc := 34) (k := 2) (tp := 4) clX7 (Nat.le_of_ble_eq_true rfl) dX7_init_34 kF_X7_26 rfl rfl (by decide) (Or.inr ⟨rfl, rfl⟩) (fun _ => ⟨rfl, rfl⟩) ?_
  refine A_aload_n (pc := 37) (i := 0) dX7_init_37 rfl rfl ?_
  refine A_newS (pc := 38) (i := 0) (13, 152) clX3 dX7_init_38 kL_X7_30 kZ_X3 kN_X3 hdX3 (Nat.le_of_ble_eq_true rfl) (Nat.le_of_ble_eq_true rfl) ?_
  refine A_dup (pc := 41) dX7_init_41 (fun _ => cv_catr _ _) ?_
  refine A_callI (pc := 42) (M' := mX3_init) (As := []) (st := [vr 3 (some 0), vr 7 (some 0)]) (9, 48) (fun r4 => [vr 3 (some 0), vr 7 (some 0)]) (fun r4 => r4) (a_X3_init (uN (uS (uS (uS (uS (uS (uS (uS (uN (uS (uN (uS (uS (uS (uN U 5 0) 5 0 0) 5 0 1) 7 0 0) 2 0) 7 0 1) 4 0) 4 0 0) 4 0 1) 4 0 2) 4 0 3) 4 0 4) 4 0 5) 7 0 2) 3 0) (wN r3 3)) kD_X3_init rfl rfl kM_X7_32 kI_X3_init kN_X3 ⟨(Nat.le_of_ble_eq_true rfl), (Nat.le_of_ble_eq_true rfl)⟩ dX7_init_42 rfl rfl (Nat.le_of_ble_eq_true rfl) (Nat.le_of_ble_eq_true rfl) (Nat.le_of_ble_eq_true rfl) (fun _ => rfl) (fun _ => rfl) (fun r4 => ?_)
  refine A_putS (pc := 45) (k := 3) (tp := 3) clX7 (Nat.le_of_ble_eq_true rfl) dX7_init_45 kF_X7_33 rfl rfl (by decide) (Or.inr ⟨rfl, rfl⟩) (fun _ => ⟨rfl, rfl⟩) ?_
  refine A_aload_n (pc := 48) (i := 0) dX7_init_48 rfl rfl ?_
  refine A_iconst (pc := 49) (v := (4 : Int32)) dX7_init_49 (by decide) ?_
  refine A_newQ (pc := 50) (t := 22) (i := 0) (C := RX6) (8, 44) (by decide) (by decide) (by decide) dX7_init_50 kL_X7_37 (by simp) rfl (by decide) (by decide) (by decide) (fun _ => rfl) (Nat.le_of_ble_eq_true rfl) (Nat.le_of_ble_eq_true rfl) ?_
  refine A_putS (pc := 53) (k := 4) (tp := 22) clX7 (Nat.le_of_ble_eq_true rfl) dX7_init_53 kF_X7_39 rfl rfl (by decide) (Or.inr ⟨rfl, rfl⟩) (fun _ => ⟨rfl, rfl⟩) ?_
  refine A_iconst (pc := 56) (v := (0 : Int32)) dX7_init_56 (by decide) ?_
  refine A_istore_n (pc := 57) (i := 1) (ls2 := [some (vr 7 (some 0)), some (vi (0 : Int32))]) dX7_init_57 rfl (Nat.le_of_ble_eq_true rfl) rfl ?_
  refine A_iload_n (pc := 58) (i := 1) dX7_init_58 rfl rfl ?_
  refine A_aload_n (pc := 59) (i := 0) dX7_init_59 rfl rfl ?_
  refine A_getS (pc := 60) (k := 4) (tp := 22) clX7 (Nat.le_of_ble_eq_true rfl) dX7_init_60 kF_X7_39 rfl rfl rfl ?_
  refine A_alen (pc := 63) (v := (4 : Int32)) (by decide) (by decide) (by decide) rfl dX7_init_63 ?_
  refine Aw.ifF (q := (4 : Int32) ≤ (0 : Int32)) (X := none) (by decide) ?_
  refine A_icmp_ge (pc := 64) (tgt := 86) dX7_init_64 (by decide) Aw.none ?_
  refine A_aload_n (pc := 67) (i := 0) dX7_init_67 rfl rfl ?_
  refine A_getS (pc := 68) (k := 4) (tp := 22) clX7 (Nat.le_of_ble_eq_true rfl) dX7_init_68 kF_X7_39 rfl rfl rfl ?_
  refine A_iload_n (pc := 71) (i := 1) dX7_init_71 rfl rfl ?_
  refine A_newS (pc := 72) (i := 0) (7, 41) clX6 dX7_init_72 kL_X7_37 kZ_X6 kN_X6 hdX6 (Nat.le_of_ble_eq_true rfl) (Nat.le_of_ble_eq_true rfl) ?_
  refine A_dup (pc := 75) dX7_init_75 (fun _ => cv_catr _ _) ?_
  refine A_callI (pc := 76) (M' := mX6_init) (As := []) (st := [vr 6 (some 0), vi (0 : Int32), vr 22 (some 0)]) (6, 33) (fun r5 => [vr 6 (some 0), vi (0 : Int32), vr 22 (some 0)]) (fun r5 => r5) (a_X6_init (uN (uS (uS (uS (uS (uS (uS (uN (uS (uS (uS (uS (uS (uS (uS (uN (uS (uN (uS (uS (uS (uN U 5 0) 5 0 0) 5 0 1) 7 0 0) 2 0) 7 0 1) 4 0) 4 0 0) 4 0 1) 4 0 2) 4 0 3) 4 0 4) 4 0 5) 7 0 2) 3 0) 3 0 0) 3 0 1) 3 0 2) 3 0 3) 7 0 3) 7 0 4) 6 0) 0 (wN (wN r4 22) 6)) kD_X6_init rfl rfl kM_X7_43 kI_X6_init kN_X6 ⟨(Nat.le_of_ble_eq_true rfl), (Nat.le_of_ble_eq_true rfl)⟩ dX7_init_76 rfl rfl (Nat.le_of_ble_eq_true rfl) (Nat.le_of_ble_eq_true rfl) (Nat.le_of_ble_eq_true rfl) (fun _ => rfl) (fun _ => rfl) (fun r5 => ?_)
  refine Aw.ifT (q := 0 ≤ (0 : Int32) ∧ (0 : Int32) < 4) (Y := none) (by decide) ?_
  refine A_aastore (pc := 79) (n := 4) (te := 6) (by decide) (by decide) (by decide) rfl (by decide) rfl (fun _ => rfl) dX7_init_79 (by decide) ?_
  refine A_iinc (pc := 80) (i := 1) (v := (1 : Int32)) (ls2 := [some (vr 7 (some 0)), some (vi (1 : Int32))]) dX7_init_80 rfl (by decide) (Nat.le_of_ble_eq_true rfl) rfl ?_
  refine A_goto (pc := 83) (tgt := 58) dX7_init_83 (by decide) ?_
  refine A_iload_n (pc := 58) (i := 1) dX7_init_58 rfl rfl ?_
  refine A_aload_n (pc := 59) (i := 0) dX7_init_59 rfl rfl ?_
  refine A_getS (pc := 60) (k := 4) (tp := 22) clX7 (Nat.le_of_ble_eq_true rfl) dX7_init_60 kF_X7_39 rfl rfl rfl ?_
  refine A_alen (pc := 63) (v := (4 : Int32)) (by decide) (by decide) (by decide) rfl dX7_init_63 ?_
  refine Aw.ifF (q := (4 : Int32) ≤ (1 : Int32)) (X := none) (by decide) ?_
  refine A_icmp_ge (pc := 64) (tgt := 86) dX7_init_64 (by decide) Aw.none ?_
  refine A_aload_n (pc := 67) (i := 0) dX7_init_67 rfl rfl ?_
  refine A_getS (pc := 68) (k := 4) (tp := 22) clX7 (Nat.le_of_ble_eq_true rfl) dX7_init_68 kF_X7_39 rfl rfl rfl ?_
  refine A_iload_n (pc := 71) (i := 1) dX7_init_71 rfl rfl ?_
  refine A_newS (pc := 72) (i := 1) (5, 30) clX6 dX7_init_72 kL_X7_37 kZ_X6 kN_X6 hdX6 (Nat.le_of_ble_eq_true rfl) (Nat.le_of_ble_eq_true rfl) ?_
  refine A_dup (pc := 75) dX7_init_75 (fun _ => cv_catr _ _) ?_
  refine A_callI (pc := 76) (M' := mX6_init) (As := []) (st := [vr 6 (some 1), vi (1 : Int32), vr 22 (some 0)]) (4, 22) (fun r6 => [vr 6 (some 1), vi (1 : Int32), vr 22 (some 0)]) (fun r6 => r6) (a_X6_init (uN (uS (uN (uS (uS (uS (uS (uS (uS (uN (uS (uS (uS (uS (uS (uS (uS (uN (uS (uN (uS (uS (uS (uN U 5 0) 5 0 0) 5 0 1) 7 0 0) 2 0) 7 0 1) 4 0) 4 0 0) 4 0 1) 4 0 2) 4 0 3) 4 0 4) 4 0 5) 7 0 2) 3 0) 3 0 0) 3 0 1) 3 0 2) 3 0 3) 7 0 3) 7 0 4) 6 0) 6 0 0) 6 1) 1 (wN (wP r5 22 0 (Int32.toNatClampNeg (0 : Int32)) (some 0)) 6)) kD_X6_init rfl rfl kM_X7_43 kI_X6_init kN_X6 ⟨(Nat.le_of_ble_eq_true rfl), (Nat.le_of_ble_eq_true rfl)⟩ dX7_init_76 rfl rfl (Nat.le_of_ble_eq_true rfl) (Nat.le_of_ble_eq_true rfl) (Nat.le_of_ble_eq_true rfl) (fun _ => rfl) (fun _ => rfl) (fun r6 => ?_)
  refine Aw.ifT (q := 0 ≤ (1 : Int32) ∧ (1 : Int32) < 4) (Y := none) (by decide) ?_
  refine A_aastore (pc := 79) (n := 4) (te := 6) (by decide) (by decide) (by decide) rfl (by decide) rfl (fun _ => rfl) dX7_init_79 (by decide) ?_
  refine A_iinc (pc := 80) (i := 1) (v := (2 : Int32)) (ls2 := [some (vr 7 (some 0)), some (vi (2 : Int32))]) dX7_init_80 rfl (by decide) (Nat.le_of_ble_eq_true rfl) rfl ?_
  refine A_goto (pc := 83) (tgt := 58) dX7_init_83 (by decide) ?_
  refine A_iload_n (pc := 58) (i := 1) dX7_init_58 rfl rfl ?_
  refine A_aload_n (pc := 59) (i := 0) dX7_init_59 rfl rfl ?_
  refine A_getS (pc := 60) (k := 4) (tp := 22) clX7 (Nat.le_of_ble_eq_true rfl) dX7_init_60 kF_X7_39 rfl rfl rfl ?_
  refine A_alen (pc := 63) (v := (4 : Int32)) (by decide) (by decide) (by decide) rfl dX7_init_63 ?_
  refine Aw.ifF (q := (4 : Int32) ≤ (2 : Int32)) (X := none) (by decide) ?_
  refine A_icmp_ge (pc := 64) (tgt := 86) dX7_init_64 (by decide) Aw.none ?_
  refine A_aload_n (pc := 67) (i := 0) dX7_init_67 rfl rfl ?_
  refine A_getS (pc := 68) (k := 4) (tp := 22) clX7 (Nat.le_of_ble_eq_true rfl) dX7_init_68 kF_X7_39 rfl rfl rfl ?_
  refine A_iload_n (pc := 71) (i := 1) dX7_init_71 rfl rfl ?_
  refine A_newS (pc := 72) (i := 2) (3, 19) clX6 dX7_init_72 kL_X7_37 kZ_X6 kN_X6 hdX6 (Nat.le_of_ble_eq_true rfl) (Nat.le_of_ble_eq_true rfl) ?_
  refine A_dup (pc := 75) dX7_init_75 (fun _ => cv_catr _ _) ?_
  refine A_callI (pc := 76) (M' := mX6_init) (As := []) (st := [vr 6 (some 2), vi (2 : Int32), vr 22 (some 0)]) (2, 11) (fun r7 => [vr 6 (some 2), vi (2 : Int32), vr 22 (some 0)]) (fun r7 => r7) (a_X6_init (uN (uS (uN (uS (uN (uS (uS (uS (uS (uS (uS (uN (uS (uS (uS (uS (uS (uS (uS (uN (uS (uN (uS (uS (uS (uN U 5 0) 5 0 0) 5 0 1) 7 0 0) 2 0) 7 0 1) 4 0) 4 0 0) 4 0 1) 4 0 2) 4 0 3) 4 0 4) 4 0 5) 7 0 2) 3 0) 3 0 0) 3 0 1) 3 0 2) 3 0 3) 7 0 3) 7 0 4) 6 0) 6 0 0) 6 1) 6 1 0) 6 2) 2 (wN (wP r6 22 0 (Int32.toNatClampNeg (1 : Int32)) (some 1)) 6)) kD_X6_init rfl rfl kM_X7_43 kI_X6_init kN_X6 ⟨(Nat.le_of_ble_eq_true rfl), (Nat.le_of_ble_eq_true rfl)⟩ dX7_init_76 rfl rfl (Nat.le_of_ble_eq_true rfl) (Nat.le_of_ble_eq_true rfl) (Nat.le_of_ble_eq_true rfl) (fun _ => rfl) (fun _ => rfl) (fun r7 => ?_)
  refine Aw.ifT (q := 0 ≤ (2 : Int32) ∧ (2 : Int32) < 4) (Y := none) (by decide) ?_
  refine A_aastore (pc := 79) (n := 4) (te := 6) (by decide) (by decide) (by decide) rfl (by decide) rfl (fun _ => rfl) dX7_init_79 (by decide) ?_
  refine A_iinc (pc := 80) (i := 1) (v := (3 : Int32)) (ls2 := [some (vr 7 (some 0)), some (vi (3 : Int32))]) dX7_init_80 rfl (by decide) (Nat.le_of_ble_eq_true rfl) rfl ?_
  refine A_goto (pc := 83) (tgt := 58) dX7_init_83 (by decide) ?_
  refine A_iload_n (pc := 58) (i := 1) dX7_init_58 rfl rfl ?_
  refine A_aload_n (pc := 59) (i := 0) dX7_init_59 rfl rfl ?_
  refine A_getS (pc := 60) (k := 4) (tp := 22) clX7 (Nat.le_of_ble_eq_true rfl) dX7_init_60 kF_X7_39 rfl rfl rfl ?_
  refine A_alen (pc := 63) (v := (4 : Int32)) (by decide) (by decide) (by decide) rfl dX7_init_63 ?_
  refine Aw.ifF (q := (4 : Int32) ≤ (3 : Int32)) (X := none) (by decide) ?_
  refine A_icmp_ge (pc := 64) (tgt := 86) dX7_init_64 (by decide) Aw.none ?_
  refine A_aload_n (pc := 67) (i := 0) dX7_init_67 rfl rfl ?_
  refine A_getS (pc := 68) (k := 4) (tp := 22) clX7 (Nat.le_of_ble_eq_true rfl) dX7_init_68 kF_X7_39 rfl rfl rfl ?_
  refine A_iload_n (pc := 71) (i := 1) dX7_init_71 rfl rfl ?_
  refine A_newS (pc := 72) (i := 3) (1, 8) clX6 dX7_init_72 kL_X7_37 kZ_X6 kN_X6 hdX6 (Nat.le_of_ble_eq_true rfl) (Nat.le_of_ble_eq_true rfl) ?_
  refine A_dup (pc := 75) dX7_init_75 (fun _ => cv_catr _ _) ?_
  refine A_callI (pc := 76) (M' := mX6_init) (As := []) (st := [vr 6 (some 3), vi (3 : Int32), vr 22 (some 0)]) (0, 0) (fun r8 => [vr 6 (some 3), vi (3 : Int32), vr 22 (some 0)]) (fun r8 => r8) (a_X6_init (uN (uS (uN (uS (uN (uS (uN (uS (uS (uS (uS (uS (uS (uN (uS (uS (uS (uS (uS (uS (uS (uN (uS (uN (uS (uS (uS (uN U 5 0) 5 0 0) 5 0 1) 7 0 0) 2 0) 7 0 1) 4 0) 4 0 0) 4 0 1) 4 0 2) 4 0 3) 4 0 4) 4 0 5) 7 0 2) 3 0) 3 0 0) 3 0 1) 3 0 2) 3 0 3) 7 0 3) 7 0 4) 6 0) 6 0 0) 6 1) 6 1 0) 6 2) 6 2 0) 6 3) 3 (wN (wP r7 22 0 (Int32.toNatClampNeg (2 : Int32)) (some 2)) 6)) kD_X6_init rfl rfl kM_X7_43 kI_X6_init kN_X6 ⟨(Nat.le_of_ble_eq_true rfl), (Nat.le_of_ble_eq_true rfl)⟩ dX7_init_76 rfl rfl (Nat.le_of_ble_eq_true rfl) (Nat.le_of_ble_eq_true rfl) (Nat.le_of_ble_eq_true rfl) (fun _ => rfl) (fun _ => rfl) (fun r8 => ?_)
  refine Aw.ifT (q := 0 ≤ (3 : Int32) ∧ (3 : Int32) < 4) (Y := none) (by decide) ?_
  refine A_aastore (pc := 79) (n := 4) (te := 6) (by decide) (by decide) (by decide) rfl (by decide) rfl (fun _ => rfl) dX7_init_79 (by decide) ?_
  refine A_iinc (pc := 80) (i := 1) (v := (4 : Int32)) (ls2 := [some (vr 7 (some 0)), some (vi (4 : Int32))]) dX7_init_80 rfl (by decide) (Nat.le_of_ble_eq_true rfl) rfl ?_
  refine A_goto (pc := 83) (tgt := 58) dX7_init_83 (by decide) ?_
  refine A_iload_n (pc := 58) (i := 1) dX7_init_58 rfl rfl ?_
  refine A_aload_n (pc := 59) (i := 0) dX7_init_59 rfl rfl ?_
  refine A_getS (pc := 60) (k := 4) (tp := 22) clX7 (Nat.le_of_ble_eq_true rfl) dX7_init_60 kF_X7_39 rfl rfl rfl ?_
  refine A_alen (pc := 63) (v := (4 : Int32)) (by decide) (by decide) (by decide) rfl dX7_init_63 ?_
  refine Aw.ifT (q := (4 : Int32) ≤ (4 : Int32)) (Y := none) (by decide) ?_
  refine A_icmp_ge (pc := 64) (tgt := 86) dX7_init_64 (by decide) ?_ Aw.none
  exact A_retV rfl dX7_init_86

abbrev mX7_counted : MD := (yX7_counted, cX7_counted, 2, (some .int), { frames := 0, cells := 0, slots := 0, locals := 0 }, none)
theorem kD_X7_counted : CodeIn mX7_counted 1 := ⟨kC_X7_counted, by decide +kernel⟩
def f_X7_counted (x1 : Int32) (h : Hp) : Option (Int32 × Hp) := (if (-1000000 : Int32) ≤ x1 then (some (x1, h)) else (some (x1, (wI h 7 0 5 ((gI h 7 0 5) + (1 : Int32))))))
set_option maxRecDepth 100000 in
set_option maxHeartbeats 4000000 in
theorem a_X7_counted (x1 : Int32) (h : Hp) : CtA eI mX7_counted U0 U0 [vr 7 (some 0), vi x1] h (f_X7_counted x1 h) := by
  refine Ct.of (ls := [some (vr 7 (some 0)), some (vi x1)]) (n := 0) (by decide +kernel) rfl rfl rfl ?_
  unfold f_X7_counted
  refine A_iload_n (pc := 0) (i := 1) dX7_counted_0 rfl rfl ?_
  refine A_ldc (pc := 1) (v := (-1000000 : Int32)) dX7_counted_1 kK_X7_248 ?_
  refine A_icmp_ge (pc := 3) (tgt := 16) dX7_counted_3 (by decide) ?_ ?_
  · refine A_iload_n (pc := 16) (i := 1) dX7_counted_16 rfl rfl ?_
    exact A_retI rfl dX7_counted_17
  · refine A_aload_n (pc := 6) (i := 0) dX7_counted_6 rfl rfl ?_
    refine A_dup (pc := 7) dX7_counted_7 (fun _ => cv_catr _ _) ?_
    refine A_getI (pc := 8) (k := 5) clX7 (Nat.le_of_ble_eq_true rfl) dX7_counted_8 kF_X7_245 rfl ?_
    refine A_iconst (pc := 11) (v := (1 : Int32)) dX7_counted_11 (by decide) ?_
    refine A_iadd (pc := 12) dX7_counted_12 ?_
    refine A_putI (pc := 13) (k := 5) clX7 (Nat.le_of_ble_eq_true rfl) dX7_counted_13 kF_X7_245 rfl (Or.inl rfl) ⟨rfl, rfl⟩ ?_
    refine A_iload_n (pc := 16) (i := 1) dX7_counted_16 rfl rfl ?_
    exact A_retI rfl dX7_counted_17

abbrev mX7_berth : MD := (yX7_berth, cX7_berth, 5, (some .int), { frames := 3, cells := 1, slots := 4, locals := 68 }, none)
theorem kD_X7_berth : CodeIn mX7_berth 4 := ⟨kC_X7_berth, by decide +kernel⟩
def f_X7_berth (x1 : Int32) (x2 : Int32) (x3 : Int32) (x4 : Int32) (h : Hp) : Option (Int32 × Hp) := ((f_X5_addBerth x1 x2 x3 x4 h).bind fun r1 => ((f_X7_counted r1.1 r1.2).bind fun r2 => (some (r2.1, r2.2))))
set_option maxRecDepth 100000 in
set_option maxHeartbeats 4000000 in
theorem a_X7_berth (x1 : Int32) (x2 : Int32) (x3 : Int32) (x4 : Int32) (h : Hp) : CtA eI mX7_berth U0 U0 [vr 7 (some 0), vi x1, vi x2, vi x3, vi x4] h (f_X7_berth x1 x2 x3 x4 h) := by
  refine Ct.of (ls := [some (vr 7 (some 0)), some (vi x1), some (vi x2), some (vi x3), some (vi x4)]) (n := 0) (by decide +kernel) rfl rfl rfl ?_
  unfold f_X7_berth
  refine A_aload_n (pc := 0) (i := 0) dX7_berth_0 rfl rfl ?_
  refine A_aload_n (pc := 1) (i := 0) dX7_berth_1 rfl rfl ?_
  refine A_getS (pc := 2) (k := 0) (tp := 5) clX7 (Nat.le_of_ble_eq_true rfl) dX7_berth_2 kF_X7_10 rfl rfl rfl ?_
  refine A_iload_n (pc := 5) (i := 1) dX7_berth_5 rfl rfl ?_
  refine A_iload_n (pc := 6) (i := 2) dX7_berth_6 rfl rfl ?_
  refine A_iload_n (pc := 7) (i := 3) dX7_berth_7 rfl rfl ?_
  refine A_iload (pc := 8) (i := 4) dX7_berth_8 rfl ?_
  refine A_callV (pc := 10) (M' := mX5_addBerth) (As := [vi x1, vi x2, vi x3, vi x4]) (st := [vr 7 (some 0)]) (0, 0) (fun r1 => [vi r1.1, vr 7 (some 0)]) (fun r1 => r1.2) (a_X5_addBerth x1 x2 x3 x4 h) kD_X5_addBerth kM_X7_44 kI_X5_addBerth kS_X5_addBerth kN_X5 ⟨(Nat.le_of_ble_eq_true rfl), (Nat.le_of_ble_eq_true rfl)⟩ dX7_berth_10 rfl rfl rfl (by decide) rfl (Nat.le_of_ble_eq_true rfl) (Nat.le_of_ble_eq_true rfl) (Nat.le_of_ble_eq_true rfl) (fun _ => rfl) (fun _ => rfl) (fun r1 => ?_)
  refine A_callV (pc := 13) (M' := mX7_counted) (As := [vi r1.1]) (st := []) (0, 0) (fun r2 => [vi r2.1]) (fun r2 => r2.2) (a_X7_counted r1.1 r1.2) kD_X7_counted kM_X7_48 kI_X7_counted kS_X7_counted kN_X7 ⟨(Nat.le_of_ble_eq_true rfl), (Nat.le_of_ble_eq_true rfl)⟩ dX7_berth_13 rfl rfl rfl (by decide) rfl (Nat.le_of_ble_eq_true rfl) (Nat.le_of_ble_eq_true rfl) (Nat.le_of_ble_eq_true rfl) (fun _ => rfl) (fun _ => rfl) (fun r2 => ?_)
  exact A_retI rfl dX7_berth_16

abbrev mX7_boat : MD := (yX7_boat, cX7_boat, 5, (some .int), { frames := 3, cells := 1, slots := 12, locals := 69 }, none)
theorem kD_X7_boat : CodeIn mX7_boat 4 := ⟨kC_X7_boat, by decide +kernel⟩
def f_X7_boat (x1 : Int32) (x2 : Int32) (x3 : Int32) (x4 : Int32) (h : Hp) : Option (Int32 × Hp) := ((f_X5_addBoat x1 x2 x3 x4 h).bind fun r1 => ((f_X7_counted r1.1 r1.2).bind fun r2 => (some (r2.1, r2.2))))
set_option maxRecDepth 100000 in
set_option maxHeartbeats 4000000 in
theorem a_X7_boat (x1 : Int32) (x2 : Int32) (x3 : Int32) (x4 : Int32) (h : Hp) : CtA eI mX7_boat U0 U0 [vr 7 (some 0), vi x1, vi x2, vi x3, vi x4] h (f_X7_boat x1 x2 x3 x4 h) := by
  refine Ct.of (ls := [some (vr 7 (some 0)), some (vi x1), some (vi x2), some (vi x3), some (vi x4)]) (n := 0) (by decide +kernel) rfl rfl rfl ?_
  unfold f_X7_boat
  refine A_aload_n (pc := 0) (i := 0) dX7_boat_0 rfl rfl ?_
  refine A_aload_n (pc := 1) (i := 0) dX7_boat_1 rfl rfl ?_
  refine A_getS (pc := 2) (k := 0) (tp := 5) clX7 (Nat.le_of_ble_eq_true rfl) dX7_boat_2 kF_X7_10 rfl rfl rfl ?_
  refine A_iload_n (pc := 5) (i := 1) dX7_boat_5 rfl rfl ?_
  refine A_iload_n (pc := 6) (i := 2) dX7_boat_6 rfl rfl ?_
  refine A_iload_n (pc := 7) (i := 3) dX7_boat_7 rfl rfl ?_
  refine A_iload (pc := 8) (i := 4) dX7_boat_8 rfl ?_
  refine A_callV (pc := 10) (M' := mX5_addBoat) (As := [vi x1, vi x2, vi x3, vi x4]) (st := [vr 7 (some 0)]) (0, 0) (fun r1 => [vi r1.1, vr 7 (some 0)]) (fun r1 => r1.2) (a_X5_addBoat x1 x2 x3 x4 h) kD_X5_addBoat kM_X7_52 kI_X5_addBoat kS_X5_addBoat kN_X5 ⟨(Nat.le_of_ble_eq_true rfl), (Nat.le_of_ble_eq_true rfl)⟩ dX7_boat_10 rfl rfl rfl (by decide) rfl (Nat.le_of_ble_eq_true rfl) (Nat.le_of_ble_eq_true rfl) (Nat.le_of_ble_eq_true rfl) (fun _ => rfl) (fun _ => rfl) (fun r1 => ?_)
  refine A_callV (pc := 13) (M' := mX7_counted) (As := [vi r1.1]) (st := []) (0, 0) (fun r2 => [vi r2.1]) (fun r2 => r2.2) (a_X7_counted r1.1 r1.2) kD_X7_counted kM_X7_48 kI_X7_counted kS_X7_counted kN_X7 ⟨(Nat.le_of_ble_eq_true rfl), (Nat.le_of_ble_eq_true rfl)⟩ dX7_boat_13 rfl rfl rfl (by decide) rfl (Nat.le_of_ble_eq_true rfl) (Nat.le_of_ble_eq_true rfl) (Nat.le_of_ble_eq_true rfl) (fun _ => rfl) (fun _ => rfl) (fun r2 => ?_)
  exact A_retI rfl dX7_boat_16

abbrev mX7_leaves : MD := (yX7_leaves, cX7_leaves, 5, (some .int), { frames := 1, cells := 0, slots := 0, locals := 21 }, none)
theorem kD_X7_leaves : CodeIn mX7_leaves 3 := ⟨kC_X7_leaves, by decide +kernel⟩
def f_X7_leaves (x1 : Int32) (x2 : Int32) (x3 : Int32) (h : Hp) : Option (Int32 × Hp) := ((f_X5_boatOf x1 h).bind fun r1 => (match r1 with | none => ((f_X7_counted (-1000001 : Int32) h).bind fun r3 => (some (r3.1, r3.2))) | some k2 => (if x2 < 0 then ((f_X7_counted (-1000001 : Int32) h).bind fun r4 => (some (r4.1, r4.2))) else (if (23 : Int32) < x3 then ((f_X7_counted (-1000001 : Int32) h).bind fun r5 => (some (r5.1, r5.2))) else (if x2 ≤ x3 then (some ((1 : Int32), (wI (wI h 1 k2 5 x2) 1 k2 6 x3))) else ((f_X7_counted (-1000001 : Int32) h).bind fun r6 => (some (r6.1, r6.2))))))))
set_option maxRecDepth 100000 in
set_option maxHeartbeats 4000000 in
theorem a_X7_leaves (x1 : Int32) (x2 : Int32) (x3 : Int32) (h : Hp) : CtA eI mX7_leaves U0 U0 [vr 7 (some 0), vi x1, vi x2, vi x3] h (f_X7_leaves x1 x2 x3 h) := by
  refine Ct.of (ls := [some (vr 7 (some 0)), some (vi x1), some (vi x2), some (vi x3), none]) (n := 1) (by decide +kernel) rfl rfl rfl ?_
  unfold f_X7_leaves
  refine A_aload_n (pc := 0) (i := 0) dX7_leaves_0 rfl rfl ?_
  refine A_getS (pc := 1) (k := 0) (tp := 5) clX7 (Nat.le_of_ble_eq_true rfl) dX7_leaves_1 kF_X7_10 rfl rfl rfl ?_
  refine A_iload_n (pc := 4) (i := 1) dX7_leaves_4 rfl rfl ?_
  refine A_callV (pc := 5) (M' := mX5_boatOf) (As := [vi x1]) (st := []) (0, 0) (fun r1 => [vr 1 r1]) (fun _ => h) (a_X5_boatOf x1 h) kD_X5_boatOf kM_X7_56 kI_X5_boatOf kS_X5_boatOf kN_X5 ⟨(Nat.le_of_ble_eq_true rfl), (Nat.le_of_ble_eq_true rfl)⟩ dX7_leaves_5 rfl rfl rfl (by decide) rfl (Nat.le_of_ble_eq_true rfl) (Nat.le_of_ble_eq_true rfl) (Nat.le_of_ble_eq_true rfl) (fun _ => rfl) (fun _ => rfl) (fun r1 => ?_)
  refine A_astore (pc := 8) (i := 4) (ls2 := [some (vr 7 (some 0)), some (vi x1), some (vi x2), some (vi x3), some (vr 1 r1)]) dX7_leaves_8 (Nat.le_of_ble_eq_true rfl) rfl ?_
  refine A_aload (pc := 10) (i := 4) dX7_leaves_10 rfl ?_
  refine A_ifnull (pc := 12) (tgt := 30) dX7_leaves_12 (by decide) (fun hz => ?_) (fun k2 hz => ?_)
  · subst hz
    try dsimp only
    refine A_aload_n (pc := 30) (i := 0) dX7_leaves_30 rfl rfl ?_
    refine A_ldc (pc := 31) (v := (-1000001 : Int32)) dX7_leaves_31 kK_X7_60 ?_
    refine A_callV (pc := 33) (M' := mX7_counted) (As := [vi (-1000001 : Int32)]) (st := []) (0, 0) (fun r3 => [vi r3.1]) (fun r3 => r3.2) (a_X7_counted (-1000001 : Int32) h) kD_X7_counted kM_X7_48 kI_X7_counted kS_X7_counted kN_X7 ⟨(Nat.le_of_ble_eq_true rfl), (Nat.le_of_ble_eq_true rfl)⟩ dX7_leaves_33 rfl rfl rfl (by decide) rfl (Nat.le_of_ble_eq_true rfl) (Nat.le_of_ble_eq_true rfl) (Nat.le_of_ble_eq_true rfl) (fun _ => rfl) (fun _ => rfl) (fun r3 => ?_)
    exact A_retI rfl dX7_leaves_36
  · subst hz
    try dsimp only
    refine A_iload_n (pc := 15) (i := 2) dX7_leaves_15 rfl rfl ?_
    refine A_if_lt (pc := 16) (tgt := 30) dX7_leaves_16 (by decide) ?_ ?_
    · refine A_aload_n (pc := 30) (i := 0) dX7_leaves_30 rfl rfl ?_
      refine A_ldc (pc := 31) (v := (-1000001 : Int32)) dX7_leaves_31 kK_X7_60 ?_
      refine A_callV (pc := 33) (M' := mX7_counted) (As := [vi (-1000001 : Int32)]) (st := []) (0, 0) (fun r4 => [vi r4.1]) (fun r4 => r4.2) (a_X7_counted (-1000001 : Int32) h) kD_X7_counted kM_X7_48 kI_X7_counted kS_X7_counted kN_X7 ⟨(Nat.le_of_ble_eq_true rfl), (Nat.le_of_ble_eq_true rfl)⟩ dX7_leaves_33 rfl rfl rfl (by decide) rfl (Nat.le_of_ble_eq_true rfl) (Nat.le_of_ble_eq_true rfl) (Nat.le_of_ble_eq_true rfl) (fun _ => rfl) (fun _ => rfl) (fun r4 => ?_)
      exact A_retI rfl dX7_leaves_36
    · refine A_iload_n (pc := 19) (i := 3) dX7_leaves_19 rfl rfl ?_
      refine A_bipush (pc := 20) (v := (23 : Int32)) dX7_leaves_20 (by decide) ?_
      refine A_icmp_gt (pc := 22) (tgt := 30) dX7_leaves_22 (by decide) ?_ ?_
      · refine A_aload_n (pc := 30) (i := 0) dX7_leaves_30 rfl rfl ?_
        refine A_ldc (pc := 31) (v := (-1000001 : Int32)) dX7_leaves_31 kK_X7_60 ?_
        refine A_callV (pc := 33) (M' := mX7_counted) (As := [vi (-1000001 : Int32)]) (st := []) (0, 0) (fun r5 => [vi r5.1]) (fun r5 => r5.2) (a_X7_counted (-1000001 : Int32) h) kD_X7_counted kM_X7_48 kI_X7_counted kS_X7_counted kN_X7 ⟨(Nat.le_of_ble_eq_true rfl), (Nat.le_of_ble_eq_true rfl)⟩ dX7_leaves_33 rfl rfl rfl (by decide) rfl (Nat.le_of_ble_eq_true rfl) (Nat.le_of_ble_eq_true rfl) (Nat.le_of_ble_eq_true rfl) (fun _ => rfl) (fun _ => rfl) (fun r5 => ?_)
        exact A_retI rfl dX7_leaves_36
      · refine A_iload_n (pc := 25) (i := 2) dX7_leaves_25 rfl rfl ?_
        refine A_iload_n (pc := 26) (i := 3) dX7_leaves_26 rfl rfl ?_
        refine A_icmp_le (pc := 27) (tgt := 37) dX7_leaves_27 (by decide) ?_ ?_
        · refine A_aload (pc := 37) (i := 4) dX7_leaves_37 rfl ?_
          refine A_iload_n (pc := 39) (i := 2) dX7_leaves_39 rfl rfl ?_
          refine A_putI (pc := 40) (k := 5) clX1 (Nat.le_of_ble_eq_true rfl) dX7_leaves_40 kF_X7_61 rfl (Or.inl rfl) ⟨rfl, rfl⟩ ?_
          refine A_aload (pc := 43) (i := 4) dX7_leaves_43 rfl ?_
          refine A_iload_n (pc := 45) (i := 3) dX7_leaves_45 rfl rfl ?_
          refine A_putI (pc := 46) (k := 6) clX1 (Nat.le_of_ble_eq_true rfl) dX7_leaves_46 kF_X7_67 rfl (Or.inl rfl) ⟨rfl, rfl⟩ ?_
          refine A_iconst (pc := 49) (v := (1 : Int32)) dX7_leaves_49 (by decide) ?_
          exact A_retI rfl dX7_leaves_50
        · refine A_aload_n (pc := 30) (i := 0) dX7_leaves_30 rfl rfl ?_
          refine A_ldc (pc := 31) (v := (-1000001 : Int32)) dX7_leaves_31 kK_X7_60 ?_
          refine A_callV (pc := 33) (M' := mX7_counted) (As := [vi (-1000001 : Int32)]) (st := []) (0, 0) (fun r6 => [vi r6.1]) (fun r6 => r6.2) (a_X7_counted (-1000001 : Int32) h) kD_X7_counted kM_X7_48 kI_X7_counted kS_X7_counted kN_X7 ⟨(Nat.le_of_ble_eq_true rfl), (Nat.le_of_ble_eq_true rfl)⟩ dX7_leaves_33 rfl rfl rfl (by decide) rfl (Nat.le_of_ble_eq_true rfl) (Nat.le_of_ble_eq_true rfl) (Nat.le_of_ble_eq_true rfl) (fun _ => rfl) (fun _ => rfl) (fun r6 => ?_)
          exact A_retI rfl dX7_leaves_36

abbrev mX7_areHours : MD := (yX7_areHours, cX7_areHours, 1, (some .boolean), { frames := 0, cells := 0, slots := 0, locals := 0 }, none)
theorem kD_X7_areHours : CodeIn mX7_areHours 1 := ⟨kC_X7_areHours, by decide +kernel⟩
def f_X7_areHours (x0 : Int32) (h : Hp) : Option Bool := (if (x0 &&& (-16777216 : Int32)) = 0 then (some true) else (some false))
set_option maxRecDepth 100000 in
set_option maxHeartbeats 4000000 in
theorem a_X7_areHours (x0 : Int32) (h : Hp) : CtA (eBr h) mX7_areHours U0 U0 [vi x0] h (f_X7_areHours x0 h) := by
  refine Ct.of (ls := [some (vi x0)]) (n := 0) (by decide +kernel) rfl rfl rfl ?_
  unfold f_X7_areHours
  refine A_iload_n (pc := 0) (i := 0) dX7_areHours_0 rfl rfl ?_
  refine A_ldc (pc := 1) (v := (-16777216 : Int32)) dX7_areHours_1 kK_X7_249 ?_
  refine A_iand (pc := 3) dX7_areHours_3 ?_
  refine A_if_ne (pc := 4) (tgt := 11) dX7_areHours_4 (by decide) ?_ ?_
  · refine A_iconst (pc := 11) (v := (0 : Int32)) dX7_areHours_11 (by decide) ?_
    exact A_retBr rfl rfl dX7_areHours_12
  · refine A_iconst (pc := 7) (v := (1 : Int32)) dX7_areHours_7 (by decide) ?_
    refine A_goto (pc := 8) (tgt := 12) dX7_areHours_8 (by decide) ?_
    exact A_retBr rfl rfl dX7_areHours_12

abbrev mX7_aboard : MD := (yX7_aboard, cX7_aboard, 5, (some .int), { frames := 1, cells := 0, slots := 0, locals := 21 }, none)
theorem kD_X7_aboard : CodeIn mX7_aboard 2 := ⟨kC_X7_aboard, by decide +kernel⟩
def f_X7_aboard (x1 : Int32) (x2 : Int32) (h : Hp) : Option (Int32 × Hp) := ((f_X5_boatOf x1 h).bind fun r1 => (match r1 with | none => ((f_X7_counted (-1000001 : Int32) h).bind fun r3 => (some (r3.1, r3.2))) | some k2 => ((f_X7_areHours x2 h).bind fun r4 => (if r4 = true then (some ((gI h 1 k2 7), (wI h 1 k2 7 x2))) else ((f_X7_counted (-1000001 : Int32) h).bind fun r5 => (some (r5.1, r5.2)))))))
set_option maxRecDepth 100000 in
set_option maxHeartbeats 4000000 in
theorem a_X7_aboard (x1 : Int32) (x2 : Int32) (h : Hp) : CtA eI mX7_aboard U0 U0 [vr 7 (some 0), vi x1, vi x2] h (f_X7_aboard x1 x2 h) := by
  refine Ct.of (ls := [some (vr 7 (some 0)), some (vi x1), some (vi x2), none, none]) (n := 2) (by decide +kernel) rfl rfl rfl ?_
  unfold f_X7_aboard
  refine A_aload_n (pc := 0) (i := 0) dX7_aboard_0 rfl rfl ?_
  refine A_getS (pc := 1) (k := 0) (tp := 5) clX7 (Nat.le_of_ble_eq_true rfl) dX7_aboard_1 kF_X7_10 rfl rfl rfl ?_
  refine A_iload_n (pc := 4) (i := 1) dX7_aboard_4 rfl rfl ?_
  refine A_callV (pc := 5) (M' := mX5_boatOf) (As := [vi x1]) (st := []) (0, 0) (fun r1 => [vr 1 r1]) (fun _ => h) (a_X5_boatOf x1 h) kD_X5_boatOf kM_X7_56 kI_X5_boatOf kS_X5_boatOf kN_X5 ⟨(Nat.le_of_ble_eq_true rfl), (Nat.le_of_ble_eq_true rfl)⟩ dX7_aboard_5 rfl rfl rfl (by decide) rfl (Nat.le_of_ble_eq_true rfl) (Nat.le_of_ble_eq_true rfl) (Nat.le_of_ble_eq_true rfl) (fun _ => rfl) (fun _ => rfl) (fun r1 => ?_)
  refine A_astore_n (pc := 8) (i := 3) (ls2 := [some (vr 7 (some 0)), some (vi x1), some (vi x2), some (vr 1 r1), none]) dX7_aboard_8 rfl (Nat.le_of_ble_eq_true rfl) rfl ?_
  refine A_aload_n (pc := 9) (i := 3) dX7_aboard_9 rfl rfl ?_
  refine A_ifnull (pc := 10) (tgt := 20) dX7_aboard_10 (by decide) (fun hz => ?_) (fun k2 hz => ?_)
  · subst hz
    try dsimp only
    refine A_aload_n (pc := 20) (i := 0) dX7_aboard_20 rfl rfl ?_
    refine A_ldc (pc := 21) (v := (-1000001 : Int32)) dX7_aboard_21 kK_X7_60 ?_
    refine A_callV (pc := 23) (M' := mX7_counted) (As := [vi (-1000001 : Int32)]) (st := []) (0, 0) (fun r3 => [vi r3.1]) (fun r3 => r3.2) (a_X7_counted (-1000001 : Int32) h) kD_X7_counted kM_X7_48 kI_X7_counted kS_X7_counted kN_X7 ⟨(Nat.le_of_ble_eq_true rfl), (Nat.le_of_ble_eq_true rfl)⟩ dX7_aboard_23 rfl rfl rfl (by decide) rfl (Nat.le_of_ble_eq_true rfl) (Nat.le_of_ble_eq_true rfl) (Nat.le_of_ble_eq_true rfl) (fun _ => rfl) (fun _ => rfl) (fun r3 => ?_)
    exact A_retI rfl dX7_aboard_26
  · subst hz
    try dsimp only
    refine A_iload_n (pc := 13) (i := 2) dX7_aboard_13 rfl rfl ?_
    refine A_callS (pc := 14) (M' := mX7_areHours) (As := [vi x2]) (st := []) (0, 0) (fun r4 => [vi (bi r4)]) (fun _ => h) (a_X7_areHours x2 h) kD_X7_areHours kM_X7_70 kT_X7_areHours kN_X7 ⟨(Nat.le_of_ble_eq_true rfl), (Nat.le_of_ble_eq_true rfl)⟩ dX7_aboard_14 rfl rfl (Nat.le_of_ble_eq_true rfl) (Nat.le_of_ble_eq_true rfl) (Nat.le_of_ble_eq_true rfl) (fun _ => rfl) (fun _ => rfl) (fun r4 => ?_)
    refine A_ifb_ne (pc := 17) (tgt := 27) dX7_aboard_17 (by decide) ?_ ?_
    · refine A_aload_n (pc := 27) (i := 3) dX7_aboard_27 rfl rfl ?_
      refine A_getI (pc := 28) (k := 7) clX1 (Nat.le_of_ble_eq_true rfl) dX7_aboard_28 kF_X7_74 rfl ?_
      refine A_istore (pc := 31) (i := 4) (ls2 := [some (vr 7 (some 0)), some (vi x1), some (vi x2), some (vr 1 (some k2)), some (vi (gI h 1 k2 7))]) dX7_aboard_31 (Nat.le_of_ble_eq_true rfl) rfl ?_
      refine A_aload_n (pc := 33) (i := 3) dX7_aboard_33 rfl rfl ?_
      refine A_iload_n (pc := 34) (i := 2) dX7_aboard_34 rfl rfl ?_
      refine A_putI (pc := 35) (k := 7) clX1 (Nat.le_of_ble_eq_true rfl) dX7_aboard_35 kF_X7_74 rfl (Or.inl rfl) ⟨rfl, rfl⟩ ?_
      refine A_iload (pc := 38) (i := 4) dX7_aboard_38 rfl ?_
      exact A_retI rfl dX7_aboard_40
    · refine A_aload_n (pc := 20) (i := 0) dX7_aboard_20 rfl rfl ?_
      refine A_ldc (pc := 21) (v := (-1000001 : Int32)) dX7_aboard_21 kK_X7_60 ?_
      refine A_callV (pc := 23) (M' := mX7_counted) (As := [vi (-1000001 : Int32)]) (st := []) (0, 0) (fun r5 => [vi r5.1]) (fun r5 => r5.2) (a_X7_counted (-1000001 : Int32) h) kD_X7_counted kM_X7_48 kI_X7_counted kS_X7_counted kN_X7 ⟨(Nat.le_of_ble_eq_true rfl), (Nat.le_of_ble_eq_true rfl)⟩ dX7_aboard_23 rfl rfl rfl (by decide) rfl (Nat.le_of_ble_eq_true rfl) (Nat.le_of_ble_eq_true rfl) (Nat.le_of_ble_eq_true rfl) (fun _ => rfl) (fun _ => rfl) (fun r5 => ?_)
      exact A_retI rfl dX7_aboard_26

abbrev mX7_over : MD := (yX7_over, cX7_over, 3, (some .int), { frames := 1, cells := 0, slots := 0, locals := 22 }, none)
theorem kD_X7_over : CodeIn mX7_over 1 := ⟨kC_X7_over, by decide +kernel⟩
def f_X7_over (x1 : Int32) (h : Hp) : Option (Int32 × Hp) := ((f_X7_isWithin x1 (0 : Int32) (20 : Int32) h).bind fun r1 => (if r1 = true then (some ((gI h 5 0 4), (wI h 5 0 4 x1))) else ((f_X7_counted (-1000001 : Int32) h).bind fun r2 => (some (r2.1, r2.2)))))
set_option maxRecDepth 100000 in
set_option maxHeartbeats 4000000 in
theorem a_X7_over (x1 : Int32) (h : Hp) : CtA eI mX7_over U0 U0 [vr 7 (some 0), vi x1] h (f_X7_over x1 h) := by
  refine Ct.of (ls := [some (vr 7 (some 0)), some (vi x1), none]) (n := 1) (by decide +kernel) rfl rfl rfl ?_
  unfold f_X7_over
  refine A_iload_n (pc := 0) (i := 1) dX7_over_0 rfl rfl ?_
  refine A_iconst (pc := 1) (v := (0 : Int32)) dX7_over_1 (by decide) ?_
  refine A_bipush (pc := 2) (v := (20 : Int32)) dX7_over_2 (by decide) ?_
  refine A_callS (pc := 4) (M' := mX7_isWithin) (As := [vi x1, vi (0 : Int32), vi (20 : Int32)]) (st := []) (0, 0) (fun r1 => [vi (bi r1)]) (fun _ => h) (a_X7_isWithin x1 (0 : Int32) (20 : Int32) h) kD_X7_isWithin kM_X7_77 kT_X7_isWithin kN_X7 ⟨(Nat.le_of_ble_eq_true rfl), (Nat.le_of_ble_eq_true rfl)⟩ dX7_over_4 rfl rfl (Nat.le_of_ble_eq_true rfl) (Nat.le_of_ble_eq_true rfl) (Nat.le_of_ble_eq_true rfl) (fun _ => rfl) (fun _ => rfl) (fun r1 => ?_)
  refine A_ifb_ne (pc := 7) (tgt := 17) dX7_over_7 (by decide) ?_ ?_
  · refine A_aload_n (pc := 17) (i := 0) dX7_over_17 rfl rfl ?_
    refine A_getS (pc := 18) (k := 0) (tp := 5) clX7 (Nat.le_of_ble_eq_true rfl) dX7_over_18 kF_X7_10 rfl rfl rfl ?_
    refine A_getI (pc := 21) (k := 4) clX5 (Nat.le_of_ble_eq_true rfl) dX7_over_21 kF_X7_81 rfl ?_
    refine A_istore_n (pc := 24) (i := 2) (ls2 := [some (vr 7 (some 0)), some (vi x1), some (vi (gI h 5 0 4))]) dX7_over_24 rfl (Nat.le_of_ble_eq_true rfl) rfl ?_
    refine A_aload_n (pc := 25) (i := 0) dX7_over_25 rfl rfl ?_
    refine A_getS (pc := 26) (k := 0) (tp := 5) clX7 (Nat.le_of_ble_eq_true rfl) dX7_over_26 kF_X7_10 rfl rfl rfl ?_
    refine A_iload_n (pc := 29) (i := 1) dX7_over_29 rfl rfl ?_
    refine A_putI (pc := 30) (k := 4) clX5 (Nat.le_of_ble_eq_true rfl) dX7_over_30 kF_X7_81 rfl (Or.inl rfl) ⟨rfl, rfl⟩ ?_
    refine A_iload_n (pc := 33) (i := 2) dX7_over_33 rfl rfl ?_
    exact A_retI rfl dX7_over_34
  · refine A_aload_n (pc := 10) (i := 0) dX7_over_10 rfl rfl ?_
    refine A_ldc (pc := 11) (v := (-1000001 : Int32)) dX7_over_11 kK_X7_60 ?_
    refine A_callV (pc := 13) (M' := mX7_counted) (As := [vi (-1000001 : Int32)]) (st := []) (0, 0) (fun r2 => [vi r2.1]) (fun r2 => r2.2) (a_X7_counted (-1000001 : Int32) h) kD_X7_counted kM_X7_48 kI_X7_counted kS_X7_counted kN_X7 ⟨(Nat.le_of_ble_eq_true rfl), (Nat.le_of_ble_eq_true rfl)⟩ dX7_over_13 rfl rfl rfl (by decide) rfl (Nat.le_of_ble_eq_true rfl) (Nat.le_of_ble_eq_true rfl) (Nat.le_of_ble_eq_true rfl) (fun _ => rfl) (fun _ => rfl) (fun r2 => ?_)
    exact A_retI rfl dX7_over_16

abbrev mX7_as : MD := (yX7_as, cX7_as, 4, (some .int), { frames := 1, cells := 0, slots := 0, locals := 22 }, none)
theorem kD_X7_as : CodeIn mX7_as 2 := ⟨kC_X7_as, by decide +kernel⟩
def f_X7_as (x1 : Int32) (x2 : Int32) (h : Hp) : Option (Int32 × Hp) := ((f_X5_boatOf x1 h).bind fun r1 => (match r1 with | none => ((f_X7_counted (-1000001 : Int32) h).bind fun r3 => (some (r3.1, r3.2))) | some k2 => ((f_X7_isWithin x2 (0 : Int32) (3 : Int32) h).bind fun r4 => (if r4 = true then ((f_X1_isOfKind k2 x2 h).bind fun r5 => (if r5 = true then (some ((gI h 1 k2 0), h)) else ((f_X7_counted (-1000003 : Int32) h).bind fun r6 => (some (r6.1, r6.2))))) else ((f_X7_counted (-1000001 : Int32) h).bind fun r7 => (some (r7.1, r7.2)))))))
set_option maxRecDepth 100000 in
set_option maxHeartbeats 4000000 in
theorem a_X7_as (x1 : Int32) (x2 : Int32) (h : Hp) : CtA eI mX7_as U0 U0 [vr 7 (some 0), vi x1, vi x2] h (f_X7_as x1 x2 h) := by
  refine Ct.of (ls := [some (vr 7 (some 0)), some (vi x1), some (vi x2), none]) (n := 1) (by decide +kernel) rfl rfl rfl ?_
  unfold f_X7_as
  refine A_aload_n (pc := 0) (i := 0) dX7_as_0 rfl rfl ?_
  refine A_getS (pc := 1) (k := 0) (tp := 5) clX7 (Nat.le_of_ble_eq_true rfl) dX7_as_1 kF_X7_10 rfl rfl rfl ?_
  refine A_iload_n (pc := 4) (i := 1) dX7_as_4 rfl rfl ?_
  refine A_callV (pc := 5) (M' := mX5_boatOf) (As := [vi x1]) (st := []) (0, 0) (fun r1 => [vr 1 r1]) (fun _ => h) (a_X5_boatOf x1 h) kD_X5_boatOf kM_X7_56 kI_X5_boatOf kS_X5_boatOf kN_X5 ⟨(Nat.le_of_ble_eq_true rfl), (Nat.le_of_ble_eq_true rfl)⟩ dX7_as_5 rfl rfl rfl (by decide) rfl (Nat.le_of_ble_eq_true rfl) (Nat.le_of_ble_eq_true rfl) (Nat.le_of_ble_eq_true rfl) (fun _ => rfl) (fun _ => rfl) (fun r1 => ?_)
  refine A_astore_n (pc := 8) (i := 3) (ls2 := [some (vr 7 (some 0)), some (vi x1), some (vi x2), some (vr 1 r1)]) dX7_as_8 rfl (Nat.le_of_ble_eq_true rfl) rfl ?_
  refine A_aload_n (pc := 9) (i := 3) dX7_as_9 rfl rfl ?_
  refine A_ifnull (pc := 10) (tgt := 22) dX7_as_10 (by decide) (fun hz => ?_) (fun k2 hz => ?_)
  · subst hz
    try dsimp only
    refine A_aload_n (pc := 22) (i := 0) dX7_as_22 rfl rfl ?_
    refine A_ldc (pc := 23) (v := (-1000001 : Int32)) dX7_as_23 kK_X7_60 ?_
    refine A_callV (pc := 25) (M' := mX7_counted) (As := [vi (-1000001 : Int32)]) (st := []) (0, 0) (fun r3 => [vi r3.1]) (fun r3 => r3.2) (a_X7_counted (-1000001 : Int32) h) kD_X7_counted kM_X7_48 kI_X7_counted kS_X7_counted kN_X7 ⟨(Nat.le_of_ble_eq_true rfl), (Nat.le_of_ble_eq_true rfl)⟩ dX7_as_25 rfl rfl rfl (by decide) rfl (Nat.le_of_ble_eq_true rfl) (Nat.le_of_ble_eq_true rfl) (Nat.le_of_ble_eq_true rfl) (fun _ => rfl) (fun _ => rfl) (fun r3 => ?_)
    exact A_retI rfl dX7_as_28
  · subst hz
    try dsimp only
    refine A_iload_n (pc := 13) (i := 2) dX7_as_13 rfl rfl ?_
    refine A_iconst (pc := 14) (v := (0 : Int32)) dX7_as_14 (by decide) ?_
    refine A_iconst (pc := 15) (v := (3 : Int32)) dX7_as_15 (by decide) ?_
    refine A_callS (pc := 16) (M' := mX7_isWithin) (As := [vi x2, vi (0 : Int32), vi (3 : Int32)]) (st := []) (0, 0) (fun r4 => [vi (bi r4)]) (fun _ => h) (a_X7_isWithin x2 (0 : Int32) (3 : Int32) h) kD_X7_isWithin kM_X7_77 kT_X7_isWithin kN_X7 ⟨(Nat.le_of_ble_eq_true rfl), (Nat.le_of_ble_eq_true rfl)⟩ dX7_as_16 rfl rfl (Nat.le_of_ble_eq_true rfl) (Nat.le_of_ble_eq_true rfl) (Nat.le_of_ble_eq_true rfl) (fun _ => rfl) (fun _ => rfl) (fun r4 => ?_)
    refine A_ifb_ne (pc := 19) (tgt := 29) dX7_as_19 (by decide) ?_ ?_
    · refine A_aload_n (pc := 29) (i := 3) dX7_as_29 rfl rfl ?_
      refine A_iload_n (pc := 30) (i := 2) dX7_as_30 rfl rfl ?_
      refine A_callV (pc := 31) (M' := mX1_isOfKind) (As := [vi x2]) (st := []) (0, 0) (fun r5 => [vi (bi r5)]) (fun _ => h) (a_X1_isOfKind k2 x2 h) kD_X1_isOfKind kM_X7_84 kI_X1_isOfKind kS_X1_isOfKind kN_X1 ⟨(Nat.le_of_ble_eq_true rfl), (Nat.le_of_ble_eq_true rfl)⟩ dX7_as_31 rfl rfl rfl (by decide) rfl (Nat.le_of_ble_eq_true rfl) (Nat.le_of_ble_eq_true rfl) (Nat.le_of_ble_eq_true rfl) (fun _ => rfl) (fun _ => rfl) (fun r5 => ?_)
      refine A_ifb_eq (pc := 34) (tgt := 44) dX7_as_34 (by decide) ?_ ?_
      · refine A_aload_n (pc := 44) (i := 0) dX7_as_44 rfl rfl ?_
        refine A_ldc (pc := 45) (v := (-1000003 : Int32)) dX7_as_45 kK_X7_90 ?_
        refine A_callV (pc := 47) (M' := mX7_counted) (As := [vi (-1000003 : Int32)]) (st := []) (0, 0) (fun r6 => [vi r6.1]) (fun r6 => r6.2) (a_X7_counted (-1000003 : Int32) h) kD_X7_counted kM_X7_48 kI_X7_counted kS_X7_counted kN_X7 ⟨(Nat.le_of_ble_eq_true rfl), (Nat.le_of_ble_eq_true rfl)⟩ dX7_as_47 rfl rfl rfl (by decide) rfl (Nat.le_of_ble_eq_true rfl) (Nat.le_of_ble_eq_true rfl) (Nat.le_of_ble_eq_true rfl) (fun _ => rfl) (fun _ => rfl) (fun r6 => ?_)
        exact A_retI rfl dX7_as_50
      · refine A_aload_n (pc := 37) (i := 3) dX7_as_37 rfl rfl ?_
        refine A_getI (pc := 38) (k := 0) clX1 (Nat.le_of_ble_eq_true rfl) dX7_as_38 kF_X7_87 rfl ?_
        refine A_goto (pc := 41) (tgt := 50) dX7_as_41 (by decide) ?_
        exact A_retI rfl dX7_as_50
    · refine A_aload_n (pc := 22) (i := 0) dX7_as_22 rfl rfl ?_
      refine A_ldc (pc := 23) (v := (-1000001 : Int32)) dX7_as_23 kK_X7_60 ?_
      refine A_callV (pc := 25) (M' := mX7_counted) (As := [vi (-1000001 : Int32)]) (st := []) (0, 0) (fun r7 => [vi r7.1]) (fun r7 => r7.2) (a_X7_counted (-1000001 : Int32) h) kD_X7_counted kM_X7_48 kI_X7_counted kS_X7_counted kN_X7 ⟨(Nat.le_of_ble_eq_true rfl), (Nat.le_of_ble_eq_true rfl)⟩ dX7_as_25 rfl rfl rfl (by decide) rfl (Nat.le_of_ble_eq_true rfl) (Nat.le_of_ble_eq_true rfl) (Nat.le_of_ble_eq_true rfl) (fun _ => rfl) (fun _ => rfl) (fun r7 => ?_)
      exact A_retI rfl dX7_as_28

abbrev mX7_of : MD := (yX7_of, cX7_of, 4, (some .int), { frames := 1, cells := 0, slots := 0, locals := 21 }, none)
theorem kD_X7_of : CodeIn mX7_of 2 := ⟨kC_X7_of, by decide +kernel⟩
def f_X7_of (x1 : Int32) (x2 : Int32) (h : Hp) : Option (Int32 × Hp) := ((f_X5_boatOf x1 h).bind fun r1 => (match r1 with | none => ((f_X7_counted (-1000001 : Int32) h).bind fun r3 => (some (r3.1, r3.2))) | some k2 => ((f_X1_detail k2 x2 h).bind fun r4 => ((f_X7_counted r4 h).bind fun r5 => (some (r5.1, r5.2))))))
set_option maxRecDepth 100000 in
set_option maxHeartbeats 4000000 in
theorem a_X7_of (x1 : Int32) (x2 : Int32) (h : Hp) : CtA eI mX7_of U0 U0 [vr 7 (some 0), vi x1, vi x2] h (f_X7_of x1 x2 h) := by
  refine Ct.of (ls := [some (vr 7 (some 0)), some (vi x1), some (vi x2), none]) (n := 1) (by decide +kernel) rfl rfl rfl ?_
  unfold f_X7_of
  refine A_aload_n (pc := 0) (i := 0) dX7_of_0 rfl rfl ?_
  refine A_getS (pc := 1) (k := 0) (tp := 5) clX7 (Nat.le_of_ble_eq_true rfl) dX7_of_1 kF_X7_10 rfl rfl rfl ?_
  refine A_iload_n (pc := 4) (i := 1) dX7_of_4 rfl rfl ?_
  refine A_callV (pc := 5) (M' := mX5_boatOf) (As := [vi x1]) (st := []) (0, 0) (fun r1 => [vr 1 r1]) (fun _ => h) (a_X5_boatOf x1 h) kD_X5_boatOf kM_X7_56 kI_X5_boatOf kS_X5_boatOf kN_X5 ⟨(Nat.le_of_ble_eq_true rfl), (Nat.le_of_ble_eq_true rfl)⟩ dX7_of_5 rfl rfl rfl (by decide) rfl (Nat.le_of_ble_eq_true rfl) (Nat.le_of_ble_eq_true rfl) (Nat.le_of_ble_eq_true rfl) (fun _ => rfl) (fun _ => rfl) (fun r1 => ?_)
  refine A_astore_n (pc := 8) (i := 3) (ls2 := [some (vr 7 (some 0)), some (vi x1), some (vi x2), some (vr 1 r1)]) dX7_of_8 rfl (Nat.le_of_ble_eq_true rfl) rfl ?_
  refine A_aload_n (pc := 9) (i := 0) dX7_of_9 rfl rfl ?_
  refine A_aload_n (pc := 10) (i := 3) dX7_of_10 rfl rfl ?_
  refine A_ifnonnull (pc := 11) (tgt := 19) dX7_of_11 (by decide) (fun hz => ?_) (fun k2 hz => ?_)
  · subst hz
    try dsimp only
    refine A_ldc (pc := 14) (v := (-1000001 : Int32)) dX7_of_14 kK_X7_60 ?_
    refine A_goto (pc := 16) (tgt := 24) dX7_of_16 (by decide) ?_
    refine A_callV (pc := 24) (M' := mX7_counted) (As := [vi (-1000001 : Int32)]) (st := []) (0, 0) (fun r3 => [vi r3.1]) (fun r3 => r3.2) (a_X7_counted (-1000001 : Int32) h) kD_X7_counted kM_X7_48 kI_X7_counted kS_X7_counted kN_X7 ⟨(Nat.le_of_ble_eq_true rfl), (Nat.le_of_ble_eq_true rfl)⟩ dX7_of_24 rfl rfl rfl (by decide) rfl (Nat.le_of_ble_eq_true rfl) (Nat.le_of_ble_eq_true rfl) (Nat.le_of_ble_eq_true rfl) (fun _ => rfl) (fun _ => rfl) (fun r3 => ?_)
    exact A_retI rfl dX7_of_27
  · subst hz
    try dsimp only
    refine A_aload_n (pc := 19) (i := 3) dX7_of_19 rfl rfl ?_
    refine A_iload_n (pc := 20) (i := 2) dX7_of_20 rfl rfl ?_
    refine A_callV (pc := 21) (M' := mX1_detail) (As := [vi x2]) (st := [vr 7 (some 0)]) (0, 0) (fun r4 => [vi r4, vr 7 (some 0)]) (fun _ => h) (a_X1_detail k2 x2 h) kD_X1_detail kM_X7_91 kI_X1_detail kS_X1_detail kN_X1 ⟨(Nat.le_of_ble_eq_true rfl), (Nat.le_of_ble_eq_true rfl)⟩ dX7_of_21 rfl rfl rfl (by decide) rfl (Nat.le_of_ble_eq_true rfl) (Nat.le_of_ble_eq_true rfl) (Nat.le_of_ble_eq_true rfl) (fun _ => rfl) (fun _ => rfl) (fun r4 => ?_)
    refine A_callV (pc := 24) (M' := mX7_counted) (As := [vi r4]) (st := []) (0, 0) (fun r5 => [vi r5.1]) (fun r5 => r5.2) (a_X7_counted r4 h) kD_X7_counted kM_X7_48 kI_X7_counted kS_X7_counted kN_X7 ⟨(Nat.le_of_ble_eq_true rfl), (Nat.le_of_ble_eq_true rfl)⟩ dX7_of_24 rfl rfl rfl (by decide) rfl (Nat.le_of_ble_eq_true rfl) (Nat.le_of_ble_eq_true rfl) (Nat.le_of_ble_eq_true rfl) (fun _ => rfl) (fun _ => rfl) (fun r5 => ?_)
    exact A_retI rfl dX7_of_27

abbrev mX7_at : MD := (yX7_at, cX7_at, 4, (some .int), { frames := 1, cells := 0, slots := 0, locals := 26 }, none)
theorem kD_X7_at : CodeIn mX7_at 2 := ⟨kC_X7_at, by decide +kernel⟩
def f_X7_at (x1 : Int32) (x2 : Int32) (h : Hp) : Option (Int32 × Hp) := ((f_X5_berthOf x1 h).bind fun r1 => (match r1 with | none => ((f_X7_counted (-1000001 : Int32) h).bind fun r3 => (some (r3.1, r3.2))) | some k2 => ((f_X7_isWithin x2 (0 : Int32) (5 : Int32) h).bind fun r4 => (if r4 = true then ((f_X5_boatAt x1 x2 h).bind fun r5 => (match r5 with | none => (some ((-1 : Int32), h)) | some k6 => (some ((gI h 1 k6 0), h)))) else ((f_X7_counted (-1000001 : Int32) h).bind fun r7 => (some (r7.1, r7.2)))))))
set_option maxRecDepth 100000 in
set_option maxHeartbeats 4000000 in
theorem a_X7_at (x1 : Int32) (x2 : Int32) (h : Hp) : CtA eI mX7_at U0 U0 [vr 7 (some 0), vi x1, vi x2] h (f_X7_at x1 x2 h) := by
  refine Ct.of (ls := [some (vr 7 (some 0)), some (vi x1), some (vi x2), none]) (n := 1) (by decide +kernel) rfl rfl rfl ?_
  unfold f_X7_at
  refine A_aload_n (pc := 0) (i := 0) dX7_at_0 rfl rfl ?_
  refine A_getS (pc := 1) (k := 0) (tp := 5) clX7 (Nat.le_of_ble_eq_true rfl) dX7_at_1 kF_X7_10 rfl rfl rfl ?_
  refine A_iload_n (pc := 4) (i := 1) dX7_at_4 rfl rfl ?_
  refine A_callV (pc := 5) (M' := mX5_berthOf) (As := [vi x1]) (st := []) (0, 0) (fun r1 => [vr 0 r1]) (fun _ => h) (a_X5_berthOf x1 h) kD_X5_berthOf kM_X7_94 kI_X5_berthOf kS_X5_berthOf kN_X5 ⟨(Nat.le_of_ble_eq_true rfl), (Nat.le_of_ble_eq_true rfl)⟩ dX7_at_5 rfl rfl rfl (by decide) rfl (Nat.le_of_ble_eq_true rfl) (Nat.le_of_ble_eq_true rfl) (Nat.le_of_ble_eq_true rfl) (fun _ => rfl) (fun _ => rfl) (fun r1 => ?_)
  refine A_ifnull (pc := 8) (tgt := 20) dX7_at_8 (by decide) (fun hz => ?_) (fun k2 hz => ?_)
  · subst hz
    try dsimp only
    refine A_aload_n (pc := 20) (i := 0) dX7_at_20 rfl rfl ?_
    refine A_ldc (pc := 21) (v := (-1000001 : Int32)) dX7_at_21 kK_X7_60 ?_
    refine A_callV (pc := 23) (M' := mX7_counted) (As := [vi (-1000001 : Int32)]) (st := []) (0, 0) (fun r3 => [vi r3.1]) (fun r3 => r3.2) (a_X7_counted (-1000001 : Int32) h) kD_X7_counted kM_X7_48 kI_X7_counted kS_X7_counted kN_X7 ⟨(Nat.le_of_ble_eq_true rfl), (Nat.le_of_ble_eq_true rfl)⟩ dX7_at_23 rfl rfl rfl (by decide) rfl (Nat.le_of_ble_eq_true rfl) (Nat.le_of_ble_eq_true rfl) (Nat.le_of_ble_eq_true rfl) (fun _ => rfl) (fun _ => rfl) (fun r3 => ?_)
    exact A_retI rfl dX7_at_26
  · subst hz
    try dsimp only
    refine A_iload_n (pc := 11) (i := 2) dX7_at_11 rfl rfl ?_
    refine A_iconst (pc := 12) (v := (0 : Int32)) dX7_at_12 (by decide) ?_
    refine A_iconst (pc := 13) (v := (5 : Int32)) dX7_at_13 (by decide) ?_
    refine A_callS (pc := 14) (M' := mX7_isWithin) (As := [vi x2, vi (0 : Int32), vi (5 : Int32)]) (st := []) (0, 0) (fun r4 => [vi (bi r4)]) (fun _ => h) (a_X7_isWithin x2 (0 : Int32) (5 : Int32) h) kD_X7_isWithin kM_X7_77 kT_X7_isWithin kN_X7 ⟨(Nat.le_of_ble_eq_true rfl), (Nat.le_of_ble_eq_true rfl)⟩ dX7_at_14 rfl rfl (Nat.le_of_ble_eq_true rfl) (Nat.le_of_ble_eq_true rfl) (Nat.le_of_ble_eq_true rfl) (fun _ => rfl) (fun _ => rfl) (fun r4 => ?_)
    refine A_ifb_ne (pc := 17) (tgt := 27) dX7_at_17 (by decide) ?_ ?_
    · refine A_aload_n (pc := 27) (i := 0) dX7_at_27 rfl rfl ?_
      refine A_getS (pc := 28) (k := 0) (tp := 5) clX7 (Nat.le_of_ble_eq_true rfl) dX7_at_28 kF_X7_10 rfl rfl rfl ?_
      refine A_iload_n (pc := 31) (i := 1) dX7_at_31 rfl rfl ?_
      refine A_iload_n (pc := 32) (i := 2) dX7_at_32 rfl rfl ?_
      refine A_callV (pc := 33) (M' := mX5_boatAt) (As := [vi x1, vi x2]) (st := []) (0, 0) (fun r5 => [vr 1 r5]) (fun _ => h) (a_X5_boatAt x1 x2 h) kD_X5_boatAt kM_X7_98 kI_X5_boatAt kS_X5_boatAt kN_X5 ⟨(Nat.le_of_ble_eq_true rfl), (Nat.le_of_ble_eq_true rfl)⟩ dX7_at_33 rfl rfl rfl (by decide) rfl (Nat.le_of_ble_eq_true rfl) (Nat.le_of_ble_eq_true rfl) (Nat.le_of_ble_eq_true rfl) (fun _ => rfl) (fun _ => rfl) (fun r5 => ?_)
      refine A_astore_n (pc := 36) (i := 3) (ls2 := [some (vr 7 (some 0)), some (vi x1), some (vi x2), some (vr 1 r5)]) dX7_at_36 rfl (Nat.le_of_ble_eq_true rfl) rfl ?_
      refine A_aload_n (pc := 37) (i := 3) dX7_at_37 rfl rfl ?_
      refine A_ifnonnull (pc := 38) (tgt := 45) dX7_at_38 (by decide) (fun hz => ?_) (fun k6 hz => ?_)
      · subst hz
        try dsimp only
        refine A_iconst (pc := 41) (v := (-1 : Int32)) dX7_at_41 (by decide) ?_
        refine A_goto (pc := 42) (tgt := 49) dX7_at_42 (by decide) ?_
        exact A_retI rfl dX7_at_49
      · subst hz
        try dsimp only
        refine A_aload_n (pc := 45) (i := 3) dX7_at_45 rfl rfl ?_
        refine A_getI (pc := 46) (k := 0) clX1 (Nat.le_of_ble_eq_true rfl) dX7_at_46 kF_X7_87 rfl ?_
        exact A_retI rfl dX7_at_49
    · refine A_aload_n (pc := 20) (i := 0) dX7_at_20 rfl rfl ?_
      refine A_ldc (pc := 21) (v := (-1000001 : Int32)) dX7_at_21 kK_X7_60 ?_
      refine A_callV (pc := 23) (M' := mX7_counted) (As := [vi (-1000001 : Int32)]) (st := []) (0, 0) (fun r7 => [vi r7.1]) (fun r7 => r7.2) (a_X7_counted (-1000001 : Int32) h) kD_X7_counted kM_X7_48 kI_X7_counted kS_X7_counted kN_X7 ⟨(Nat.le_of_ble_eq_true rfl), (Nat.le_of_ble_eq_true rfl)⟩ dX7_at_23 rfl rfl rfl (by decide) rfl (Nat.le_of_ble_eq_true rfl) (Nat.le_of_ble_eq_true rfl) (Nat.le_of_ble_eq_true rfl) (fun _ => rfl) (fun _ => rfl) (fun r7 => ?_)
      exact A_retI rfl dX7_at_26

abbrev mX7_may : MD := (yX7_may, cX7_may, 3, (some .int), { frames := 4, cells := 0, slots := 0, locals := 94 }, none)
theorem kD_X7_may : CodeIn mX7_may 2 := ⟨kC_X7_may, by decide +kernel⟩
def f_X7_may (x1 : Int32) (x2 : Int32) (h : Hp) : Option (Int32 × Hp) := ((f_X5_whyNotOutermost x1 x2 h).bind fun r1 => ((f_X7_counted r1 h).bind fun r2 => (some (r2.1, r2.2))))
set_option maxRecDepth 100000 in
set_option maxHeartbeats 4000000 in
theorem a_X7_may (x1 : Int32) (x2 : Int32) (h : Hp) : CtA eI mX7_may U0 U0 [vr 7 (some 0), vi x1, vi x2] h (f_X7_may x1 x2 h) := by
  refine Ct.of (ls := [some (vr 7 (some 0)), some (vi x1), some (vi x2)]) (n := 0) (by decide +kernel) rfl rfl rfl ?_
  unfold f_X7_may
  refine A_aload_n (pc := 0) (i := 0) dX7_may_0 rfl rfl ?_
  refine A_aload_n (pc := 1) (i := 0) dX7_may_1 rfl rfl ?_
  refine A_getS (pc := 2) (k := 0) (tp := 5) clX7 (Nat.le_of_ble_eq_true rfl) dX7_may_2 kF_X7_10 rfl rfl rfl ?_
  refine A_iload_n (pc := 5) (i := 1) dX7_may_5 rfl rfl ?_
  refine A_iload_n (pc := 6) (i := 2) dX7_may_6 rfl rfl ?_
  refine A_callV (pc := 7) (M' := mX5_whyNotOutermost) (As := [vi x1, vi x2]) (st := [vr 7 (some 0)]) (0, 0) (fun r1 => [vi r1, vr 7 (some 0)]) (fun _ => h) (a_X5_whyNotOutermost x1 x2 h) kD_X5_whyNotOutermost kM_X7_102 kI_X5_whyNotOutermost kS_X5_whyNotOutermost kN_X5 ⟨(Nat.le_of_ble_eq_true rfl), (Nat.le_of_ble_eq_true rfl)⟩ dX7_may_7 rfl rfl rfl (by decide) rfl (Nat.le_of_ble_eq_true rfl) (Nat.le_of_ble_eq_true rfl) (Nat.le_of_ble_eq_true rfl) (fun _ => rfl) (fun _ => rfl) (fun r1 => ?_)
  refine A_callV (pc := 10) (M' := mX7_counted) (As := [vi r1]) (st := []) (0, 0) (fun r2 => [vi r2.1]) (fun r2 => r2.2) (a_X7_counted r1 h) kD_X7_counted kM_X7_48 kI_X7_counted kS_X7_counted kN_X7 ⟨(Nat.le_of_ble_eq_true rfl), (Nat.le_of_ble_eq_true rfl)⟩ dX7_may_10 rfl rfl rfl (by decide) rfl (Nat.le_of_ble_eq_true rfl) (Nat.le_of_ble_eq_true rfl) (Nat.le_of_ble_eq_true rfl) (fun _ => rfl) (fun _ => rfl) (fun r2 => ?_)
  exact A_retI rfl dX7_may_13

abbrev mX7_comes : MD := (yX7_comes, cX7_comes, 3, (some .int), { frames := 5, cells := 0, slots := 0, locals := 119 }, none)
theorem kD_X7_comes : CodeIn mX7_comes 2 := ⟨kC_X7_comes, by decide +kernel⟩
def f_X7_comes (x1 : Int32) (x2 : Int32) (h : Hp) : Option (Int32 × Hp) := ((f_X5_layOutermost x1 x2 h).bind fun r1 => ((f_X7_counted r1.1 r1.2).bind fun r2 => (some (r2.1, r2.2))))
set_option maxRecDepth 100000 in
set_option maxHeartbeats 4000000 in
theorem a_X7_comes (x1 : Int32) (x2 : Int32) (h : Hp) : CtA eI mX7_comes U0 U0 [vr 7 (some 0), vi x1, vi x2] h (f_X7_comes x1 x2 h) := by
  refine Ct.of (ls := [some (vr 7 (some 0)), some (vi x1), some (vi x2)]) (n := 0) (by decide +kernel) rfl rfl rfl ?_
  unfold f_X7_comes
  refine A_aload_n (pc := 0) (i := 0) dX7_comes_0 rfl rfl ?_
  refine A_aload_n (pc := 1) (i := 0) dX7_comes_1 rfl rfl ?_
  refine A_getS (pc := 2) (k := 0) (tp := 5) clX7 (Nat.le_of_ble_eq_true rfl) dX7_comes_2 kF_X7_10 rfl rfl rfl ?_
  refine A_iload_n (pc := 5) (i := 1) dX7_comes_5 rfl rfl ?_
  refine A_iload_n (pc := 6) (i := 2) dX7_comes_6 rfl rfl ?_
  refine A_callV (pc := 7) (M' := mX5_layOutermost) (As := [vi x1, vi x2]) (st := [vr 7 (some 0)]) (0, 0) (fun r1 => [vi r1.1, vr 7 (some 0)]) (fun r1 => r1.2) (a_X5_layOutermost x1 x2 h) kD_X5_layOutermost kM_X7_106 kI_X5_layOutermost kS_X5_layOutermost kN_X5 ⟨(Nat.le_of_ble_eq_true rfl), (Nat.le_of_ble_eq_true rfl)⟩ dX7_comes_7 rfl rfl rfl (by decide) rfl (Nat.le_of_ble_eq_true rfl) (Nat.le_of_ble_eq_true rfl) (Nat.le_of_ble_eq_true rfl) (fun _ => rfl) (fun _ => rfl) (fun r1 => ?_)
  refine A_callV (pc := 10) (M' := mX7_counted) (As := [vi r1.1]) (st := []) (0, 0) (fun r2 => [vi r2.1]) (fun r2 => r2.2) (a_X7_counted r1.1 r1.2) kD_X7_counted kM_X7_48 kI_X7_counted kS_X7_counted kN_X7 ⟨(Nat.le_of_ble_eq_true rfl), (Nat.le_of_ble_eq_true rfl)⟩ dX7_comes_10 rfl rfl rfl (by decide) rfl (Nat.le_of_ble_eq_true rfl) (Nat.le_of_ble_eq_true rfl) (Nat.le_of_ble_eq_true rfl) (fun _ => rfl) (fun _ => rfl) (fun r2 => ?_)
  exact A_retI rfl dX7_comes_13

abbrev mX7_between : MD := (yX7_between, cX7_between, 4, (some .int), { frames := 5, cells := 0, slots := 0, locals := 124 }, none)
theorem kD_X7_between : CodeIn mX7_between 3 := ⟨kC_X7_between, by decide +kernel⟩
def f_X7_between (x1 : Int32) (x2 : Int32) (x3 : Int32) (h : Hp) : Option (Int32 × Hp) := ((f_X5_layBetween x1 x2 x3 h).bind fun r1 => ((f_X7_counted r1.1 r1.2).bind fun r2 => (some (r2.1, r2.2))))
set_option maxRecDepth 100000 in
set_option maxHeartbeats 4000000 in
theorem a_X7_between (x1 : Int32) (x2 : Int32) (x3 : Int32) (h : Hp) : CtA eI mX7_between U0 U0 [vr 7 (some 0), vi x1, vi x2, vi x3] h (f_X7_between x1 x2 x3 h) := by
  refine Ct.of (ls := [some (vr 7 (some 0)), some (vi x1), some (vi x2), some (vi x3)]) (n := 0) (by decide +kernel) rfl rfl rfl ?_
  unfold f_X7_between
  refine A_aload_n (pc := 0) (i := 0) dX7_between_0 rfl rfl ?_
  refine A_aload_n (pc := 1) (i := 0) dX7_between_1 rfl rfl ?_
  refine A_getS (pc := 2) (k := 0) (tp := 5) clX7 (Nat.le_of_ble_eq_true rfl) dX7_between_2 kF_X7_10 rfl rfl rfl ?_
  refine A_iload_n (pc := 5) (i := 1) dX7_between_5 rfl rfl ?_
  refine A_iload_n (pc := 6) (i := 2) dX7_between_6 rfl rfl ?_
  refine A_iload_n (pc := 7) (i := 3) dX7_between_7 rfl rfl ?_
  refine A_callV (pc := 8) (M' := mX5_layBetween) (As := [vi x1, vi x2, vi x3]) (st := [vr 7 (some 0)]) (0, 0) (fun r1 => [vi r1.1, vr 7 (some 0)]) (fun r1 => r1.2) (a_X5_layBetween x1 x2 x3 h) kD_X5_layBetween kM_X7_109 kI_X5_layBetween kS_X5_layBetween kN_X5 ⟨(Nat.le_of_ble_eq_true rfl), (Nat.le_of_ble_eq_true rfl)⟩ dX7_between_8 rfl rfl rfl (by decide) rfl (Nat.le_of_ble_eq_true rfl) (Nat.le_of_ble_eq_true rfl) (Nat.le_of_ble_eq_true rfl) (fun _ => rfl) (fun _ => rfl) (fun r1 => ?_)
  refine A_callV (pc := 11) (M' := mX7_counted) (As := [vi r1.1]) (st := []) (0, 0) (fun r2 => [vi r2.1]) (fun r2 => r2.2) (a_X7_counted r1.1 r1.2) kD_X7_counted kM_X7_48 kI_X7_counted kS_X7_counted kN_X7 ⟨(Nat.le_of_ble_eq_true rfl), (Nat.le_of_ble_eq_true rfl)⟩ dX7_between_11 rfl rfl rfl (by decide) rfl (Nat.le_of_ble_eq_true rfl) (Nat.le_of_ble_eq_true rfl) (Nat.le_of_ble_eq_true rfl) (fun _ => rfl) (fun _ => rfl) (fun r2 => ?_)
  exact A_retI rfl dX7_between_14

abbrev mX7_goes : MD := (yX7_goes, cX7_goes, 3, (some .int), { frames := 3, cells := 0, slots := 0, locals := 72 }, none)
theorem kD_X7_goes : CodeIn mX7_goes 1 := ⟨kC_X7_goes, by decide +kernel⟩
def f_X7_goes (x1 : Int32) (h : Hp) : Option (Int32 × Hp) := ((f_X5_boatOf x1 h).bind fun r1 => (match r1 with | none => ((f_X7_counted (-1000001 : Int32) h).bind fun r3 => (some (r3.1, r3.2))) | some k2 => ((f_X1_isLying k2 h).bind fun r4 => (if r4 = true then ((f_X5_takeAway k2 h).bind fun r6 => (some (r6.1, r6.2))) else ((f_X7_counted (-1000005 : Int32) h).bind fun r5 => (some (r5.1, r5.2)))))))
set_option maxRecDepth 100000 in
set_option maxHeartbeats 4000000 in
theorem a_X7_goes (x1 : Int32) (h : Hp) : CtA eI mX7_goes U0 U0 [vr 7 (some 0), vi x1] h (f_X7_goes x1 h) := by
  refine Ct.of (ls := [some (vr 7 (some 0)), some (vi x1), none]) (n := 1) (by decide +kernel) rfl rfl rfl ?_
  unfold f_X7_goes
  refine A_aload_n (pc := 0) (i := 0) dX7_goes_0 rfl rfl ?_
  refine A_getS (pc := 1) (k := 0) (tp := 5) clX7 (Nat.le_of_ble_eq_true rfl) dX7_goes_1 kF_X7_10 rfl rfl rfl ?_
  refine A_iload_n (pc := 4) (i := 1) dX7_goes_4 rfl rfl ?_
  refine A_callV (pc := 5) (M' := mX5_boatOf) (As := [vi x1]) (st := []) (0, 0) (fun r1 => [vr 1 r1]) (fun _ => h) (a_X5_boatOf x1 h) kD_X5_boatOf kM_X7_56 kI_X5_boatOf kS_X5_boatOf kN_X5 ⟨(Nat.le_of_ble_eq_true rfl), (Nat.le_of_ble_eq_true rfl)⟩ dX7_goes_5 rfl rfl rfl (by decide) rfl (Nat.le_of_ble_eq_true rfl) (Nat.le_of_ble_eq_true rfl) (Nat.le_of_ble_eq_true rfl) (fun _ => rfl) (fun _ => rfl) (fun r1 => ?_)
  refine A_astore_n (pc := 8) (i := 2) (ls2 := [some (vr 7 (some 0)), some (vi x1), some (vr 1 r1)]) dX7_goes_8 rfl (Nat.le_of_ble_eq_true rfl) rfl ?_
  refine A_aload_n (pc := 9) (i := 2) dX7_goes_9 rfl rfl ?_
  refine A_ifnonnull (pc := 10) (tgt := 20) dX7_goes_10 (by decide) (fun hz => ?_) (fun k2 hz => ?_)
  · subst hz
    try dsimp only
    refine A_aload_n (pc := 13) (i := 0) dX7_goes_13 rfl rfl ?_
    refine A_ldc (pc := 14) (v := (-1000001 : Int32)) dX7_goes_14 kK_X7_60 ?_
    refine A_callV (pc := 16) (M' := mX7_counted) (As := [vi (-1000001 : Int32)]) (st := []) (0, 0) (fun r3 => [vi r3.1]) (fun r3 => r3.2) (a_X7_counted (-1000001 : Int32) h) kD_X7_counted kM_X7_48 kI_X7_counted kS_X7_counted kN_X7 ⟨(Nat.le_of_ble_eq_true rfl), (Nat.le_of_ble_eq_true rfl)⟩ dX7_goes_16 rfl rfl rfl (by decide) rfl (Nat.le_of_ble_eq_true rfl) (Nat.le_of_ble_eq_true rfl) (Nat.le_of_ble_eq_true rfl) (fun _ => rfl) (fun _ => rfl) (fun r3 => ?_)
    exact A_retI rfl dX7_goes_19
  · subst hz
    try dsimp only
    refine A_aload_n (pc := 20) (i := 2) dX7_goes_20 rfl rfl ?_
    refine A_callV (pc := 21) (M' := mX1_isLying) (As := []) (st := []) (0, 0) (fun r4 => [vi (bi r4)]) (fun _ => h) (a_X1_isLying k2 h) kD_X1_isLying kM_X7_113 kI_X1_isLying kS_X1_isLying kN_X1 ⟨(Nat.le_of_ble_eq_true rfl), (Nat.le_of_ble_eq_true rfl)⟩ dX7_goes_21 rfl rfl rfl (by decide) rfl (Nat.le_of_ble_eq_true rfl) (Nat.le_of_ble_eq_true rfl) (Nat.le_of_ble_eq_true rfl) (fun _ => rfl) (fun _ => rfl) (fun r4 => ?_)
    refine A_ifb_eq (pc := 24) (tgt := 38) dX7_goes_24 (by decide) ?_ ?_
    · refine A_aload_n (pc := 38) (i := 0) dX7_goes_38 rfl rfl ?_
      refine A_ldc (pc := 39) (v := (-1000005 : Int32)) dX7_goes_39 kK_X7_121 ?_
      refine A_callV (pc := 41) (M' := mX7_counted) (As := [vi (-1000005 : Int32)]) (st := []) (0, 0) (fun r5 => [vi r5.1]) (fun r5 => r5.2) (a_X7_counted (-1000005 : Int32) h) kD_X7_counted kM_X7_48 kI_X7_counted kS_X7_counted kN_X7 ⟨(Nat.le_of_ble_eq_true rfl), (Nat.le_of_ble_eq_true rfl)⟩ dX7_goes_41 rfl rfl rfl (by decide) rfl (Nat.le_of_ble_eq_true rfl) (Nat.le_of_ble_eq_true rfl) (Nat.le_of_ble_eq_true rfl) (fun _ => rfl) (fun _ => rfl) (fun r5 => ?_)
      exact A_retI rfl dX7_goes_44
    · refine A_aload_n (pc := 27) (i := 0) dX7_goes_27 rfl rfl ?_
      refine A_getS (pc := 28) (k := 0) (tp := 5) clX7 (Nat.le_of_ble_eq_true rfl) dX7_goes_28 kF_X7_10 rfl rfl rfl ?_
      refine A_aload_n (pc := 31) (i := 2) dX7_goes_31 rfl rfl ?_
      refine A_callV (pc := 32) (M' := mX5_takeAway) (As := [vr 1 (some k2)]) (st := []) (0, 0) (fun r6 => [vi r6.1]) (fun r6 => r6.2) (a_X5_takeAway k2 h) kD_X5_takeAway kM_X7_117 kI_X5_takeAway kS_X5_takeAway kN_X5 ⟨(Nat.le_of_ble_eq_true rfl), (Nat.le_of_ble_eq_true rfl)⟩ dX7_goes_32 rfl rfl rfl (by decide) rfl (Nat.le_of_ble_eq_true rfl) (Nat.le_of_ble_eq_true rfl) (Nat.le_of_ble_eq_true rfl) (fun _ => rfl) (fun _ => rfl) (fun r6 => ?_)
      refine A_goto (pc := 35) (tgt := 44) dX7_goes_35 (by decide) ?_
      exact A_retI rfl dX7_goes_44

abbrev mX7_fault : MD := (yX7_fault, cX7_fault, 2, (some .int), { frames := 4, cells := 0, slots := 0, locals := 93 }, none)
theorem kD_X7_fault : CodeIn mX7_fault 1 := ⟨kC_X7_fault, by decide +kernel⟩
def f_X7_fault (x1 : Int32) (h : Hp) : Option (Int32 × Hp) := ((f_X5_firstFault x1 h).bind fun r1 => ((f_X7_counted r1 h).bind fun r2 => (some (r2.1, r2.2))))
set_option maxRecDepth 100000 in
set_option maxHeartbeats 4000000 in
theorem a_X7_fault (x1 : Int32) (h : Hp) : CtA eI mX7_fault U0 U0 [vr 7 (some 0), vi x1] h (f_X7_fault x1 h) := by
  refine Ct.of (ls := [some (vr 7 (some 0)), some (vi x1)]) (n := 0) (by decide +kernel) rfl rfl rfl ?_
  unfold f_X7_fault
  refine A_aload_n (pc := 0) (i := 0) dX7_fault_0 rfl rfl ?_
  refine A_aload_n (pc := 1) (i := 0) dX7_fault_1 rfl rfl ?_
  refine A_getS (pc := 2) (k := 0) (tp := 5) clX7 (Nat.le_of_ble_eq_true rfl) dX7_fault_2 kF_X7_10 rfl rfl rfl ?_
  refine A_iload_n (pc := 5) (i := 1) dX7_fault_5 rfl rfl ?_
  refine A_callV (pc := 6) (M' := mX5_firstFault) (As := [vi x1]) (st := [vr 7 (some 0)]) (0, 0) (fun r1 => [vi r1, vr 7 (some 0)]) (fun _ => h) (a_X5_firstFault x1 h) kD_X5_firstFault kM_X7_122 kI_X5_firstFault kS_X5_firstFault kN_X5 ⟨(Nat.le_of_ble_eq_true rfl), (Nat.le_of_ble_eq_true rfl)⟩ dX7_fault_6 rfl rfl rfl (by decide) rfl (Nat.le_of_ble_eq_true rfl) (Nat.le_of_ble_eq_true rfl) (Nat.le_of_ble_eq_true rfl) (fun _ => rfl) (fun _ => rfl) (fun r1 => ?_)
  refine A_callV (pc := 9) (M' := mX7_counted) (As := [vi r1]) (st := []) (0, 0) (fun r2 => [vi r2.1]) (fun r2 => r2.2) (a_X7_counted r1 h) kD_X7_counted kM_X7_48 kI_X7_counted kS_X7_counted kN_X7 ⟨(Nat.le_of_ble_eq_true rfl), (Nat.le_of_ble_eq_true rfl)⟩ dX7_fault_9 rfl rfl rfl (by decide) rfl (Nat.le_of_ble_eq_true rfl) (Nat.le_of_ble_eq_true rfl) (Nat.le_of_ble_eq_true rfl) (fun _ => rfl) (fun _ => rfl) (fun r2 => ?_)
  exact A_retI rfl dX7_fault_12

abbrev mX7_pairs : MD := (yX7_pairs, cX7_pairs, 3, (some .int), { frames := 3, cells := 0, slots := 0, locals := 75 }, none)
theorem kD_X7_pairs : CodeIn mX7_pairs 2 := ⟨kC_X7_pairs, by decide +kernel⟩
def f_X7_pairs (x1 : Int32) (x2 : Int32) (h : Hp) : Option (Int32 × Hp) := ((f_X5_countPairs x1 x2 h).bind fun r1 => ((f_X7_counted r1 h).bind fun r2 => (some (r2.1, r2.2))))
set_option maxRecDepth 100000 in
set_option maxHeartbeats 4000000 in
theorem a_X7_pairs (x1 : Int32) (x2 : Int32) (h : Hp) : CtA eI mX7_pairs U0 U0 [vr 7 (some 0), vi x1, vi x2] h (f_X7_pairs x1 x2 h) := by
  refine Ct.of (ls := [some (vr 7 (some 0)), some (vi x1), some (vi x2)]) (n := 0) (by decide +kernel) rfl rfl rfl ?_
  unfold f_X7_pairs
  refine A_aload_n (pc := 0) (i := 0) dX7_pairs_0 rfl rfl ?_
  refine A_aload_n (pc := 1) (i := 0) dX7_pairs_1 rfl rfl ?_
  refine A_getS (pc := 2) (k := 0) (tp := 5) clX7 (Nat.le_of_ble_eq_true rfl) dX7_pairs_2 kF_X7_10 rfl rfl rfl ?_
  refine A_iload_n (pc := 5) (i := 1) dX7_pairs_5 rfl rfl ?_
  refine A_iload_n (pc := 6) (i := 2) dX7_pairs_6 rfl rfl ?_
  refine A_callV (pc := 7) (M' := mX5_countPairs) (As := [vi x1, vi x2]) (st := [vr 7 (some 0)]) (0, 0) (fun r1 => [vi r1, vr 7 (some 0)]) (fun _ => h) (a_X5_countPairs x1 x2 h) kD_X5_countPairs kM_X7_125 kI_X5_countPairs kS_X5_countPairs kN_X5 ⟨(Nat.le_of_ble_eq_true rfl), (Nat.le_of_ble_eq_true rfl)⟩ dX7_pairs_7 rfl rfl rfl (by decide) rfl (Nat.le_of_ble_eq_true rfl) (Nat.le_of_ble_eq_true rfl) (Nat.le_of_ble_eq_true rfl) (fun _ => rfl) (fun _ => rfl) (fun r1 => ?_)
  refine A_callV (pc := 10) (M' := mX7_counted) (As := [vi r1]) (st := []) (0, 0) (fun r2 => [vi r2.1]) (fun r2 => r2.2) (a_X7_counted r1 h) kD_X7_counted kM_X7_48 kI_X7_counted kS_X7_counted kN_X7 ⟨(Nat.le_of_ble_eq_true rfl), (Nat.le_of_ble_eq_true rfl)⟩ dX7_pairs_10 rfl rfl rfl (by decide) rfl (Nat.le_of_ble_eq_true rfl) (Nat.le_of_ble_eq_true rfl) (Nat.le_of_ble_eq_true rfl) (fun _ => rfl) (fun _ => rfl) (fun r2 => ?_)
  exact A_retI rfl dX7_pairs_13

abbrev mX7_offer : MD := (yX7_offer, cX7_offer, 2, (some .int), { frames := 5, cells := 0, slots := 0, locals := 120 }, none)
theorem kD_X7_offer : CodeIn mX7_offer 1 := ⟨kC_X7_offer, by decide +kernel⟩
def f_X7_offer (x1 : Int32) (h : Hp) : Option (Int32 × Hp) := ((f_X5_bestBerth x1 h).bind fun r1 => ((f_X7_counted r1 h).bind fun r2 => (some (r2.1, r2.2))))
set_option maxRecDepth 100000 in
set_option maxHeartbeats 4000000 in
theorem a_X7_offer (x1 : Int32) (h : Hp) : CtA eI mX7_offer U0 U0 [vr 7 (some 0), vi x1] h (f_X7_offer x1 h) := by
  refine Ct.of (ls := [some (vr 7 (some 0)), some (vi x1)]) (n := 0) (by decide +kernel) rfl rfl rfl ?_
  unfold f_X7_offer
  refine A_aload_n (pc := 0) (i := 0) dX7_offer_0 rfl rfl ?_
  refine A_aload_n (pc := 1) (i := 0) dX7_offer_1 rfl rfl ?_
  refine A_getS (pc := 2) (k := 0) (tp := 5) clX7 (Nat.le_of_ble_eq_true rfl) dX7_offer_2 kF_X7_10 rfl rfl rfl ?_
  refine A_iload_n (pc := 5) (i := 1) dX7_offer_5 rfl rfl ?_
  refine A_callV (pc := 6) (M' := mX5_bestBerth) (As := [vi x1]) (st := [vr 7 (some 0)]) (0, 0) (fun r1 => [vi r1, vr 7 (some 0)]) (fun _ => h) (a_X5_bestBerth x1 h) kD_X5_bestBerth kM_X7_129 kI_X5_bestBerth kS_X5_bestBerth kN_X5 ⟨(Nat.le_of_ble_eq_true rfl), (Nat.le_of_ble_eq_true rfl)⟩ dX7_offer_6 rfl rfl rfl (by decide) rfl (Nat.le_of_ble_eq_true rfl) (Nat.le_of_ble_eq_true rfl) (Nat.le_of_ble_eq_true rfl) (fun _ => rfl) (fun _ => rfl) (fun r1 => ?_)
  refine A_callV (pc := 9) (M' := mX7_counted) (As := [vi r1]) (st := []) (0, 0) (fun r2 => [vi r2.1]) (fun r2 => r2.2) (a_X7_counted r1 h) kD_X7_counted kM_X7_48 kI_X7_counted kS_X7_counted kN_X7 ⟨(Nat.le_of_ble_eq_true rfl), (Nat.le_of_ble_eq_true rfl)⟩ dX7_offer_9 rfl rfl rfl (by decide) rfl (Nat.le_of_ble_eq_true rfl) (Nat.le_of_ble_eq_true rfl) (Nat.le_of_ble_eq_true rfl) (fun _ => rfl) (fun _ => rfl) (fun r2 => ?_)
  exact A_retI rfl dX7_offer_12

abbrev mX7_plan : MD := (yX7_plan, cX7_plan, 3, (some .int), { frames := 5, cells := 0, slots := 0, locals := 140 }, none)
theorem kD_X7_plan : CodeIn mX7_plan 1 := ⟨kC_X7_plan, by decide +kernel⟩
def f_X7_plan (x1 : Int32) (h : Hp) : Option (Int32 × Hp) := ((f_X4_refuses x1 h).bind fun r1 => (if r1 = 0 then ((f_X4_find x1 h).bind fun r2 => ((f_X7_counted r2.1 r2.2).bind fun r3 => (some (r3.1, r3.2)))) else ((f_X7_counted r1 h).bind fun r4 => (some (r4.1, r4.2)))))
set_option maxRecDepth 100000 in
set_option maxHeartbeats 4000000 in
theorem a_X7_plan (x1 : Int32) (h : Hp) : CtA eI mX7_plan U0 U0 [vr 7 (some 0), vi x1] h (f_X7_plan x1 h) := by
  refine Ct.of (ls := [some (vr 7 (some 0)), some (vi x1), none]) (n := 1) (by decide +kernel) rfl rfl rfl ?_
  unfold f_X7_plan
  refine A_aload_n (pc := 0) (i := 0) dX7_plan_0 rfl rfl ?_
  refine A_getS (pc := 1) (k := 2) (tp := 4) clX7 (Nat.le_of_ble_eq_true rfl) dX7_plan_1 kF_X7_26 rfl rfl rfl ?_
  refine A_aload_n (pc := 4) (i := 0) dX7_plan_4 rfl rfl ?_
  refine A_getS (pc := 5) (k := 0) (tp := 5) clX7 (Nat.le_of_ble_eq_true rfl) dX7_plan_5 kF_X7_10 rfl rfl rfl ?_
  refine A_iload_n (pc := 8) (i := 1) dX7_plan_8 rfl rfl ?_
  refine A_callV (pc := 9) (M' := mX4_refuses) (As := [vr 5 (some 0), vi x1]) (st := []) (0, 0) (fun r1 => [vi r1]) (fun _ => h) (a_X4_refuses x1 h) kD_X4_refuses kM_X7_132 kI_X4_refuses kS_X4_refuses kN_X4 ⟨(Nat.le_of_ble_eq_true rfl), (Nat.le_of_ble_eq_true rfl)⟩ dX7_plan_9 rfl rfl rfl (by decide) rfl (Nat.le_of_ble_eq_true rfl) (Nat.le_of_ble_eq_true rfl) (Nat.le_of_ble_eq_true rfl) (fun _ => rfl) (fun _ => rfl) (fun r1 => ?_)
  refine A_istore_n (pc := 12) (i := 2) (ls2 := [some (vr 7 (some 0)), some (vi x1), some (vi r1)]) dX7_plan_12 rfl (Nat.le_of_ble_eq_true rfl) rfl ?_
  refine A_aload_n (pc := 13) (i := 0) dX7_plan_13 rfl rfl ?_
  refine A_iload_n (pc := 14) (i := 2) dX7_plan_14 rfl rfl ?_
  refine A_if_eq (pc := 15) (tgt := 22) dX7_plan_15 (by decide) ?_ ?_
  · refine A_aload_n (pc := 22) (i := 0) dX7_plan_22 rfl rfl ?_
    refine A_getS (pc := 23) (k := 2) (tp := 4) clX7 (Nat.le_of_ble_eq_true rfl) dX7_plan_23 kF_X7_26 rfl rfl rfl ?_
    refine A_aload_n (pc := 26) (i := 0) dX7_plan_26 rfl rfl ?_
    refine A_getS (pc := 27) (k := 0) (tp := 5) clX7 (Nat.le_of_ble_eq_true rfl) dX7_plan_27 kF_X7_10 rfl rfl rfl ?_
    refine A_iload_n (pc := 30) (i := 1) dX7_plan_30 rfl rfl ?_
    refine A_callV (pc := 31) (M' := mX4_find) (As := [vr 5 (some 0), vi x1]) (st := [vr 7 (some 0)]) (0, 0) (fun r2 => [vi r2.1, vr 7 (some 0)]) (fun r2 => r2.2) (a_X4_find x1 h) kD_X4_find kM_X7_136 kI_X4_find kS_X4_find kN_X4 ⟨(Nat.le_of_ble_eq_true rfl), (Nat.le_of_ble_eq_true rfl)⟩ dX7_plan_31 rfl rfl rfl (by decide) rfl (Nat.le_of_ble_eq_true rfl) (Nat.le_of_ble_eq_true rfl) (Nat.le_of_ble_eq_true rfl) (fun _ => rfl) (fun _ => rfl) (fun r2 => ?_)
    refine A_callV (pc := 34) (M' := mX7_counted) (As := [vi r2.1]) (st := []) (0, 0) (fun r3 => [vi r3.1]) (fun r3 => r3.2) (a_X7_counted r2.1 r2.2) kD_X7_counted kM_X7_48 kI_X7_counted kS_X7_counted kN_X7 ⟨(Nat.le_of_ble_eq_true rfl), (Nat.le_of_ble_eq_true rfl)⟩ dX7_plan_34 rfl rfl rfl (by decide) rfl (Nat.le_of_ble_eq_true rfl) (Nat.le_of_ble_eq_true rfl) (Nat.le_of_ble_eq_true rfl) (fun _ => rfl) (fun _ => rfl) (fun r3 => ?_)
    exact A_retI rfl dX7_plan_37
  · refine A_iload_n (pc := 18) (i := 2) dX7_plan_18 rfl rfl ?_
    refine A_goto (pc := 19) (tgt := 34) dX7_plan_19 (by decide) ?_
    refine A_callV (pc := 34) (M' := mX7_counted) (As := [vi r1]) (st := []) (0, 0) (fun r4 => [vi r4.1]) (fun r4 => r4.2) (a_X7_counted r1 h) kD_X7_counted kM_X7_48 kI_X7_counted kS_X7_counted kN_X7 ⟨(Nat.le_of_ble_eq_true rfl), (Nat.le_of_ble_eq_true rfl)⟩ dX7_plan_34 rfl rfl rfl (by decide) rfl (Nat.le_of_ble_eq_true rfl) (Nat.le_of_ble_eq_true rfl) (Nat.le_of_ble_eq_true rfl) (fun _ => rfl) (fun _ => rfl) (fun r4 => ?_)
    exact A_retI rfl dX7_plan_37

abbrev mX7_lies : MD := (yX7_lies, cX7_lies, 5, (some .int), { frames := 5, cells := 0, slots := 0, locals := 140 }, none)
theorem kD_X7_lies : CodeIn mX7_lies 3 := ⟨kC_X7_lies, by decide +kernel⟩
def f_X7_lies (x1 : Int32) (x2 : Int32) (x3 : Int32) (h : Hp) : Option (Int32 × Hp) := ((f_X4_refuses x1 h).bind fun r1 => (if r1 = 0 then ((f_X7_isInSet x1 x2 h).bind fun r2 => (if r2 = true then ((f_X4_find x1 h).bind fun r3 => (if r3.1 = (-1000004 : Int32) then ((f_X7_counted (-1000004 : Int32) r3.2).bind fun r6 => (some (r6.1, r6.2))) else (if x3 = 0 then ((f_X4_berthFor x1 x2 r3.2).bind fun r4 => (some (r4, r3.2))) else ((f_X4_placeFor x1 x2 r3.2).bind fun r5 => (some (r5, r3.2)))))) else ((f_X7_counted (-1000003 : Int32) h).bind fun r7 => (some (r7.1, r7.2))))) else ((f_X7_counted r1 h).bind fun r8 => (some (r8.1, r8.2)))))
set_option maxRecDepth 100000 in
set_option maxHeartbeats 4000000 in
theorem a_X7_lies (x1 : Int32) (x2 : Int32) (x3 : Int32) (h : Hp) : CtA eI mX7_lies U0 U0 [vr 7 (some 0), vi x1, vi x2, vi x3] h (f_X7_lies x1 x2 x3 h) := by
  refine Ct.of (ls := [some (vr 7 (some 0)), some (vi x1), some (vi x2), some (vi x3), none]) (n := 1) (by decide +kernel) rfl rfl rfl ?_
  unfold f_X7_lies
  refine A_aload_n (pc := 0) (i := 0) dX7_lies_0 rfl rfl ?_
  refine A_getS (pc := 1) (k := 2) (tp := 4) clX7 (Nat.le_of_ble_eq_true rfl) dX7_lies_1 kF_X7_26 rfl rfl rfl ?_
  refine A_aload_n (pc := 4) (i := 0) dX7_lies_4 rfl rfl ?_
  refine A_getS (pc := 5) (k := 0) (tp := 5) clX7 (Nat.le_of_ble_eq_true rfl) dX7_lies_5 kF_X7_10 rfl rfl rfl ?_
  refine A_iload_n (pc := 8) (i := 1) dX7_lies_8 rfl rfl ?_
  refine A_callV (pc := 9) (M' := mX4_refuses) (As := [vr 5 (some 0), vi x1]) (st := []) (0, 0) (fun r1 => [vi r1]) (fun _ => h) (a_X4_refuses x1 h) kD_X4_refuses kM_X7_132 kI_X4_refuses kS_X4_refuses kN_X4 ⟨(Nat.le_of_ble_eq_true rfl), (Nat.le_of_ble_eq_true rfl)⟩ dX7_lies_9 rfl rfl rfl (by decide) rfl (Nat.le_of_ble_eq_true rfl) (Nat.le_of_ble_eq_true rfl) (Nat.le_of_ble_eq_true rfl) (fun _ => rfl) (fun _ => rfl) (fun r1 => ?_)
  refine A_istore (pc := 12) (i := 4) (ls2 := [some (vr 7 (some 0)), some (vi x1), some (vi x2), some (vi x3), some (vi r1)]) dX7_lies_12 (Nat.le_of_ble_eq_true rfl) rfl ?_
  refine A_iload (pc := 14) (i := 4) dX7_lies_14 rfl ?_
  refine A_if_eq (pc := 16) (tgt := 26) dX7_lies_16 (by decide) ?_ ?_
  · refine A_iload_n (pc := 26) (i := 1) dX7_lies_26 rfl rfl ?_
    refine A_iload_n (pc := 27) (i := 2) dX7_lies_27 rfl rfl ?_
    refine A_callS (pc := 28) (M' := mX7_isInSet) (As := [vi x1, vi x2]) (st := []) (0, 0) (fun r2 => [vi (bi r2)]) (fun _ => h) (a_X7_isInSet x1 x2 h) kD_X7_isInSet kM_X7_139 kT_X7_isInSet kN_X7 ⟨(Nat.le_of_ble_eq_true rfl), (Nat.le_of_ble_eq_true rfl)⟩ dX7_lies_28 rfl rfl (Nat.le_of_ble_eq_true rfl) (Nat.le_of_ble_eq_true rfl) (Nat.le_of_ble_eq_true rfl) (fun _ => rfl) (fun _ => rfl) (fun r2 => ?_)
    refine A_ifb_ne (pc := 31) (tgt := 41) dX7_lies_31 (by decide) ?_ ?_
    · refine A_aload_n (pc := 41) (i := 0) dX7_lies_41 rfl rfl ?_
      refine A_getS (pc := 42) (k := 2) (tp := 4) clX7 (Nat.le_of_ble_eq_true rfl) dX7_lies_42 kF_X7_26 rfl rfl rfl ?_
      refine A_aload_n (pc := 45) (i := 0) dX7_lies_45 rfl rfl ?_
      refine A_getS (pc := 46) (k := 0) (tp := 5) clX7 (Nat.le_of_ble_eq_true rfl) dX7_lies_46 kF_X7_10 rfl rfl rfl ?_
      refine A_iload_n (pc := 49) (i := 1) dX7_lies_49 rfl rfl ?_
      refine A_callV (pc := 50) (M' := mX4_find) (As := [vr 5 (some 0), vi x1]) (st := []) (0, 0) (fun r3 => [vi r3.1]) (fun r3 => r3.2) (a_X4_find x1 h) kD_X4_find kM_X7_136 kI_X4_find kS_X4_find kN_X4 ⟨(Nat.le_of_ble_eq_true rfl), (Nat.le_of_ble_eq_true rfl)⟩ dX7_lies_50 rfl rfl rfl (by decide) rfl (Nat.le_of_ble_eq_true rfl) (Nat.le_of_ble_eq_true rfl) (Nat.le_of_ble_eq_true rfl) (fun _ => rfl) (fun _ => rfl) (fun r3 => ?_)
      refine A_ldc (pc := 53) (v := (-1000004 : Int32)) dX7_lies_53 kK_X7_143 ?_
      refine A_icmp_ne (pc := 55) (tgt := 65) dX7_lies_55 (by decide) ?_ ?_
      · refine A_iload_n (pc := 65) (i := 3) dX7_lies_65 rfl rfl ?_
        refine A_if_eq (pc := 66) (tgt := 81) dX7_lies_66 (by decide) ?_ ?_
        · refine A_aload_n (pc := 81) (i := 0) dX7_lies_81 rfl rfl ?_
          refine A_getS (pc := 82) (k := 2) (tp := 4) clX7 (Nat.le_of_ble_eq_true rfl) dX7_lies_82 kF_X7_26 rfl rfl rfl ?_
          refine A_iload_n (pc := 85) (i := 1) dX7_lies_85 rfl rfl ?_
          refine A_iload_n (pc := 86) (i := 2) dX7_lies_86 rfl rfl ?_
          refine A_callV (pc := 87) (M' := mX4_berthFor) (As := [vi x1, vi x2]) (st := []) (0, 0) (fun r4 => [vi r4]) (fun _ => r3.2) (a_X4_berthFor x1 x2 r3.2) kD_X4_berthFor kM_X7_147 kI_X4_berthFor kS_X4_berthFor kN_X4 ⟨(Nat.le_of_ble_eq_true rfl), (Nat.le_of_ble_eq_true rfl)⟩ dX7_lies_87 rfl rfl rfl (by decide) rfl (Nat.le_of_ble_eq_true rfl) (Nat.le_of_ble_eq_true rfl) (Nat.le_of_ble_eq_true rfl) (fun _ => rfl) (fun _ => rfl) (fun r4 => ?_)
          exact A_retI rfl dX7_lies_90
        · refine A_aload_n (pc := 69) (i := 0) dX7_lies_69 rfl rfl ?_
          refine A_getS (pc := 70) (k := 2) (tp := 4) clX7 (Nat.le_of_ble_eq_true rfl) dX7_lies_70 kF_X7_26 rfl rfl rfl ?_
          refine A_iload_n (pc := 73) (i := 1) dX7_lies_73 rfl rfl ?_
          refine A_iload_n (pc := 74) (i := 2) dX7_lies_74 rfl rfl ?_
          refine A_callV (pc := 75) (M' := mX4_placeFor) (As := [vi x1, vi x2]) (st := []) (0, 0) (fun r5 => [vi r5]) (fun _ => r3.2) (a_X4_placeFor x1 x2 r3.2) kD_X4_placeFor kM_X7_144 kI_X4_placeFor kS_X4_placeFor kN_X4 ⟨(Nat.le_of_ble_eq_true rfl), (Nat.le_of_ble_eq_true rfl)⟩ dX7_lies_75 rfl rfl rfl (by decide) rfl (Nat.le_of_ble_eq_true rfl) (Nat.le_of_ble_eq_true rfl) (Nat.le_of_ble_eq_true rfl) (fun _ => rfl) (fun _ => rfl) (fun r5 => ?_)
          refine A_goto (pc := 78) (tgt := 90) dX7_lies_78 (by decide) ?_
          exact A_retI rfl dX7_lies_90
      · refine A_aload_n (pc := 58) (i := 0) dX7_lies_58 rfl rfl ?_
        refine A_ldc (pc := 59) (v := (-1000004 : Int32)) dX7_lies_59 kK_X7_143 ?_
        refine A_callV (pc := 61) (M' := mX7_counted) (As := [vi (-1000004 : Int32)]) (st := []) (0, 0) (fun r6 => [vi r6.1]) (fun r6 => r6.2) (a_X7_counted (-1000004 : Int32) r3.2) kD_X7_counted kM_X7_48 kI_X7_counted kS_X7_counted kN_X7 ⟨(Nat.le_of_ble_eq_true rfl), (Nat.le_of_ble_eq_true rfl)⟩ dX7_lies_61 rfl rfl rfl (by decide) rfl (Nat.le_of_ble_eq_true rfl) (Nat.le_of_ble_eq_true rfl) (Nat.le_of_ble_eq_true rfl) (fun _ => rfl) (fun _ => rfl) (fun r6 => ?_)
        exact A_retI rfl dX7_lies_64
    · refine A_aload_n (pc := 34) (i := 0) dX7_lies_34 rfl rfl ?_
      refine A_ldc (pc := 35) (v := (-1000003 : Int32)) dX7_lies_35 kK_X7_90 ?_
      refine A_callV (pc := 37) (M' := mX7_counted) (As := [vi (-1000003 : Int32)]) (st := []) (0, 0) (fun r7 => [vi r7.1]) (fun r7 => r7.2) (a_X7_counted (-1000003 : Int32) h) kD_X7_counted kM_X7_48 kI_X7_counted kS_X7_counted kN_X7 ⟨(Nat.le_of_ble_eq_true rfl), (Nat.le_of_ble_eq_true rfl)⟩ dX7_lies_37 rfl rfl rfl (by decide) rfl (Nat.le_of_ble_eq_true rfl) (Nat.le_of_ble_eq_true rfl) (Nat.le_of_ble_eq_true rfl) (fun _ => rfl) (fun _ => rfl) (fun r7 => ?_)
      exact A_retI rfl dX7_lies_40
  · refine A_aload_n (pc := 19) (i := 0) dX7_lies_19 rfl rfl ?_
    refine A_iload (pc := 20) (i := 4) dX7_lies_20 rfl ?_
    refine A_callV (pc := 22) (M' := mX7_counted) (As := [vi r1]) (st := []) (0, 0) (fun r8 => [vi r8.1]) (fun r8 => r8.2) (a_X7_counted r1 h) kD_X7_counted kM_X7_48 kI_X7_counted kS_X7_counted kN_X7 ⟨(Nat.le_of_ble_eq_true rfl), (Nat.le_of_ble_eq_true rfl)⟩ dX7_lies_22 rfl rfl rfl (by decide) rfl (Nat.le_of_ble_eq_true rfl) (Nat.le_of_ble_eq_true rfl) (Nat.le_of_ble_eq_true rfl) (fun _ => rfl) (fun _ => rfl) (fun r8 => ?_)
    exact A_retI rfl dX7_lies_25

abbrev mX7_layAnew : MD := (yX7_layAnew, cX7_layAnew, 8, (some .int), { frames := 3, cells := 0, slots := 0, locals := 66 }, none)
theorem kD_X7_layAnew : CodeIn mX7_layAnew 1 := ⟨kC_X7_layAnew, by decide +kernel⟩
def fJ_X7_layAnew_106 (c4 : Int32 → Int32 → Int32 → Hp → Option (Int32 × Hp)) (x1 : Int32) (x2 : Int32) (x3 : Int32) (i4 : Nat) (x6 : Int32) (x7 : Int32) (h : Hp) : Option (Int32 × Hp) := ((f_X1_layAt i4 x6 x7 h).bind fun r5 => (c4 x1 x2 (x3 + 1) r5))
set_option maxRecDepth 100000 in
set_option maxHeartbeats 4000000 in
theorem aJ_X7_layAnew_106 (c4 : Int32 → Int32 → Int32 → Hp → Option (Int32 × Hp)) (hc4 : ∀ (x1 : Int32) (x2 : Int32) (x3 : Int32) (h : Hp), Aw eI U0 mX7_layAnew (0, 0) U0 4 [some (vr 7 (some 0)), some (vi x1), some (vi x2), some (vi x3), none, none, none, none] [] h (c4 x1 x2 x3 h)) (x1 : Int32) (x2 : Int32) (x3 : Int32) (i4 : Nat) (x6 : Int32) (x7 : Int32) (h : Hp) : Aw eI U0 mX7_layAnew (0, 0) U0 106 [some (vr 7 (some 0)), some (vi x1), some (vi x2), some (vi x3), some (vr 1 (some i4)), none, some (vi x6), some (vi x7)] [] h (fJ_X7_layAnew_106 c4 x1 x2 x3 i4 x6 x7 h) := by
  unfold fJ_X7_layAnew_106
  refine A_aload (pc := 106) (i := 4) dX7_layAnew_106 rfl ?_
  refine A_iload (pc := 108) (i := 6) dX7_layAnew_108 rfl ?_
  refine A_iload (pc := 110) (i := 7) dX7_layAnew_110 rfl ?_
  refine A_callV (pc := 112) (M' := mX1_layAt) (As := [vi x6, vi x7]) (st := []) (0, 0) (fun r5 => []) (fun r5 => r5) (a_X1_layAt i4 x6 x7 h) kD_X1_layAt kM_X7_159 kI_X1_layAt kS_X1_layAt kN_X1 ⟨(Nat.le_of_ble_eq_true rfl), (Nat.le_of_ble_eq_true rfl)⟩ dX7_layAnew_112 rfl rfl rfl (by decide) rfl (Nat.le_of_ble_eq_true rfl) (Nat.le_of_ble_eq_true rfl) (Nat.le_of_ble_eq_true rfl) (fun _ => rfl) (fun _ => rfl) (fun r5 => ?_)
  refine A_iinc (pc := 115) (i := 3) (v := (x3 + 1)) (ls2 := [some (vr 7 (some 0)), some (vi x1), some (vi x2), some (vi (x3 + 1)), some (vr 1 (some i4)), none, some (vi x6), some (vi x7)]) dX7_layAnew_115 rfl rfl (Nat.le_of_ble_eq_true rfl) rfl ?_
  refine A_goto (pc := 118) (tgt := 4) dX7_layAnew_118 (by decide) ?_
  exact Aw.weak (ls' := [some (vr 7 (some 0)), some (vi x1), some (vi x2), some (vi (x3 + 1)), none, none, none, none]) ⟨rfl, ⟨rfl, ⟨rfl, ⟨rfl, trivial⟩⟩⟩⟩ (hc4 x1 x2 (x3 + 1) r5)
def fJ_X7_layAnew_103 (c4 : Int32 → Int32 → Int32 → Hp → Option (Int32 × Hp)) (x1 : Int32) (x2 : Int32) (x3 : Int32) (i4 : Nat) (x6 : Int32) (x7 : Int32) (h : Hp) : Option (Int32 × Hp) := (fJ_X7_layAnew_106 c4 x1 (x2 + 1) x3 i4 x6 x7 h)
set_option maxRecDepth 100000 in
set_option maxHeartbeats 4000000 in
theorem aJ_X7_layAnew_103 (c4 : Int32 → Int32 → Int32 → Hp → Option (Int32 × Hp)) (hc4 : ∀ (x1 : Int32) (x2 : Int32) (x3 : Int32) (h : Hp), Aw eI U0 mX7_layAnew (0, 0) U0 4 [some (vr 7 (some 0)), some (vi x1), some (vi x2), some (vi x3), none, none, none, none] [] h (c4 x1 x2 x3 h)) (x1 : Int32) (x2 : Int32) (x3 : Int32) (i4 : Nat) (x6 : Int32) (x7 : Int32) (h : Hp) : Aw eI U0 mX7_layAnew (0, 0) U0 103 [some (vr 7 (some 0)), some (vi x1), some (vi x2), some (vi x3), some (vr 1 (some i4)), none, some (vi x6), some (vi x7)] [] h (fJ_X7_layAnew_103 c4 x1 x2 x3 i4 x6 x7 h) := by
  unfold fJ_X7_layAnew_103
  refine A_iinc (pc := 103) (i := 2) (v := (x2 + 1)) (ls2 := [some (vr 7 (some 0)), some (vi x1), some (vi (x2 + 1)), some (vi x3), some (vr 1 (some i4)), none, some (vi x6), some (vi x7)]) dX7_layAnew_103 rfl rfl (Nat.le_of_ble_eq_true rfl) rfl ?_
  exact Aw.weak (ls' := [some (vr 7 (some 0)), some (vi x1), some (vi (x2 + 1)), some (vi x3), some (vr 1 (some i4)), none, some (vi x6), some (vi x7)]) ⟨rfl, ⟨rfl, ⟨rfl, ⟨rfl, ⟨rfl, ⟨rfl, ⟨rfl, trivial⟩⟩⟩⟩⟩⟩⟩ (aJ_X7_layAnew_106 c4 hc4 x1 (x2 + 1) x3 i4 x6 x7 h)
def fJ_X7_layAnew_73 (c4 : Int32 → Int32 → Int32 → Hp → Option (Int32 × Hp)) (x1 : Int32) (x2 : Int32) (x3 : Int32) (i4 : Nat) (x6 : Int32) (xs0 : Int32) (h : Hp) : Option (Int32 × Hp) := ((f_X1_isLying i4 h).bind fun r4 => (if r4 = true then (if (gI h 1 i4 8) = x6 then (if (gI h 1 i4 9) = xs0 then (fJ_X7_layAnew_106 c4 x1 x2 x3 i4 x6 xs0 h) else (fJ_X7_layAnew_103 c4 x1 x2 x3 i4 x6 xs0 h)) else (fJ_X7_layAnew_103 c4 x1 x2 x3 i4 x6 xs0 h)) else (fJ_X7_layAnew_106 c4 x1 x2 x3 i4 x6 xs0 h)))
set_option maxRecDepth 100000 in
set_option maxHeartbeats 4000000 in
theorem aJ_X7_layAnew_73 (c4 : Int32 → Int32 → Int32 → Hp → Option (Int32 × Hp)) (hc4 : ∀ (x1 : Int32) (x2 : Int32) (x3 : Int32) (h : Hp), Aw eI U0 mX7_layAnew (0, 0) U0 4 [some (vr 7 (some 0)), some (vi x1), some (vi x2), some (vi x3), none, none, none, none] [] h (c4 x1 x2 x3 h)) (x1 : Int32) (x2 : Int32) (x3 : Int32) (i4 : Nat) (x6 : Int32) (xs0 : Int32) (h : Hp) : Aw eI U0 mX7_layAnew (0, 0) U0 73 [some (vr 7 (some 0)), some (vi x1), some (vi x2), some (vi x3), some (vr 1 (some i4)), none, some (vi x6), none] [vi xs0] h (fJ_X7_layAnew_73 c4 x1 x2 x3 i4 x6 xs0 h) := by
  unfold fJ_X7_layAnew_73
  refine A_istore (pc := 73) (i := 7) (ls2 := [some (vr 7 (some 0)), some (vi x1), some (vi x2), some (vi x3), some (vr 1 (some i4)), none, some (vi x6), some (vi xs0)]) dX7_layAnew_73 (Nat.le_of_ble_eq_true rfl) rfl ?_
  refine A_aload (pc := 75) (i := 4) dX7_layAnew_75 rfl ?_
  refine A_callV (pc := 77) (M' := mX1_isLying) (As := []) (st := []) (0, 0) (fun r4 => [vi (bi r4)]) (fun _ => h) (a_X1_isLying i4 h) kD_X1_isLying kM_X7_113 kI_X1_isLying kS_X1_isLying kN_X1 ⟨(Nat.le_of_ble_eq_true rfl), (Nat.le_of_ble_eq_true rfl)⟩ dX7_layAnew_77 rfl rfl rfl (by decide) rfl (Nat.le_of_ble_eq_true rfl) (Nat.le_of_ble_eq_true rfl) (Nat.le_of_ble_eq_true rfl) (fun _ => rfl) (fun _ => rfl) (fun r4 => ?_)
  refine A_ifb_eq (pc := 80) (tgt := 106) dX7_layAnew_80 (by decide) ?_ ?_
  · exact Aw.weak (ls' := [some (vr 7 (some 0)), some (vi x1), some (vi x2), some (vi x3), some (vr 1 (some i4)), none, some (vi x6), some (vi xs0)]) ⟨rfl, ⟨rfl, ⟨rfl, ⟨rfl, ⟨rfl, ⟨rfl, ⟨rfl, trivial⟩⟩⟩⟩⟩⟩⟩ (aJ_X7_layAnew_106 c4 hc4 x1 x2 x3 i4 x6 xs0 h)
  · refine A_aload (pc := 83) (i := 4) dX7_layAnew_83 rfl ?_
    refine A_getI (pc := 85) (k := 8) clX1 (Nat.le_of_ble_eq_true rfl) dX7_layAnew_85 kF_X7_153 rfl ?_
    refine A_iload (pc := 88) (i := 6) dX7_layAnew_88 rfl ?_
    refine A_icmp_ne (pc := 90) (tgt := 103) dX7_layAnew_90 (by decide) ?_ ?_
    · exact Aw.weak (ls' := [some (vr 7 (some 0)), some (vi x1), some (vi x2), some (vi x3), some (vr 1 (some i4)), none, some (vi x6), some (vi xs0)]) ⟨rfl, ⟨rfl, ⟨rfl, ⟨rfl, ⟨rfl, ⟨rfl, ⟨rfl, trivial⟩⟩⟩⟩⟩⟩⟩ (aJ_X7_layAnew_103 c4 hc4 x1 x2 x3 i4 x6 xs0 h)
    · refine A_aload (pc := 93) (i := 4) dX7_layAnew_93 rfl ?_
      refine A_getI (pc := 95) (k := 9) clX1 (Nat.le_of_ble_eq_true rfl) dX7_layAnew_95 kF_X7_156 rfl ?_
      refine A_iload (pc := 98) (i := 7) dX7_layAnew_98 rfl ?_
      refine A_icmp_eq (pc := 100) (tgt := 106) dX7_layAnew_100 (by decide) ?_ ?_
      · exact Aw.weak (ls' := [some (vr 7 (some 0)), some (vi x1), some (vi x2), some (vi x3), some (vr 1 (some i4)), none, some (vi x6), some (vi xs0)]) ⟨rfl, ⟨rfl, ⟨rfl, ⟨rfl, ⟨rfl, ⟨rfl, ⟨rfl, trivial⟩⟩⟩⟩⟩⟩⟩ (aJ_X7_layAnew_106 c4 hc4 x1 x2 x3 i4 x6 xs0 h)
      · exact Aw.weak (ls' := [some (vr 7 (some 0)), some (vi x1), some (vi x2), some (vi x3), some (vr 1 (some i4)), none, some (vi x6), some (vi xs0)]) ⟨rfl, ⟨rfl, ⟨rfl, ⟨rfl, ⟨rfl, ⟨rfl, ⟨rfl, trivial⟩⟩⟩⟩⟩⟩⟩ (aJ_X7_layAnew_103 c4 hc4 x1 x2 x3 i4 x6 xs0 h)
def fJ_X7_layAnew_53 (c4 : Int32 → Int32 → Int32 → Hp → Option (Int32 × Hp)) (x1 : Int32) (x2 : Int32) (x3 : Int32) (i4 : Nat) (x5 : Int32) (xs0 : Int32) (h : Hp) : Option (Int32 × Hp) := (if x5 = 0 then (fJ_X7_layAnew_73 c4 x1 x2 x3 i4 xs0 (-1 : Int32) h) else ((f_X4_placeFor x1 x3 h).bind fun r6 => (fJ_X7_layAnew_73 c4 x1 x2 x3 i4 xs0 r6 h)))
set_option maxRecDepth 100000 in
set_option maxHeartbeats 4000000 in
theorem aJ_X7_layAnew_53 (c4 : Int32 → Int32 → Int32 → Hp → Option (Int32 × Hp)) (hc4 : ∀ (x1 : Int32) (x2 : Int32) (x3 : Int32) (h : Hp), Aw eI U0 mX7_layAnew (0, 0) U0 4 [some (vr 7 (some 0)), some (vi x1), some (vi x2), some (vi x3), none, none, none, none] [] h (c4 x1 x2 x3 h)) (x1 : Int32) (x2 : Int32) (x3 : Int32) (i4 : Nat) (x5 : Int32) (xs0 : Int32) (h : Hp) : Aw eI U0 mX7_layAnew (0, 0) U0 53 [some (vr 7 (some 0)), some (vi x1), some (vi x2), some (vi x3), some (vr 1 (some i4)), some (vi x5), none, none] [vi xs0] h (fJ_X7_layAnew_53 c4 x1 x2 x3 i4 x5 xs0 h) := by
  unfold fJ_X7_layAnew_53
  refine A_istore (pc := 53) (i := 6) (ls2 := [some (vr 7 (some 0)), some (vi x1), some (vi x2), some (vi x3), some (vr 1 (some i4)), some (vi x5), some (vi xs0), none]) dX7_layAnew_53 (Nat.le_of_ble_eq_true rfl) rfl ?_
  refine A_iload (pc := 55) (i := 5) dX7_layAnew_55 rfl ?_
  refine A_if_eq (pc := 57) (tgt := 72) dX7_layAnew_57 (by decide) ?_ ?_
  · refine A_iconst (pc := 72) (v := (-1 : Int32)) dX7_layAnew_72 (by decide) ?_
    exact Aw.weak (ls' := [some (vr 7 (some 0)), some (vi x1), some (vi x2), some (vi x3), some (vr 1 (some i4)), none, some (vi xs0), none]) ⟨rfl, ⟨rfl, ⟨rfl, ⟨rfl, ⟨rfl, ⟨rfl, trivial⟩⟩⟩⟩⟩⟩ (aJ_X7_layAnew_73 c4 hc4 x1 x2 x3 i4 xs0 (-1 : Int32) h)
  · refine A_aload_n (pc := 60) (i := 0) dX7_layAnew_60 rfl rfl ?_
    refine A_getS (pc := 61) (k := 2) (tp := 4) clX7 (Nat.le_of_ble_eq_true rfl) dX7_layAnew_61 kF_X7_26 rfl rfl rfl ?_
    refine A_iload_n (pc := 64) (i := 1) dX7_layAnew_64 rfl rfl ?_
    refine A_iload_n (pc := 65) (i := 3) dX7_layAnew_65 rfl rfl ?_
    refine A_callV (pc := 66) (M' := mX4_placeFor) (As := [vi x1, vi x3]) (st := []) (0, 0) (fun r6 => [vi r6]) (fun _ => h) (a_X4_placeFor x1 x3 h) kD_X4_placeFor kM_X7_144 kI_X4_placeFor kS_X4_placeFor kN_X4 ⟨(Nat.le_of_ble_eq_true rfl), (Nat.le_of_ble_eq_true rfl)⟩ dX7_layAnew_66 rfl rfl rfl (by decide) rfl (Nat.le_of_ble_eq_true rfl) (Nat.le_of_ble_eq_true rfl) (Nat.le_of_ble_eq_true rfl) (fun _ => rfl) (fun _ => rfl) (fun r6 => ?_)
    refine A_goto (pc := 69) (tgt := 73) dX7_layAnew_69 (by decide) ?_
    exact Aw.weak (ls' := [some (vr 7 (some 0)), some (vi x1), some (vi x2), some (vi x3), some (vr 1 (some i4)), none, some (vi xs0), none]) ⟨rfl, ⟨rfl, ⟨rfl, ⟨rfl, ⟨rfl, ⟨rfl, trivial⟩⟩⟩⟩⟩⟩ (aJ_X7_layAnew_73 c4 hc4 x1 x2 x3 i4 xs0 r6 h)
def fL_X7_layAnew_4 : Nat → Int32 → Int32 → Int32 → Hp → Option (Int32 × Hp)
  | 0, _, _, _, _ => none
  | n + 1, x1, x2, x3, h => (if (8 : Int32) ≤ x3 then (some (x2, h)) else ((f_X5_boatOf x3 h).bind fun r1 => (match r1 with | none => (some (x2, h)) | some k2 => ((f_X7_isInSet x1 x3 h).bind fun r3 => (if (bi r3) = 0 then (fJ_X7_layAnew_53 (fL_X7_layAnew_4 n) x1 x2 x3 k2 (bi r3) (-1 : Int32) h) else ((f_X4_berthFor x1 x3 h).bind fun r7 => (fJ_X7_layAnew_53 (fL_X7_layAnew_4 n) x1 x2 x3 k2 (bi r3) r7 h)))))))
set_option maxRecDepth 100000 in
set_option maxHeartbeats 4000000 in
theorem aL_X7_layAnew_4 : ∀ (n : Nat) (x1 : Int32) (x2 : Int32) (x3 : Int32) (h : Hp), Aw eI U0 mX7_layAnew (0, 0) U0 4 [some (vr 7 (some 0)), some (vi x1), some (vi x2), some (vi x3), none, none, none, none] [] h (fL_X7_layAnew_4 n x1 x2 x3 h) := by
  intro n
  induction n with
  | zero =>
    intro x1 x2 x3 h
    exact Aw.none
  | succ n ih =>
    intro x1 x2 x3 h
    show Aw _ _ _ _ _ _ _ _ _ (fL_X7_layAnew_4 (n + 1) x1 x2 x3 h)
    unfold fL_X7_layAnew_4
    refine A_iload_n (pc := 4) (i := 3) dX7_layAnew_4 rfl rfl ?_
    refine A_bipush (pc := 5) (v := (8 : Int32)) dX7_layAnew_5 (by decide) ?_
    refine A_icmp_ge (pc := 7) (tgt := 121) dX7_layAnew_7 (by decide) ?_ ?_
    · refine A_iload_n (pc := 121) (i := 2) dX7_layAnew_121 rfl rfl ?_
      exact A_retI rfl dX7_layAnew_122
    · refine A_aload_n (pc := 10) (i := 0) dX7_layAnew_10 rfl rfl ?_
      refine A_getS (pc := 11) (k := 0) (tp := 5) clX7 (Nat.le_of_ble_eq_true rfl) dX7_layAnew_11 kF_X7_10 rfl rfl rfl ?_
      refine A_iload_n (pc := 14) (i := 3) dX7_layAnew_14 rfl rfl ?_
      refine A_callV (pc := 15) (M' := mX5_boatOf) (As := [vi x3]) (st := []) (0, 0) (fun r1 => [vr 1 r1]) (fun _ => h) (a_X5_boatOf x3 h) kD_X5_boatOf kM_X7_56 kI_X5_boatOf kS_X5_boatOf kN_X5 ⟨(Nat.le_of_ble_eq_true rfl), (Nat.le_of_ble_eq_true rfl)⟩ dX7_layAnew_15 rfl rfl rfl (by decide) rfl (Nat.le_of_ble_eq_true rfl) (Nat.le_of_ble_eq_true rfl) (Nat.le_of_ble_eq_true rfl) (fun _ => rfl) (fun _ => rfl) (fun r1 => ?_)
      refine A_astore (pc := 18) (i := 4) (ls2 := [some (vr 7 (some 0)), some (vi x1), some (vi x2), some (vi x3), some (vr 1 r1), none, none, none]) dX7_layAnew_18 (Nat.le_of_ble_eq_true rfl) rfl ?_
      refine A_aload (pc := 20) (i := 4) dX7_layAnew_20 rfl ?_
      refine A_ifnonnull (pc := 22) (tgt := 28) dX7_layAnew_22 (by decide) (fun hz => ?_) (fun k2 hz => ?_)
      · subst hz
        try dsimp only
        refine A_goto (pc := 25) (tgt := 121) dX7_layAnew_25 (by decide) ?_
        refine A_iload_n (pc := 121) (i := 2) dX7_layAnew_121 rfl rfl ?_
        exact A_retI rfl dX7_layAnew_122
      · subst hz
        try dsimp only
        refine A_iload_n (pc := 28) (i := 1) dX7_layAnew_28 rfl rfl ?_
        refine A_iload_n (pc := 29) (i := 3) dX7_layAnew_29 rfl rfl ?_
        refine A_callS (pc := 30) (M' := mX7_isInSet) (As := [vi x1, vi x3]) (st := []) (0, 0) (fun r3 => [vi (bi r3)]) (fun _ => h) (a_X7_isInSet x1 x3 h) kD_X7_isInSet kM_X7_139 kT_X7_isInSet kN_X7 ⟨(Nat.le_of_ble_eq_true rfl), (Nat.le_of_ble_eq_true rfl)⟩ dX7_layAnew_30 rfl rfl (Nat.le_of_ble_eq_true rfl) (Nat.le_of_ble_eq_true rfl) (Nat.le_of_ble_eq_true rfl) (fun _ => rfl) (fun _ => rfl) (fun r3 => ?_)
        refine A_istore (pc := 33) (i := 5) (ls2 := [some (vr 7 (some 0)), some (vi x1), some (vi x2), some (vi x3), some (vr 1 (some k2)), some (vi (bi r3)), none, none]) dX7_layAnew_33 (Nat.le_of_ble_eq_true rfl) rfl ?_
        refine A_iload (pc := 35) (i := 5) dX7_layAnew_35 rfl ?_
        refine A_if_eq (pc := 37) (tgt := 52) dX7_layAnew_37 (by decide) ?_ ?_
        · refine A_iconst (pc := 52) (v := (-1 : Int32)) dX7_layAnew_52 (by decide) ?_
          exact Aw.weak (ls' := [some (vr 7 (some 0)), some (vi x1), some (vi x2), some (vi x3), some (vr 1 (some k2)), some (vi (bi r3)), none, none]) ⟨rfl, ⟨rfl, ⟨rfl, ⟨rfl, ⟨rfl, ⟨rfl, trivial⟩⟩⟩⟩⟩⟩ (aJ_X7_layAnew_53 (fL_X7_layAnew_4 n) ih x1 x2 x3 k2 (bi r3) (-1 : Int32) h)
        · refine A_aload_n (pc := 40) (i := 0) dX7_layAnew_40 rfl rfl ?_
          refine A_getS (pc := 41) (k := 2) (tp := 4) clX7 (Nat.le_of_ble_eq_true rfl) dX7_layAnew_41 kF_X7_26 rfl rfl rfl ?_
          refine A_iload_n (pc := 44) (i := 1) dX7_layAnew_44 rfl rfl ?_
          refine A_iload_n (pc := 45) (i := 3) dX7_layAnew_45 rfl rfl ?_
          refine A_callV (pc := 46) (M' := mX4_berthFor) (As := [vi x1, vi x3]) (st := []) (0, 0) (fun r7 => [vi r7]) (fun _ => h) (a_X4_berthFor x1 x3 h) kD_X4_berthFor kM_X7_147 kI_X4_berthFor kS_X4_berthFor kN_X4 ⟨(Nat.le_of_ble_eq_true rfl), (Nat.le_of_ble_eq_true rfl)⟩ dX7_layAnew_46 rfl rfl rfl (by decide) rfl (Nat.le_of_ble_eq_true rfl) (Nat.le_of_ble_eq_true rfl) (Nat.le_of_ble_eq_true rfl) (fun _ => rfl) (fun _ => rfl) (fun r7 => ?_)
          refine A_goto (pc := 49) (tgt := 53) dX7_layAnew_49 (by decide) ?_
          exact Aw.weak (ls' := [some (vr 7 (some 0)), some (vi x1), some (vi x2), some (vi x3), some (vr 1 (some k2)), some (vi (bi r3)), none, none]) ⟨rfl, ⟨rfl, ⟨rfl, ⟨rfl, ⟨rfl, ⟨rfl, trivial⟩⟩⟩⟩⟩⟩ (aJ_X7_layAnew_53 (fL_X7_layAnew_4 n) ih x1 x2 x3 k2 (bi r3) r7 h)
def f_X7_layAnew (x1 : Int32) (h : Hp) : Option (Int32 × Hp) := (fL_X7_layAnew_4 FU x1 (0 : Int32) (0 : Int32) h)
set_option maxRecDepth 100000 in
set_option maxHeartbeats 4000000 in
theorem a_X7_layAnew (x1 : Int32) (h : Hp) : CtA eI mX7_layAnew U0 U0 [vr 7 (some 0), vi x1] h (f_X7_layAnew x1 h) := by
  refine Ct.of (ls := [some (vr 7 (some 0)), some (vi x1), none, none, none, none, none, none]) (n := 6) (by decide +kernel) rfl rfl rfl ?_
  unfold f_X7_layAnew
  refine A_iconst (pc := 0) (v := (0 : Int32)) dX7_layAnew_0 (by decide) ?_
  refine A_istore_n (pc := 1) (i := 2) (ls2 := [some (vr 7 (some 0)), some (vi x1), some (vi (0 : Int32)), none, none, none, none, none]) dX7_layAnew_1 rfl (Nat.le_of_ble_eq_true rfl) rfl ?_
  refine A_iconst (pc := 2) (v := (0 : Int32)) dX7_layAnew_2 (by decide) ?_
  refine A_istore_n (pc := 3) (i := 3) (ls2 := [some (vr 7 (some 0)), some (vi x1), some (vi (0 : Int32)), some (vi (0 : Int32)), none, none, none, none]) dX7_layAnew_3 rfl (Nat.le_of_ble_eq_true rfl) rfl ?_
  exact Aw.weak (ls' := [some (vr 7 (some 0)), some (vi x1), some (vi (0 : Int32)), some (vi (0 : Int32)), none, none, none, none]) ⟨rfl, ⟨rfl, ⟨rfl, ⟨rfl, trivial⟩⟩⟩⟩ (aL_X7_layAnew_4 FU x1 (0 : Int32) (0 : Int32) h)

abbrev mX7_lay : MD := (yX7_lay, cX7_lay, 3, (some .int), { frames := 5, cells := 0, slots := 0, locals := 140 }, none)
theorem kD_X7_lay : CodeIn mX7_lay 1 := ⟨kC_X7_lay, by decide +kernel⟩
def f_X7_lay (x1 : Int32) (h : Hp) : Option (Int32 × Hp) := ((f_X4_refuses x1 h).bind fun r1 => (if r1 = 0 then ((f_X4_find x1 h).bind fun r2 => (if r2.1 = (-1000004 : Int32) then ((f_X7_counted (-1000004 : Int32) r2.2).bind fun r4 => (some (r4.1, r4.2))) else ((f_X7_layAnew x1 r2.2).bind fun r3 => (some (r3.1, r3.2))))) else ((f_X7_counted r1 h).bind fun r5 => (some (r5.1, r5.2)))))
set_option maxRecDepth 100000 in
set_option maxHeartbeats 4000000 in
theorem a_X7_lay (x1 : Int32) (h : Hp) : CtA eI mX7_lay U0 U0 [vr 7 (some 0), vi x1] h (f_X7_lay x1 h) := by
  refine Ct.of (ls := [some (vr 7 (some 0)), some (vi x1), none]) (n := 1) (by decide +kernel) rfl rfl rfl ?_
  unfold f_X7_lay
  refine A_aload_n (pc := 0) (i := 0) dX7_lay_0 rfl rfl ?_
  refine A_getS (pc := 1) (k := 2) (tp := 4) clX7 (Nat.le_of_ble_eq_true rfl) dX7_lay_1 kF_X7_26 rfl rfl rfl ?_
  refine A_aload_n (pc := 4) (i := 0) dX7_lay_4 rfl rfl ?_
  refine A_getS (pc := 5) (k := 0) (tp := 5) clX7 (Nat.le_of_ble_eq_true rfl) dX7_lay_5 kF_X7_10 rfl rfl rfl ?_
  refine A_iload_n (pc := 8) (i := 1) dX7_lay_8 rfl rfl ?_
  refine A_callV (pc := 9) (M' := mX4_refuses) (As := [vr 5 (some 0), vi x1]) (st := []) (0, 0) (fun r1 => [vi r1]) (fun _ => h) (a_X4_refuses x1 h) kD_X4_refuses kM_X7_132 kI_X4_refuses kS_X4_refuses kN_X4 ⟨(Nat.le_of_ble_eq_true rfl), (Nat.le_of_ble_eq_true rfl)⟩ dX7_lay_9 rfl rfl rfl (by decide) rfl (Nat.le_of_ble_eq_true rfl) (Nat.le_of_ble_eq_true rfl) (Nat.le_of_ble_eq_true rfl) (fun _ => rfl) (fun _ => rfl) (fun r1 => ?_)
  refine A_istore_n (pc := 12) (i := 2) (ls2 := [some (vr 7 (some 0)), some (vi x1), some (vi r1)]) dX7_lay_12 rfl (Nat.le_of_ble_eq_true rfl) rfl ?_
  refine A_iload_n (pc := 13) (i := 2) dX7_lay_13 rfl rfl ?_
  refine A_if_eq (pc := 14) (tgt := 23) dX7_lay_14 (by decide) ?_ ?_
  · refine A_aload_n (pc := 23) (i := 0) dX7_lay_23 rfl rfl ?_
    refine A_getS (pc := 24) (k := 2) (tp := 4) clX7 (Nat.le_of_ble_eq_true rfl) dX7_lay_24 kF_X7_26 rfl rfl rfl ?_
    refine A_aload_n (pc := 27) (i := 0) dX7_lay_27 rfl rfl ?_
    refine A_getS (pc := 28) (k := 0) (tp := 5) clX7 (Nat.le_of_ble_eq_true rfl) dX7_lay_28 kF_X7_10 rfl rfl rfl ?_
    refine A_iload_n (pc := 31) (i := 1) dX7_lay_31 rfl rfl ?_
    refine A_callV (pc := 32) (M' := mX4_find) (As := [vr 5 (some 0), vi x1]) (st := []) (0, 0) (fun r2 => [vi r2.1]) (fun r2 => r2.2) (a_X4_find x1 h) kD_X4_find kM_X7_136 kI_X4_find kS_X4_find kN_X4 ⟨(Nat.le_of_ble_eq_true rfl), (Nat.le_of_ble_eq_true rfl)⟩ dX7_lay_32 rfl rfl rfl (by decide) rfl (Nat.le_of_ble_eq_true rfl) (Nat.le_of_ble_eq_true rfl) (Nat.le_of_ble_eq_true rfl) (fun _ => rfl) (fun _ => rfl) (fun r2 => ?_)
    refine A_ldc (pc := 35) (v := (-1000004 : Int32)) dX7_lay_35 kK_X7_143 ?_
    refine A_icmp_ne (pc := 37) (tgt := 47) dX7_lay_37 (by decide) ?_ ?_
    · refine A_aload_n (pc := 47) (i := 0) dX7_lay_47 rfl rfl ?_
      refine A_iload_n (pc := 48) (i := 1) dX7_lay_48 rfl rfl ?_
      refine A_callV (pc := 49) (M' := mX7_layAnew) (As := [vi x1]) (st := []) (0, 0) (fun r3 => [vi r3.1]) (fun r3 => r3.2) (a_X7_layAnew x1 r2.2) kD_X7_layAnew kM_X7_150 kI_X7_layAnew kS_X7_layAnew kN_X7 ⟨(Nat.le_of_ble_eq_true rfl), (Nat.le_of_ble_eq_true rfl)⟩ dX7_lay_49 rfl rfl rfl (by decide) rfl (Nat.le_of_ble_eq_true rfl) (Nat.le_of_ble_eq_true rfl) (Nat.le_of_ble_eq_true rfl) (fun _ => rfl) (fun _ => rfl) (fun r3 => ?_)
      exact A_retI rfl dX7_lay_52
    · refine A_aload_n (pc := 40) (i := 0) dX7_lay_40 rfl rfl ?_
      refine A_ldc (pc := 41) (v := (-1000004 : Int32)) dX7_lay_41 kK_X7_143 ?_
      refine A_callV (pc := 43) (M' := mX7_counted) (As := [vi (-1000004 : Int32)]) (st := []) (0, 0) (fun r4 => [vi r4.1]) (fun r4 => r4.2) (a_X7_counted (-1000004 : Int32) r2.2) kD_X7_counted kM_X7_48 kI_X7_counted kS_X7_counted kN_X7 ⟨(Nat.le_of_ble_eq_true rfl), (Nat.le_of_ble_eq_true rfl)⟩ dX7_lay_43 rfl rfl rfl (by decide) rfl (Nat.le_of_ble_eq_true rfl) (Nat.le_of_ble_eq_true rfl) (Nat.le_of_ble_eq_true rfl) (fun _ => rfl) (fun _ => rfl) (fun r4 => ?_)
      exact A_retI rfl dX7_lay_46
  · refine A_aload_n (pc := 17) (i := 0) dX7_lay_17 rfl rfl ?_
    refine A_iload_n (pc := 18) (i := 2) dX7_lay_18 rfl rfl ?_
    refine A_callV (pc := 19) (M' := mX7_counted) (As := [vi r1]) (st := []) (0, 0) (fun r5 => [vi r5.1]) (fun r5 => r5.2) (a_X7_counted r1 h) kD_X7_counted kM_X7_48 kI_X7_counted kS_X7_counted kN_X7 ⟨(Nat.le_of_ble_eq_true rfl), (Nat.le_of_ble_eq_true rfl)⟩ dX7_lay_19 rfl rfl rfl (by decide) rfl (Nat.le_of_ble_eq_true rfl) (Nat.le_of_ble_eq_true rfl) (Nat.le_of_ble_eq_true rfl) (fun _ => rfl) (fun _ => rfl) (fun r5 => ?_)
    exact A_retI rfl dX7_lay_22
