abbrev mX5_addBoat : MD := (yX5_addBoat, cX5_addBoat, 5, (some .int), { frames := 2, cells := 1, slots := 12, locals := 45 }, none)
theorem kD_X5_addBoat : CodeIn mX5_addBoat 4 := ⟨kC_X5_addBoat, by decide +kernel⟩
def f_X5_addBoat (x1 : Int32) (x2 : Int32) (x3 : Int32) (x4 : Int32) (h : Hp) : Option (Int32 × Hp) := ((f_X7_isWithin x1 (0 : Int32) (3 : Int32) h).bind fun r1 => (if r1 = true then ((f_X7_isWithin x2 (1 : Int32) (40 : Int32) h).bind fun r2 => (if r2 = true then ((f_X7_isWithin x3 (0 : Int32) (99 : Int32) h).bind fun r3 => (if r3 = true then (if (gI h 5 0 3) < (8 : Int32) then ((f_X1_init (gN h 1) (gI (wN h 1) 5 0 3) x1 x2 x3 x4 (wN h 1)).bind fun r4 => (if 0 ≤ (gI h 5 0 3) ∧ (gI h 5 0 3) < 8 then (some (((gI (wI (wP r4 11 0 (Int32.toNatClampNeg (gI h 5 0 3)) (some (gN h 1))) 5 0 3 ((gI (wP r4 11 0 (Int32.toNatClampNeg (gI h 5 0 3)) (some (gN h 1))) 5 0 3) + (1 : Int32))) 5 0 3) - (1 : Int32)), (wI (wP r4 11 0 (Int32.toNatClampNeg (gI h 5 0 3)) (some (gN h 1))) 5 0 3 ((gI (wP r4 11 0 (Int32.toNatClampNeg (gI h 5 0 3)) (some (gN h 1))) 5 0 3) + (1 : Int32))))) else none)) else (some ((-1000002 : Int32), h))) else (some ((-1000001 : Int32), h)))) else (some ((-1000001 : Int32), h)))) else (some ((-1000001 : Int32), h))))
set_option maxRecDepth 100000 in
set_option maxHeartbeats 4000000 in
theorem a_X5_addBoat (x1 : Int32) (x2 : Int32) (x3 : Int32) (x4 : Int32) (h : Hp) : CtA eI mX5_addBoat U0 U0 [vr 5 (some 0), vi x1, vi x2, vi x3, vi x4] h (f_X5_addBoat x1 x2 x3 x4 h) := by
  refine Ct.of (ls := [some (vr 5 (some 0)), some (vi x1), some (vi x2), some (vi x3), some (vi x4)]) (n := 0) (by decide +kernel) rfl rfl rfl ?_
  unfold f_X5_addBoat
  refine A_iload_n (pc := 0) (i := 1) dX5_addBoat_0 rfl rfl ?_
  refine A_iconst (pc := 1) (v := (0 : Int32)) dX5_addBoat_1 (by decide) ?_
  refine A_iconst (pc := 2) (v := (3 : Int32)) dX5_addBoat_2 (by decide) ?_
  refine A_callN (pc := 3) (M' := mX7_isWithin) (host := RX7) (As := [vi x1, vi (0 : Int32), vi (3 : Int32)]) (st := []) (1, 12) (fun r1 => [vi (bi r1)]) (fun _ => h) (a_X7_isWithin x1 (0 : Int32) (3 : Int32) h) kD_X7_isWithin kQ_X5_23 kT_X7_isWithin kN_X7 ⟨(Nat.le_of_ble_eq_true rfl), (Nat.le_of_ble_eq_true rfl)⟩ dX5_addBoat_3 rfl rfl (Nat.le_of_ble_eq_true rfl) (Nat.le_of_ble_eq_true rfl) (Nat.le_of_ble_eq_true rfl) (fun _ => rfl) (fun _ => rfl) (fun r1 => ?_)
  refine A_ifb_eq (pc := 6) (tgt := 29) dX5_addBoat_6 (by decide) ?_ ?_
  · refine A_ldc (pc := 29) (v := (-1000001 : Int32)) dX5_addBoat_29 kK_X5_27 ?_
    exact A_retI rfl dX5_addBoat_31
  · refine A_iload_n (pc := 9) (i := 2) dX5_addBoat_9 rfl rfl ?_
    refine A_iconst (pc := 10) (v := (1 : Int32)) dX5_addBoat_10 (by decide) ?_
    refine A_bipush (pc := 11) (v := (40 : Int32)) dX5_addBoat_11 (by decide) ?_
    refine A_callN (pc := 13) (M' := mX7_isWithin) (host := RX7) (As := [vi x2, vi (1 : Int32), vi (40 : Int32)]) (st := []) (1, 12) (fun r2 => [vi (bi r2)]) (fun _ => h) (a_X7_isWithin x2 (1 : Int32) (40 : Int32) h) kD_X7_isWithin kQ_X5_23 kT_X7_isWithin kN_X7 ⟨(Nat.le_of_ble_eq_true rfl), (Nat.le_of_ble_eq_true rfl)⟩ dX5_addBoat_13 rfl rfl (Nat.le_of_ble_eq_true rfl) (Nat.le_of_ble_eq_true rfl) (Nat.le_of_ble_eq_true rfl) (fun _ => rfl) (fun _ => rfl) (fun r2 => ?_)
    refine A_ifb_eq (pc := 16) (tgt := 29) dX5_addBoat_16 (by decide) ?_ ?_
    · refine A_ldc (pc := 29) (v := (-1000001 : Int32)) dX5_addBoat_29 kK_X5_27 ?_
      exact A_retI rfl dX5_addBoat_31
    · refine A_iload_n (pc := 19) (i := 3) dX5_addBoat_19 rfl rfl ?_
      refine A_iconst (pc := 20) (v := (0 : Int32)) dX5_addBoat_20 (by decide) ?_
      refine A_bipush (pc := 21) (v := (99 : Int32)) dX5_addBoat_21 (by decide) ?_
      refine A_callN (pc := 23) (M' := mX7_isWithin) (host := RX7) (As := [vi x3, vi (0 : Int32), vi (99 : Int32)]) (st := []) (1, 12) (fun r3 => [vi (bi r3)]) (fun _ => h) (a_X7_isWithin x3 (0 : Int32) (99 : Int32) h) kD_X7_isWithin kQ_X5_23 kT_X7_isWithin kN_X7 ⟨(Nat.le_of_ble_eq_true rfl), (Nat.le_of_ble_eq_true rfl)⟩ dX5_addBoat_23 rfl rfl (Nat.le_of_ble_eq_true rfl) (Nat.le_of_ble_eq_true rfl) (Nat.le_of_ble_eq_true rfl) (fun _ => rfl) (fun _ => rfl) (fun r3 => ?_)
      refine A_ifb_ne (pc := 26) (tgt := 32) dX5_addBoat_26 (by decide) ?_ ?_
      · refine A_aload_n (pc := 32) (i := 0) dX5_addBoat_32 rfl rfl ?_
        refine A_getI (pc := 33) (k := 3) clX5 (Nat.le_of_ble_eq_true rfl) dX5_addBoat_33 kF_X5_36 rfl ?_
        refine A_aload_n (pc := 36) (i := 0) dX5_addBoat_36 rfl rfl ?_
        refine A_getS (pc := 37) (k := 1) (tp := 11) clX5 (Nat.le_of_ble_eq_true rfl) dX5_addBoat_37 kF_X5_19 rfl rfl rfl ?_
        refine A_alen (pc := 40) (v := (8 : Int32)) (by decide) (by decide) (by decide) rfl dX5_addBoat_40 ?_
        refine A_icmp_lt (pc := 41) (tgt := 47) dX5_addBoat_41 (by decide) ?_ ?_
        · refine A_aload_n (pc := 47) (i := 0) dX5_addBoat_47 rfl rfl ?_
          refine A_getS (pc := 48) (k := 1) (tp := 11) clX5 (Nat.le_of_ble_eq_true rfl) dX5_addBoat_48 kF_X5_19 rfl rfl rfl ?_
          refine A_aload_n (pc := 51) (i := 0) dX5_addBoat_51 rfl rfl ?_
          refine A_getI (pc := 52) (k := 3) clX5 (Nat.le_of_ble_eq_true rfl) dX5_addBoat_52 kF_X5_36 rfl ?_
          refine A_newP (pc := 55) (0, 0) clX1 dX5_addBoat_55 kL_X5_17 kZ_X1 kN_X1 h0X1 h1X1 h2X1 (Nat.le_of_ble_eq_true rfl) (Nat.le_of_ble_eq_true rfl) ?_
          refine A_dup (pc := 58) dX5_addBoat_58 (fun _ => cv_catr _ _) ?_
          refine A_aload_n (pc := 59) (i := 0) dX5_addBoat_59 rfl rfl ?_
          refine A_getI (pc := 60) (k := 3) clX5 (Nat.le_of_ble_eq_true rfl) dX5_addBoat_60 kF_X5_36 rfl ?_
          refine A_iload_n (pc := 63) (i := 1) dX5_addBoat_63 rfl rfl ?_
          refine A_iload_n (pc := 64) (i := 2) dX5_addBoat_64 rfl rfl ?_
          refine A_iload_n (pc := 65) (i := 3) dX5_addBoat_65 rfl rfl ?_
          refine A_iload (pc := 66) (i := 4) dX5_addBoat_66 rfl ?_
          refine A_callI (pc := 68) (M' := mX1_init) (As := [vi (gI (wN h 1) 5 0 3), vi x1, vi x2, vi x3, vi x4]) (st := [vr 1 (some (gN h 1)), vi (gI h 5 0 3), vr 11 (some 0)]) (0, 0) (fun r4 => [vr 1 (some (gN h 1)), vi (gI h 5 0 3), vr 11 (some 0)]) (fun r4 => r4) (a_X1_init U0 (gN h 1) (gI (wN h 1) 5 0 3) x1 x2 x3 x4 (wN h 1)) kD_X1_init rfl rfl kM_X5_39 kI_X1_init kN_X1 ⟨(Nat.le_of_ble_eq_true rfl), (Nat.le_of_ble_eq_true rfl)⟩ dX5_addBoat_68 rfl rfl (Nat.le_of_ble_eq_true rfl) (Nat.le_of_ble_eq_true rfl) (Nat.le_of_ble_eq_true rfl) (fun _ => rfl) (fun _ => rfl) (fun r4 => ?_)
          refine A_aastore (pc := 71) (n := 8) (te := 1) (by decide) (by decide) (by decide) rfl (by decide) rfl (fun _ => rfl) dX5_addBoat_71 (by decide) ?_
          refine A_aload_n (pc := 72) (i := 0) dX5_addBoat_72 rfl rfl ?_
          refine A_dup (pc := 73) dX5_addBoat_73 (fun _ => cv_catr _ _) ?_
          refine A_getI (pc := 74) (k := 3) clX5 (Nat.le_of_ble_eq_true rfl) dX5_addBoat_74 kF_X5_36 rfl ?_
          refine A_iconst (pc := 77) (v := (1 : Int32)) dX5_addBoat_77 (by decide) ?_
          refine A_iadd (pc := 78) dX5_addBoat_78 ?_
          refine A_putI (pc := 79) (k := 3) clX5 (Nat.le_of_ble_eq_true rfl) dX5_addBoat_79 kF_X5_36 rfl (Or.inl rfl) ⟨rfl, rfl⟩ ?_
          refine A_aload_n (pc := 82) (i := 0) dX5_addBoat_82 rfl rfl ?_
          refine A_getI (pc := 83) (k := 3) clX5 (Nat.le_of_ble_eq_true rfl) dX5_addBoat_83 kF_X5_36 rfl ?_
          refine A_iconst (pc := 86) (v := (1 : Int32)) dX5_addBoat_86 (by decide) ?_
          refine A_isub (pc := 87) dX5_addBoat_87 ?_
          exact A_retI rfl dX5_addBoat_88
        · refine A_ldc (pc := 44) (v := (-1000002 : Int32)) dX5_addBoat_44 kK_X5_32 ?_
          exact A_retI rfl dX5_addBoat_46
      · refine A_ldc (pc := 29) (v := (-1000001 : Int32)) dX5_addBoat_29 kK_X5_27 ?_
        exact A_retI rfl dX5_addBoat_31

abbrev mX5_boatOf : MD := (yX5_boatOf, cX5_boatOf, 2, (some (.object "AbreastQuay$Boat")), { frames := 0, cells := 0, slots := 0, locals := 0 }, none)
theorem kD_X5_boatOf : CodeIn mX5_boatOf 1 := ⟨kC_X5_boatOf, by decide +kernel⟩
def f_X5_boatOf (x1 : Int32) (h : Hp) : Option (Option Nat) := (if x1 < 0 then (some none) else (if (8 : Int32) ≤ x1 then (some none) else (if 0 ≤ x1 ∧ x1 < 8 then (some (gP h 11 0 (Int32.toNatClampNeg x1))) else none)))
set_option maxRecDepth 100000 in
set_option maxHeartbeats 4000000 in
theorem a_X5_boatOf (x1 : Int32) (h : Hp) : CtA (eRr 1 h) mX5_boatOf U0 U0 [vr 5 (some 0), vi x1] h (f_X5_boatOf x1 h) := by
  refine Ct.of (ls := [some (vr 5 (some 0)), some (vi x1)]) (n := 0) (by decide +kernel) rfl rfl rfl ?_
  unfold f_X5_boatOf
  refine A_iload_n (pc := 0) (i := 1) dX5_boatOf_0 rfl rfl ?_
  refine A_if_lt (pc := 1) (tgt := 22) dX5_boatOf_1 (by decide) ?_ ?_
  · refine A_null (pc := 22) 1 dX5_boatOf_22 ?_
    exact A_retRr rfl dX5_boatOf_23
  · refine A_iload_n (pc := 4) (i := 1) dX5_boatOf_4 rfl rfl ?_
    refine A_aload_n (pc := 5) (i := 0) dX5_boatOf_5 rfl rfl ?_
    refine A_getS (pc := 6) (k := 1) (tp := 11) clX5 (Nat.le_of_ble_eq_true rfl) dX5_boatOf_6 kF_X5_19 rfl rfl rfl ?_
    refine A_alen (pc := 9) (v := (8 : Int32)) (by decide) (by decide) (by decide) rfl dX5_boatOf_9 ?_
    refine A_icmp_ge (pc := 10) (tgt := 22) dX5_boatOf_10 (by decide) ?_ ?_
    · refine A_null (pc := 22) 1 dX5_boatOf_22 ?_
      exact A_retRr rfl dX5_boatOf_23
    · refine A_aload_n (pc := 13) (i := 0) dX5_boatOf_13 rfl rfl ?_
      refine A_getS (pc := 14) (k := 1) (tp := 11) clX5 (Nat.le_of_ble_eq_true rfl) dX5_boatOf_14 kF_X5_19 rfl rfl rfl ?_
      refine A_iload_n (pc := 17) (i := 1) dX5_boatOf_17 rfl rfl ?_
      refine A_aaload (pc := 18) (n := 8) (te := 1) (C := RX1) (by decide) (by decide) (by decide) (fun _ => rfl) rfl dX5_boatOf_18 (by decide) ?_
      generalize (gP h 11 0 (Int32.toNatClampNeg x1)) = q1
      refine A_goto (pc := 19) (tgt := 23) dX5_boatOf_19 (by decide) ?_
      exact A_retRr rfl dX5_boatOf_23

abbrev mX5_boatAt : MD := (yX5_boatAt, cX5_boatAt, 7, (some (.object "AbreastQuay$Boat")), { frames := 0, cells := 0, slots := 0, locals := 0 }, none)
theorem kD_X5_boatAt : CodeIn mX5_boatAt 2 := ⟨kC_X5_boatAt, by decide +kernel⟩
def fL_X5_boatAt_12 (h : Hp) : Nat → Int32 → Int32 → Int32 → Int32 → Option (Option Nat)
  | 0, _, _, _, _ => none
  | n + 1, x1, x2, x4, x5 => (if x4 ≤ x5 then (some none) else (if 0 ≤ x5 ∧ x5 < 8 then (match (gP h 11 0 (Int32.toNatClampNeg x5)) with | none => ((fL_X5_boatAt_12 h n) x1 x2 x4 (x5 + 1)) | some k2 => (if (gI h 1 k2 8) = x1 then (if (gI h 1 k2 9) = x2 then (some (some k2)) else ((fL_X5_boatAt_12 h n) x1 x2 x4 (x5 + 1))) else ((fL_X5_boatAt_12 h n) x1 x2 x4 (x5 + 1)))) else none))
set_option maxRecDepth 100000 in
set_option maxHeartbeats 4000000 in
theorem aL_X5_boatAt_12 (h : Hp) : ∀ (n : Nat) (x1 : Int32) (x2 : Int32) (x4 : Int32) (x5 : Int32), Aw (eRr 1 h) U0 mX5_boatAt (0, 0) U0 12 [none, some (vi x1), some (vi x2), some (vr 11 (some 0)), some (vi x4), some (vi x5), none] [] h (fL_X5_boatAt_12 h n x1 x2 x4 x5) := by
  intro n
  induction n with
  | zero =>
    intro x1 x2 x4 x5
    exact Aw.none
  | succ n ih =>
    intro x1 x2 x4 x5
    show Aw _ _ _ _ _ _ _ _ _ (fL_X5_boatAt_12 h (n + 1) x1 x2 x4 x5)
    unfold fL_X5_boatAt_12
    refine A_iload (pc := 12) (i := 5) dX5_boatAt_12 rfl ?_
    refine A_iload (pc := 14) (i := 4) dX5_boatAt_14 rfl ?_
    refine A_icmp_ge (pc := 16) (tgt := 57) dX5_boatAt_16 (by decide) ?_ ?_
    · refine A_null (pc := 57) 1 dX5_boatAt_57 ?_
      exact A_retRr rfl dX5_boatAt_58
    · refine A_aload_n (pc := 19) (i := 3) dX5_boatAt_19 rfl rfl ?_
      refine A_iload (pc := 20) (i := 5) dX5_boatAt_20 rfl ?_
      refine A_aaload (pc := 22) (n := 8) (te := 1) (C := RX1) (by decide) (by decide) (by decide) (fun _ => rfl) rfl dX5_boatAt_22 (by decide) ?_
      generalize (gP h 11 0 (Int32.toNatClampNeg x5)) = q1
      refine A_astore (pc := 23) (i := 6) (ls2 := [none, some (vi x1), some (vi x2), some (vr 11 (some 0)), some (vi x4), some (vi x5), some (vr 1 q1)]) dX5_boatAt_23 (Nat.le_of_ble_eq_true rfl) rfl ?_
      refine A_aload (pc := 25) (i := 6) dX5_boatAt_25 rfl ?_
      refine A_ifnull (pc := 27) (tgt := 51) dX5_boatAt_27 (by decide) (fun hz => ?_) (fun k2 hz => ?_)
      · subst hz
        try dsimp only
        refine A_iinc (pc := 51) (i := 5) (v := (x5 + 1)) (ls2 := [none, some (vi x1), some (vi x2), some (vr 11 (some 0)), some (vi x4), some (vi (x5 + 1)), some (vr 1 none)]) dX5_boatAt_51 rfl rfl (Nat.le_of_ble_eq_true rfl) rfl ?_
        refine A_goto (pc := 54) (tgt := 12) dX5_boatAt_54 (by decide) ?_
        exact Aw.weak (ls' := [none, some (vi x1), some (vi x2), some (vr 11 (some 0)), some (vi x4), some (vi (x5 + 1)), none]) ⟨rfl, ⟨rfl, ⟨rfl, ⟨rfl, ⟨rfl, trivial⟩⟩⟩⟩⟩ (ih x1 x2 x4 (x5 + 1))
      · subst hz
        try dsimp only
        refine A_aload (pc := 30) (i := 6) dX5_boatAt_30 rfl ?_
        refine A_getI (pc := 32) (k := 8) clX1 (Nat.le_of_ble_eq_true rfl) dX5_boatAt_32 kF_X5_42 rfl ?_
        refine A_iload_n (pc := 35) (i := 1) dX5_boatAt_35 rfl rfl ?_
        refine A_icmp_ne (pc := 36) (tgt := 51) dX5_boatAt_36 (by decide) ?_ ?_
        · refine A_iinc (pc := 51) (i := 5) (v := (x5 + 1)) (ls2 := [none, some (vi x1), some (vi x2), some (vr 11 (some 0)), some (vi x4), some (vi (x5 + 1)), some (vr 1 (some k2))]) dX5_boatAt_51 rfl rfl (Nat.le_of_ble_eq_true rfl) rfl ?_
          refine A_goto (pc := 54) (tgt := 12) dX5_boatAt_54 (by decide) ?_
          exact Aw.weak (ls' := [none, some (vi x1), some (vi x2), some (vr 11 (some 0)), some (vi x4), some (vi (x5 + 1)), none]) ⟨rfl, ⟨rfl, ⟨rfl, ⟨rfl, ⟨rfl, trivial⟩⟩⟩⟩⟩ (ih x1 x2 x4 (x5 + 1))
        · refine A_aload (pc := 39) (i := 6) dX5_boatAt_39 rfl ?_
          refine A_getI (pc := 41) (k := 9) clX1 (Nat.le_of_ble_eq_true rfl) dX5_boatAt_41 kF_X5_45 rfl ?_
          refine A_iload_n (pc := 44) (i := 2) dX5_boatAt_44 rfl rfl ?_
          refine A_icmp_ne (pc := 45) (tgt := 51) dX5_boatAt_45 (by decide) ?_ ?_
          · refine A_iinc (pc := 51) (i := 5) (v := (x5 + 1)) (ls2 := [none, some (vi x1), some (vi x2), some (vr 11 (some 0)), some (vi x4), some (vi (x5 + 1)), some (vr 1 (some k2))]) dX5_boatAt_51 rfl rfl (Nat.le_of_ble_eq_true rfl) rfl ?_
            refine A_goto (pc := 54) (tgt := 12) dX5_boatAt_54 (by decide) ?_
            exact Aw.weak (ls' := [none, some (vi x1), some (vi x2), some (vr 11 (some 0)), some (vi x4), some (vi (x5 + 1)), none]) ⟨rfl, ⟨rfl, ⟨rfl, ⟨rfl, ⟨rfl, trivial⟩⟩⟩⟩⟩ (ih x1 x2 x4 (x5 + 1))
          · refine A_aload (pc := 48) (i := 6) dX5_boatAt_48 rfl ?_
            exact A_retRr rfl dX5_boatAt_50
def f_X5_boatAt (x1 : Int32) (x2 : Int32) (h : Hp) : Option (Option Nat) := (fL_X5_boatAt_12 h FU x1 x2 (8 : Int32) (0 : Int32))
set_option maxRecDepth 100000 in
set_option maxHeartbeats 4000000 in
theorem a_X5_boatAt (x1 : Int32) (x2 : Int32) (h : Hp) : CtA (eRr 1 h) mX5_boatAt U0 U0 [vr 5 (some 0), vi x1, vi x2] h (f_X5_boatAt x1 x2 h) := by
  refine Ct.of (ls := [some (vr 5 (some 0)), some (vi x1), some (vi x2), none, none, none, none]) (n := 4) (by decide +kernel) rfl rfl rfl ?_
  unfold f_X5_boatAt
  refine A_aload_n (pc := 0) (i := 0) dX5_boatAt_0 rfl rfl ?_
  refine A_getS (pc := 1) (k := 1) (tp := 11) clX5 (Nat.le_of_ble_eq_true rfl) dX5_boatAt_1 kF_X5_19 rfl rfl rfl ?_
  refine A_astore_n (pc := 4) (i := 3) (ls2 := [some (vr 5 (some 0)), some (vi x1), some (vi x2), some (vr 11 (some 0)), none, none, none]) dX5_boatAt_4 rfl (Nat.le_of_ble_eq_true rfl) rfl ?_
  refine A_aload_n (pc := 5) (i := 3) dX5_boatAt_5 rfl rfl ?_
  refine A_alen (pc := 6) (v := (8 : Int32)) (by decide) (by decide) (by decide) rfl dX5_boatAt_6 ?_
  refine A_istore (pc := 7) (i := 4) (ls2 := [some (vr 5 (some 0)), some (vi x1), some (vi x2), some (vr 11 (some 0)), some (vi (8 : Int32)), none, none]) dX5_boatAt_7 (Nat.le_of_ble_eq_true rfl) rfl ?_
  refine A_iconst (pc := 9) (v := (0 : Int32)) dX5_boatAt_9 (by decide) ?_
  refine A_istore (pc := 10) (i := 5) (ls2 := [some (vr 5 (some 0)), some (vi x1), some (vi x2), some (vr 11 (some 0)), some (vi (8 : Int32)), some (vi (0 : Int32)), none]) dX5_boatAt_10 (Nat.le_of_ble_eq_true rfl) rfl ?_
  exact Aw.weak (ls' := [none, some (vi x1), some (vi x2), some (vr 11 (some 0)), some (vi (8 : Int32)), some (vi (0 : Int32)), none]) ⟨rfl, ⟨rfl, ⟨rfl, ⟨rfl, ⟨rfl, trivial⟩⟩⟩⟩⟩ (aL_X5_boatAt_12 h FU x1 x2 (8 : Int32) (0 : Int32))

abbrev mX5_countAt : MD := (yX5_countAt, cX5_countAt, 7, (some .int), { frames := 0, cells := 0, slots := 0, locals := 0 }, none)
theorem kD_X5_countAt : CodeIn mX5_countAt 1 := ⟨kC_X5_countAt, by decide +kernel⟩
def fL_X5_countAt_14 (h : Hp) : Nat → Int32 → Int32 → Int32 → Int32 → Option Int32
  | 0, _, _, _, _ => none
  | n + 1, x1, x2, x4, x5 => (if x4 ≤ x5 then (some x2) else (if 0 ≤ x5 ∧ x5 < 8 then (match (gP h 11 0 (Int32.toNatClampNeg x5)) with | none => ((fL_X5_countAt_14 h n) x1 x2 x4 (x5 + 1)) | some k2 => (if (gI h 1 k2 8) = x1 then ((fL_X5_countAt_14 h n) x1 (x2 + 1) x4 (x5 + 1)) else ((fL_X5_countAt_14 h n) x1 x2 x4 (x5 + 1)))) else none))
set_option maxRecDepth 100000 in
set_option maxHeartbeats 4000000 in
theorem aL_X5_countAt_14 (h : Hp) : ∀ (n : Nat) (x1 : Int32) (x2 : Int32) (x4 : Int32) (x5 : Int32), Aw (eIr h) U0 mX5_countAt (0, 0) U0 14 [none, some (vi x1), some (vi x2), some (vr 11 (some 0)), some (vi x4), some (vi x5), none] [] h (fL_X5_countAt_14 h n x1 x2 x4 x5) := by
  intro n
  induction n with
  | zero =>
    intro x1 x2 x4 x5
    exact Aw.none
  | succ n ih =>
    intro x1 x2 x4 x5
    show Aw _ _ _ _ _ _ _ _ _ (fL_X5_countAt_14 h (n + 1) x1 x2 x4 x5)
    unfold fL_X5_countAt_14
    refine A_iload (pc := 14) (i := 5) dX5_countAt_14 rfl ?_
    refine A_iload (pc := 16) (i := 4) dX5_countAt_16 rfl ?_
    refine A_icmp_ge (pc := 18) (tgt := 50) dX5_countAt_18 (by decide) ?_ ?_
    · refine A_iload_n (pc := 50) (i := 2) dX5_countAt_50 rfl rfl ?_
      exact A_retIr rfl dX5_countAt_51
    · refine A_aload_n (pc := 21) (i := 3) dX5_countAt_21 rfl rfl ?_
      refine A_iload (pc := 22) (i := 5) dX5_countAt_22 rfl ?_
      refine A_aaload (pc := 24) (n := 8) (te := 1) (C := RX1) (by decide) (by decide) (by decide) (fun _ => rfl) rfl dX5_countAt_24 (by decide) ?_
      generalize (gP h 11 0 (Int32.toNatClampNeg x5)) = q1
      refine A_astore (pc := 25) (i := 6) (ls2 := [none, some (vi x1), some (vi x2), some (vr 11 (some 0)), some (vi x4), some (vi x5), some (vr 1 q1)]) dX5_countAt_25 (Nat.le_of_ble_eq_true rfl) rfl ?_
      refine A_aload (pc := 27) (i := 6) dX5_countAt_27 rfl ?_
      refine A_ifnull (pc := 29) (tgt := 44) dX5_countAt_29 (by decide) (fun hz => ?_) (fun k2 hz => ?_)
      · subst hz
        try dsimp only
        refine A_iinc (pc := 44) (i := 5) (v := (x5 + 1)) (ls2 := [none, some (vi x1), some (vi x2), some (vr 11 (some 0)), some (vi x4), some (vi (x5 + 1)), some (vr 1 none)]) dX5_countAt_44 rfl rfl (Nat.le_of_ble_eq_true rfl) rfl ?_
        refine A_goto (pc := 47) (tgt := 14) dX5_countAt_47 (by decide) ?_
        exact Aw.weak (ls' := [none, some (vi x1), some (vi x2), some (vr 11 (some 0)), some (vi x4), some (vi (x5 + 1)), none]) ⟨rfl, ⟨rfl, ⟨rfl, ⟨rfl, ⟨rfl, trivial⟩⟩⟩⟩⟩ (ih x1 x2 x4 (x5 + 1))
      · subst hz
        try dsimp only
        refine A_aload (pc := 32) (i := 6) dX5_countAt_32 rfl ?_
        refine A_getI (pc := 34) (k := 8) clX1 (Nat.le_of_ble_eq_true rfl) dX5_countAt_34 kF_X5_42 rfl ?_
        refine A_iload_n (pc := 37) (i := 1) dX5_countAt_37 rfl rfl ?_
        refine A_icmp_ne (pc := 38) (tgt := 44) dX5_countAt_38 (by decide) ?_ ?_
        · refine A_iinc (pc := 44) (i := 5) (v := (x5 + 1)) (ls2 := [none, some (vi x1), some (vi x2), some (vr 11 (some 0)), some (vi x4), some (vi (x5 + 1)), some (vr 1 (some k2))]) dX5_countAt_44 rfl rfl (Nat.le_of_ble_eq_true rfl) rfl ?_
          refine A_goto (pc := 47) (tgt := 14) dX5_countAt_47 (by decide) ?_
          exact Aw.weak (ls' := [none, some (vi x1), some (vi x2), some (vr 11 (some 0)), some (vi x4), some (vi (x5 + 1)), none]) ⟨rfl, ⟨rfl, ⟨rfl, ⟨rfl, ⟨rfl, trivial⟩⟩⟩⟩⟩ (ih x1 x2 x4 (x5 + 1))
        · refine A_iinc (pc := 41) (i := 2) (v := (x2 + 1)) (ls2 := [none, some (vi x1), some (vi (x2 + 1)), some (vr 11 (some 0)), some (vi x4), some (vi x5), some (vr 1 (some k2))]) dX5_countAt_41 rfl rfl (Nat.le_of_ble_eq_true rfl) rfl ?_
          refine A_iinc (pc := 44) (i := 5) (v := (x5 + 1)) (ls2 := [none, some (vi x1), some (vi (x2 + 1)), some (vr 11 (some 0)), some (vi x4), some (vi (x5 + 1)), some (vr 1 (some k2))]) dX5_countAt_44 rfl rfl (Nat.le_of_ble_eq_true rfl) rfl ?_
          refine A_goto (pc := 47) (tgt := 14) dX5_countAt_47 (by decide) ?_
          exact Aw.weak (ls' := [none, some (vi x1), some (vi (x2 + 1)), some (vr 11 (some 0)), some (vi x4), some (vi (x5 + 1)), none]) ⟨rfl, ⟨rfl, ⟨rfl, ⟨rfl, ⟨rfl, trivial⟩⟩⟩⟩⟩ (ih x1 (x2 + 1) x4 (x5 + 1))
def f_X5_countAt (x1 : Int32) (h : Hp) : Option Int32 := (fL_X5_countAt_14 h FU x1 (0 : Int32) (8 : Int32) (0 : Int32))
set_option maxRecDepth 100000 in
set_option maxHeartbeats 4000000 in
theorem a_X5_countAt (x1 : Int32) (h : Hp) : CtA (eIr h) mX5_countAt U0 U0 [vr 5 (some 0), vi x1] h (f_X5_countAt x1 h) := by
  refine Ct.of (ls := [some (vr 5 (some 0)), some (vi x1), none, none, none, none, none]) (n := 5) (by decide +kernel) rfl rfl rfl ?_
  unfold f_X5_countAt
  refine A_iconst (pc := 0) (v := (0 : Int32)) dX5_countAt_0 (by decide) ?_
  refine A_istore_n (pc := 1) (i := 2) (ls2 := [some (vr 5 (some 0)), some (vi x1), some (vi (0 : Int32)), none, none, none, none]) dX5_countAt_1 rfl (Nat.le_of_ble_eq_true rfl) rfl ?_
  refine A_aload_n (pc := 2) (i := 0) dX5_countAt_2 rfl rfl ?_
  refine A_getS (pc := 3) (k := 1) (tp := 11) clX5 (Nat.le_of_ble_eq_true rfl) dX5_countAt_3 kF_X5_19 rfl rfl rfl ?_
  refine A_astore_n (pc := 6) (i := 3) (ls2 := [some (vr 5 (some 0)), some (vi x1), some (vi (0 : Int32)), some (vr 11 (some 0)), none, none, none]) dX5_countAt_6 rfl (Nat.le_of_ble_eq_true rfl) rfl ?_
  refine A_aload_n (pc := 7) (i := 3) dX5_countAt_7 rfl rfl ?_
  refine A_alen (pc := 8) (v := (8 : Int32)) (by decide) (by decide) (by decide) rfl dX5_countAt_8 ?_
  refine A_istore (pc := 9) (i := 4) (ls2 := [some (vr 5 (some 0)), some (vi x1), some (vi (0 : Int32)), some (vr 11 (some 0)), some (vi (8 : Int32)), none, none]) dX5_countAt_9 (Nat.le_of_ble_eq_true rfl) rfl ?_
  refine A_iconst (pc := 11) (v := (0 : Int32)) dX5_countAt_11 (by decide) ?_
  refine A_istore (pc := 12) (i := 5) (ls2 := [some (vr 5 (some 0)), some (vi x1), some (vi (0 : Int32)), some (vr 11 (some 0)), some (vi (8 : Int32)), some (vi (0 : Int32)), none]) dX5_countAt_12 (Nat.le_of_ble_eq_true rfl) rfl ?_
  exact Aw.weak (ls' := [none, some (vi x1), some (vi (0 : Int32)), some (vr 11 (some 0)), some (vi (8 : Int32)), some (vi (0 : Int32)), none]) ⟨rfl, ⟨rfl, ⟨rfl, ⟨rfl, ⟨rfl, trivial⟩⟩⟩⟩⟩ (aL_X5_countAt_14 h FU x1 (0 : Int32) (8 : Int32) (0 : Int32))

abbrev mX5_countLying : MD := (yX5_countLying, cX5_countLying, 6, (some .int), { frames := 1, cells := 0, slots := 0, locals := 20 }, none)
theorem kD_X5_countLying : CodeIn mX5_countLying 0 := ⟨kC_X5_countLying, by decide +kernel⟩
def fL_X5_countLying_13 (h : Hp) : Nat → Int32 → Int32 → Int32 → Option Int32
  | 0, _, _, _ => none
  | n + 1, x1, x3, x4 => (if x3 ≤ x4 then (some x1) else (if 0 ≤ x4 ∧ x4 < 8 then (match (gP h 11 0 (Int32.toNatClampNeg x4)) with | none => ((fL_X5_countLying_13 h n) x1 x3 (x4 + 1)) | some k2 => ((f_X1_isLying k2 h).bind fun r3 => (if r3 = true then ((fL_X5_countLying_13 h n) (x1 + 1) x3 (x4 + 1)) else ((fL_X5_countLying_13 h n) x1 x3 (x4 + 1))))) else none))
set_option maxRecDepth 100000 in
set_option maxHeartbeats 4000000 in
theorem aL_X5_countLying_13 (h : Hp) : ∀ (n : Nat) (x1 : Int32) (x3 : Int32) (x4 : Int32), Aw (eIr h) U0 mX5_countLying (0, 0) U0 13 [none, some (vi x1), some (vr 11 (some 0)), some (vi x3), some (vi x4), none] [] h (fL_X5_countLying_13 h n x1 x3 x4) := by
  intro n
  induction n with
  | zero =>
    intro x1 x3 x4
    exact Aw.none
  | succ n ih =>
    intro x1 x3 x4
    show Aw _ _ _ _ _ _ _ _ _ (fL_X5_countLying_13 h (n + 1) x1 x3 x4)
    unfold fL_X5_countLying_13
    refine A_iload (pc := 13) (i := 4) dX5_countLying_13 rfl ?_
    refine A_iload_n (pc := 15) (i := 3) dX5_countLying_15 rfl rfl ?_
    refine A_icmp_ge (pc := 16) (tgt := 47) dX5_countLying_16 (by decide) ?_ ?_
    · refine A_iload_n (pc := 47) (i := 1) dX5_countLying_47 rfl rfl ?_
      exact A_retIr rfl dX5_countLying_48
    · refine A_aload_n (pc := 19) (i := 2) dX5_countLying_19 rfl rfl ?_
      refine A_iload (pc := 20) (i := 4) dX5_countLying_20 rfl ?_
      refine A_aaload (pc := 22) (n := 8) (te := 1) (C := RX1) (by decide) (by decide) (by decide) (fun _ => rfl) rfl dX5_countLying_22 (by decide) ?_
      generalize (gP h 11 0 (Int32.toNatClampNeg x4)) = q1
      refine A_astore (pc := 23) (i := 5) (ls2 := [none, some (vi x1), some (vr 11 (some 0)), some (vi x3), some (vi x4), some (vr 1 q1)]) dX5_countLying_23 (Nat.le_of_ble_eq_true rfl) rfl ?_
      refine A_aload (pc := 25) (i := 5) dX5_countLying_25 rfl ?_
      refine A_ifnull (pc := 27) (tgt := 41) dX5_countLying_27 (by decide) (fun hz => ?_) (fun k2 hz => ?_)
      · subst hz
        try dsimp only
        refine A_iinc (pc := 41) (i := 4) (v := (x4 + 1)) (ls2 := [none, some (vi x1), some (vr 11 (some 0)), some (vi x3), some (vi (x4 + 1)), some (vr 1 none)]) dX5_countLying_41 rfl rfl (Nat.le_of_ble_eq_true rfl) rfl ?_
        refine A_goto (pc := 44) (tgt := 13) dX5_countLying_44 (by decide) ?_
        exact Aw.weak (ls' := [none, some (vi x1), some (vr 11 (some 0)), some (vi x3), some (vi (x4 + 1)), none]) ⟨rfl, ⟨rfl, ⟨rfl, ⟨rfl, trivial⟩⟩⟩⟩ (ih x1 x3 (x4 + 1))
      · subst hz
        try dsimp only
        refine A_aload (pc := 30) (i := 5) dX5_countLying_30 rfl ?_
        refine A_callV (pc := 32) (M' := mX1_isLying) (As := []) (st := []) (0, 0) (fun r3 => [vi (bi r3)]) (fun _ => h) (a_X1_isLying k2 h) kD_X1_isLying kM_X5_48 kI_X1_isLying kS_X1_isLying kN_X1 ⟨(Nat.le_of_ble_eq_true rfl), (Nat.le_of_ble_eq_true rfl)⟩ dX5_countLying_32 rfl rfl rfl (by decide) rfl (Nat.le_of_ble_eq_true rfl) (Nat.le_of_ble_eq_true rfl) (Nat.le_of_ble_eq_true rfl) (fun _ => rfl) (fun _ => rfl) (fun r3 => ?_)
        refine A_ifb_eq (pc := 35) (tgt := 41) dX5_countLying_35 (by decide) ?_ ?_
        · refine A_iinc (pc := 41) (i := 4) (v := (x4 + 1)) (ls2 := [none, some (vi x1), some (vr 11 (some 0)), some (vi x3), some (vi (x4 + 1)), some (vr 1 (some k2))]) dX5_countLying_41 rfl rfl (Nat.le_of_ble_eq_true rfl) rfl ?_
          refine A_goto (pc := 44) (tgt := 13) dX5_countLying_44 (by decide) ?_
          exact Aw.weak (ls' := [none, some (vi x1), some (vr 11 (some 0)), some (vi x3), some (vi (x4 + 1)), none]) ⟨rfl, ⟨rfl, ⟨rfl, ⟨rfl, trivial⟩⟩⟩⟩ (ih x1 x3 (x4 + 1))
        · refine A_iinc (pc := 38) (i := 1) (v := (x1 + 1)) (ls2 := [none, some (vi (x1 + 1)), some (vr 11 (some 0)), some (vi x3), some (vi x4), some (vr 1 (some k2))]) dX5_countLying_38 rfl rfl (Nat.le_of_ble_eq_true rfl) rfl ?_
          refine A_iinc (pc := 41) (i := 4) (v := (x4 + 1)) (ls2 := [none, some (vi (x1 + 1)), some (vr 11 (some 0)), some (vi x3), some (vi (x4 + 1)), some (vr 1 (some k2))]) dX5_countLying_41 rfl rfl (Nat.le_of_ble_eq_true rfl) rfl ?_
          refine A_goto (pc := 44) (tgt := 13) dX5_countLying_44 (by decide) ?_
          exact Aw.weak (ls' := [none, some (vi (x1 + 1)), some (vr 11 (some 0)), some (vi x3), some (vi (x4 + 1)), none]) ⟨rfl, ⟨rfl, ⟨rfl, ⟨rfl, trivial⟩⟩⟩⟩ (ih (x1 + 1) x3 (x4 + 1))
def f_X5_countLying (h : Hp) : Option Int32 := (fL_X5_countLying_13 h FU (0 : Int32) (8 : Int32) (0 : Int32))
set_option maxRecDepth 100000 in
set_option maxHeartbeats 4000000 in
theorem a_X5_countLying (h : Hp) : CtA (eIr h) mX5_countLying U0 U0 [vr 5 (some 0)] h (f_X5_countLying h) := by
  refine Ct.of (ls := [some (vr 5 (some 0)), none, none, none, none, none]) (n := 5) (by decide +kernel) rfl rfl rfl ?_
  unfold f_X5_countLying
  refine A_iconst (pc := 0) (v := (0 : Int32)) dX5_countLying_0 (by decide) ?_
  refine A_istore_n (pc := 1) (i := 1) (ls2 := [some (vr 5 (some 0)), some (vi (0 : Int32)), none, none, none, none]) dX5_countLying_1 rfl (Nat.le_of_ble_eq_true rfl) rfl ?_
  refine A_aload_n (pc := 2) (i := 0) dX5_countLying_2 rfl rfl ?_
  refine A_getS (pc := 3) (k := 1) (tp := 11) clX5 (Nat.le_of_ble_eq_true rfl) dX5_countLying_3 kF_X5_19 rfl rfl rfl ?_
  refine A_astore_n (pc := 6) (i := 2) (ls2 := [some (vr 5 (some 0)), some (vi (0 : Int32)), some (vr 11 (some 0)), none, none, none]) dX5_countLying_6 rfl (Nat.le_of_ble_eq_true rfl) rfl ?_
  refine A_aload_n (pc := 7) (i := 2) dX5_countLying_7 rfl rfl ?_
  refine A_alen (pc := 8) (v := (8 : Int32)) (by decide) (by decide) (by decide) rfl dX5_countLying_8 ?_
  refine A_istore_n (pc := 9) (i := 3) (ls2 := [some (vr 5 (some 0)), some (vi (0 : Int32)), some (vr 11 (some 0)), some (vi (8 : Int32)), none, none]) dX5_countLying_9 rfl (Nat.le_of_ble_eq_true rfl) rfl ?_
  refine A_iconst (pc := 10) (v := (0 : Int32)) dX5_countLying_10 (by decide) ?_
  refine A_istore (pc := 11) (i := 4) (ls2 := [some (vr 5 (some 0)), some (vi (0 : Int32)), some (vr 11 (some 0)), some (vi (8 : Int32)), some (vi (0 : Int32)), none]) dX5_countLying_11 (Nat.le_of_ble_eq_true rfl) rfl ?_
  exact Aw.weak (ls' := [none, some (vi (0 : Int32)), some (vr 11 (some 0)), some (vi (8 : Int32)), some (vi (0 : Int32)), none]) ⟨rfl, ⟨rfl, ⟨rfl, ⟨rfl, trivial⟩⟩⟩⟩ (aL_X5_countLying_13 h FU (0 : Int32) (8 : Int32) (0 : Int32))

abbrev mX5_whyNotRight : MD := (yX5_whyNotRight, cX5_whyNotRight, 6, (some .int), { frames := 2, cells := 0, slots := 0, locals := 44 }, none)
theorem kD_X5_whyNotRight : CodeIn mX5_whyNotRight 4 := ⟨kC_X5_whyNotRight, by decide +kernel⟩
def f_X5_whyNotRight (i1 : Nat) (i2 : Nat) (x3 : Int32) (o4 : (Option Nat)) (h : Hp) : Option Int32 := ((f_X5_whyNotAtPlace i1 i2 x3 h).bind fun r1 => (if r1 = 0 then (match o4 with | none => (some r1) | some k2 => ((f_X5_whyNotNextTo i1 k2 h).bind fun r3 => (some r3))) else (some r1)))
set_option maxRecDepth 100000 in
set_option maxHeartbeats 4000000 in
theorem a_X5_whyNotRight (i1 : Nat) (i2 : Nat) (x3 : Int32) (o4 : (Option Nat)) (h : Hp) : CtA (eIr h) mX5_whyNotRight U0 U0 [vr 5 (some 0), vr 1 (some i1), vr 0 (some i2), vi x3, vr 1 o4] h (f_X5_whyNotRight i1 i2 x3 o4 h) := by
  refine Ct.of (ls := [some (vr 5 (some 0)), some (vr 1 (some i1)), some (vr 0 (some i2)), some (vi x3), some (vr 1 o4), none]) (n := 1) (by decide +kernel) rfl rfl rfl ?_
  unfold f_X5_whyNotRight
  refine A_aload_n (pc := 0) (i := 0) dX5_whyNotRight_0 rfl rfl ?_
  refine A_aload_n (pc := 1) (i := 1) dX5_whyNotRight_1 rfl rfl ?_
  refine A_aload_n (pc := 2) (i := 2) dX5_whyNotRight_2 rfl rfl ?_
  refine A_iload_n (pc := 3) (i := 3) dX5_whyNotRight_3 rfl rfl ?_
  refine A_callV (pc := 4) (M' := mX5_whyNotAtPlace) (As := [vr 1 (some i1), vr 0 (some i2), vi x3]) (st := []) (0, 0) (fun r1 => [vi r1]) (fun _ => h) (a_X5_whyNotAtPlace i1 i2 x3 h) kD_X5_whyNotAtPlace kM_X5_52 kI_X5_whyNotAtPlace kS_X5_whyNotAtPlace kN_X5 ⟨(Nat.le_of_ble_eq_true rfl), (Nat.le_of_ble_eq_true rfl)⟩ dX5_whyNotRight_4 rfl rfl rfl (by decide) rfl (Nat.le_of_ble_eq_true rfl) (Nat.le_of_ble_eq_true rfl) (Nat.le_of_ble_eq_true rfl) (fun _ => rfl) (fun _ => rfl) (fun r1 => ?_)
  refine A_istore (pc := 7) (i := 5) (ls2 := [some (vr 5 (some 0)), some (vr 1 (some i1)), some (vr 0 (some i2)), some (vi x3), some (vr 1 o4), some (vi r1)]) dX5_whyNotRight_7 (Nat.le_of_ble_eq_true rfl) rfl ?_
  refine A_iload (pc := 9) (i := 5) dX5_whyNotRight_9 rfl ?_
  refine A_if_ne (pc := 11) (tgt := 19) dX5_whyNotRight_11 (by decide) ?_ ?_
  · refine A_iload (pc := 19) (i := 5) dX5_whyNotRight_19 rfl ?_
    refine A_goto (pc := 21) (tgt := 31) dX5_whyNotRight_21 (by decide) ?_
    exact A_retIr rfl dX5_whyNotRight_31
  · refine A_aload (pc := 14) (i := 4) dX5_whyNotRight_14 rfl ?_
    refine A_ifnonnull (pc := 16) (tgt := 24) dX5_whyNotRight_16 (by decide) (fun hz => ?_) (fun k2 hz => ?_)
    · subst hz
      try dsimp only
      refine A_iload (pc := 19) (i := 5) dX5_whyNotRight_19 rfl ?_
      refine A_goto (pc := 21) (tgt := 31) dX5_whyNotRight_21 (by decide) ?_
      exact A_retIr rfl dX5_whyNotRight_31
    · subst hz
      try dsimp only
      refine A_aload_n (pc := 24) (i := 0) dX5_whyNotRight_24 rfl rfl ?_
      refine A_aload_n (pc := 25) (i := 1) dX5_whyNotRight_25 rfl rfl ?_
      refine A_aload (pc := 26) (i := 4) dX5_whyNotRight_26 rfl ?_
      refine A_callV (pc := 28) (M' := mX5_whyNotNextTo) (As := [vr 1 (some i1), vr 1 (some k2)]) (st := []) (0, 0) (fun r3 => [vi r3]) (fun _ => h) (a_X5_whyNotNextTo i1 k2 h) kD_X5_whyNotNextTo kM_X5_56 kI_X5_whyNotNextTo kS_X5_whyNotNextTo kN_X5 ⟨(Nat.le_of_ble_eq_true rfl), (Nat.le_of_ble_eq_true rfl)⟩ dX5_whyNotRight_28 rfl rfl rfl (by decide) rfl (Nat.le_of_ble_eq_true rfl) (Nat.le_of_ble_eq_true rfl) (Nat.le_of_ble_eq_true rfl) (fun _ => rfl) (fun _ => rfl) (fun r3 => ?_)
      exact A_retIr rfl dX5_whyNotRight_31

abbrev mX5_whyNotOutermost : MD := (yX5_whyNotOutermost, cX5_whyNotOutermost, 6, (some .int), { frames := 3, cells := 0, slots := 0, locals := 69 }, none)
theorem kD_X5_whyNotOutermost : CodeIn mX5_whyNotOutermost 2 := ⟨kC_X5_whyNotOutermost, by decide +kernel⟩
def f_X5_whyNotOutermost (x1 : Int32) (x2 : Int32) (h : Hp) : Option Int32 := ((f_X5_boatOf x1 h).bind fun r1 => ((f_X5_berthOf x2 h).bind fun r2 => (match r1 with | none => (some (-1000001 : Int32)) | some k3 => (match r2 with | none => (some (-1000001 : Int32)) | some k4 => ((f_X1_isLying k3 h).bind fun r5 => (if r5 = true then (some (-1000005 : Int32)) else ((f_X5_countAt x2 h).bind fun r6 => ((f_X5_boatAt x2 (r6 - (1 : Int32)) h).bind fun r7 => ((f_X5_whyNotRight k3 k4 r6 r7 h).bind fun r8 => (some r8))))))))))
set_option maxRecDepth 100000 in
set_option maxHeartbeats 4000000 in
theorem a_X5_whyNotOutermost (x1 : Int32) (x2 : Int32) (h : Hp) : CtA (eIr h) mX5_whyNotOutermost U0 U0 [vr 5 (some 0), vi x1, vi x2] h (f_X5_whyNotOutermost x1 x2 h) := by
  refine Ct.of (ls := [some (vr 5 (some 0)), some (vi x1), some (vi x2), none, none, none]) (n := 3) (by decide +kernel) rfl rfl rfl ?_
  unfold f_X5_whyNotOutermost
  refine A_aload_n (pc := 0) (i := 0) dX5_whyNotOutermost_0 rfl rfl ?_
  refine A_iload_n (pc := 1) (i := 1) dX5_whyNotOutermost_1 rfl rfl ?_
  refine A_callV (pc := 2) (M' := mX5_boatOf) (As := [vi x1]) (st := []) (0, 0) (fun r1 => [vr 1 r1]) (fun _ => h) (a_X5_boatOf x1 h) kD_X5_boatOf kM_X5_92 kI_X5_boatOf kS_X5_boatOf kN_X5 ⟨(Nat.le_of_ble_eq_true rfl), (Nat.le_of_ble_eq_true rfl)⟩ dX5_whyNotOutermost_2 rfl rfl rfl (by decide) rfl (Nat.le_of_ble_eq_true rfl) (Nat.le_of_ble_eq_true rfl) (Nat.le_of_ble_eq_true rfl) (fun _ => rfl) (fun _ => rfl) (fun r1 => ?_)
  refine A_astore_n (pc := 5) (i := 3) (ls2 := [some (vr 5 (some 0)), some (vi x1), some (vi x2), some (vr 1 r1), none, none]) dX5_whyNotOutermost_5 rfl (Nat.le_of_ble_eq_true rfl) rfl ?_
  refine A_aload_n (pc := 6) (i := 0) dX5_whyNotOutermost_6 rfl rfl ?_
  refine A_iload_n (pc := 7) (i := 2) dX5_whyNotOutermost_7 rfl rfl ?_
  refine A_callV (pc := 8) (M' := mX5_berthOf) (As := [vi x2]) (st := []) (0, 0) (fun r2 => [vr 0 r2]) (fun _ => h) (a_X5_berthOf x2 h) kD_X5_berthOf kM_X5_96 kI_X5_berthOf kS_X5_berthOf kN_X5 ⟨(Nat.le_of_ble_eq_true rfl), (Nat.le_of_ble_eq_true rfl)⟩ dX5_whyNotOutermost_8 rfl rfl rfl (by decide) rfl (Nat.le_of_ble_eq_true rfl) (Nat.le_of_ble_eq_true rfl) (Nat.le_of_ble_eq_true rfl) (fun _ => rfl) (fun _ => rfl) (fun r2 => ?_)
  refine A_astore (pc := 11) (i := 4) (ls2 := [some (vr 5 (some 0)), some (vi x1), some (vi x2), some (vr 1 r1), some (vr 0 r2), none]) dX5_whyNotOutermost_11 (Nat.le_of_ble_eq_true rfl) rfl ?_
  refine A_aload_n (pc := 13) (i := 3) dX5_whyNotOutermost_13 rfl rfl ?_
  refine A_ifnull (pc := 14) (tgt := 22) dX5_whyNotOutermost_14 (by decide) (fun hz => ?_) (fun k3 hz => ?_)
  · subst hz
    try dsimp only
    refine A_ldc (pc := 22) (v := (-1000001 : Int32)) dX5_whyNotOutermost_22 kK_X5_27 ?_
    exact A_retIr rfl dX5_whyNotOutermost_24
  · subst hz
    try dsimp only
    refine A_aload (pc := 17) (i := 4) dX5_whyNotOutermost_17 rfl ?_
    refine A_ifnonnull (pc := 19) (tgt := 25) dX5_whyNotOutermost_19 (by decide) (fun hz => ?_) (fun k4 hz => ?_)
    · subst hz
      try dsimp only
      refine A_ldc (pc := 22) (v := (-1000001 : Int32)) dX5_whyNotOutermost_22 kK_X5_27 ?_
      exact A_retIr rfl dX5_whyNotOutermost_24
    · subst hz
      try dsimp only
      refine A_aload_n (pc := 25) (i := 3) dX5_whyNotOutermost_25 rfl rfl ?_
      refine A_callV (pc := 26) (M' := mX1_isLying) (As := []) (st := []) (0, 0) (fun r5 => [vi (bi r5)]) (fun _ => h) (a_X1_isLying k3 h) kD_X1_isLying kM_X5_48 kI_X1_isLying kS_X1_isLying kN_X1 ⟨(Nat.le_of_ble_eq_true rfl), (Nat.le_of_ble_eq_true rfl)⟩ dX5_whyNotOutermost_26 rfl rfl rfl (by decide) rfl (Nat.le_of_ble_eq_true rfl) (Nat.le_of_ble_eq_true rfl) (Nat.le_of_ble_eq_true rfl) (fun _ => rfl) (fun _ => rfl) (fun r5 => ?_)
      refine A_ifb_eq (pc := 29) (tgt := 35) dX5_whyNotOutermost_29 (by decide) ?_ ?_
      · refine A_aload_n (pc := 35) (i := 0) dX5_whyNotOutermost_35 rfl rfl ?_
        refine A_iload_n (pc := 36) (i := 2) dX5_whyNotOutermost_36 rfl rfl ?_
        refine A_callV (pc := 37) (M' := mX5_countAt) (As := [vi x2]) (st := []) (0, 0) (fun r6 => [vi r6]) (fun _ => h) (a_X5_countAt x2 h) kD_X5_countAt kM_X5_101 kI_X5_countAt kS_X5_countAt kN_X5 ⟨(Nat.le_of_ble_eq_true rfl), (Nat.le_of_ble_eq_true rfl)⟩ dX5_whyNotOutermost_37 rfl rfl rfl (by decide) rfl (Nat.le_of_ble_eq_true rfl) (Nat.le_of_ble_eq_true rfl) (Nat.le_of_ble_eq_true rfl) (fun _ => rfl) (fun _ => rfl) (fun r6 => ?_)
        refine A_istore (pc := 40) (i := 5) (ls2 := [some (vr 5 (some 0)), some (vi x1), some (vi x2), some (vr 1 (some k3)), some (vr 0 (some k4)), some (vi r6)]) dX5_whyNotOutermost_40 (Nat.le_of_ble_eq_true rfl) rfl ?_
        refine A_aload_n (pc := 42) (i := 0) dX5_whyNotOutermost_42 rfl rfl ?_
        refine A_aload_n (pc := 43) (i := 3) dX5_whyNotOutermost_43 rfl rfl ?_
        refine A_aload (pc := 44) (i := 4) dX5_whyNotOutermost_44 rfl ?_
        refine A_iload (pc := 46) (i := 5) dX5_whyNotOutermost_46 rfl ?_
        refine A_aload_n (pc := 48) (i := 0) dX5_whyNotOutermost_48 rfl rfl ?_
        refine A_iload_n (pc := 49) (i := 2) dX5_whyNotOutermost_49 rfl rfl ?_
        refine A_iload (pc := 50) (i := 5) dX5_whyNotOutermost_50 rfl ?_
        refine A_iconst (pc := 52) (v := (1 : Int32)) dX5_whyNotOutermost_52 (by decide) ?_
        refine A_isub (pc := 53) dX5_whyNotOutermost_53 ?_
        refine A_callV (pc := 54) (M' := mX5_boatAt) (As := [vi x2, vi (r6 - (1 : Int32))]) (st := [vi r6, vr 0 (some k4), vr 1 (some k3), vr 5 (some 0)]) (0, 0) (fun r7 => [vr 1 r7, vi r6, vr 0 (some k4), vr 1 (some k3), vr 5 (some 0)]) (fun _ => h) (a_X5_boatAt x2 (r6 - (1 : Int32)) h) kD_X5_boatAt kM_X5_105 kI_X5_boatAt kS_X5_boatAt kN_X5 ⟨(Nat.le_of_ble_eq_true rfl), (Nat.le_of_ble_eq_true rfl)⟩ dX5_whyNotOutermost_54 rfl rfl rfl (by decide) rfl (Nat.le_of_ble_eq_true rfl) (Nat.le_of_ble_eq_true rfl) (Nat.le_of_ble_eq_true rfl) (fun _ => rfl) (fun _ => rfl) (fun r7 => ?_)
        refine A_callV (pc := 57) (M' := mX5_whyNotRight) (As := [vr 1 (some k3), vr 0 (some k4), vi r6, vr 1 r7]) (st := []) (0, 0) (fun r8 => [vi r8]) (fun _ => h) (a_X5_whyNotRight k3 k4 r6 r7 h) kD_X5_whyNotRight kM_X5_109 kI_X5_whyNotRight kS_X5_whyNotRight kN_X5 ⟨(Nat.le_of_ble_eq_true rfl), (Nat.le_of_ble_eq_true rfl)⟩ dX5_whyNotOutermost_57 rfl rfl rfl (by decide) rfl (Nat.le_of_ble_eq_true rfl) (Nat.le_of_ble_eq_true rfl) (Nat.le_of_ble_eq_true rfl) (fun _ => rfl) (fun _ => rfl) (fun r8 => ?_)
        exact A_retIr rfl dX5_whyNotOutermost_60
      · refine A_ldc (pc := 32) (v := (-1000005 : Int32)) dX5_whyNotOutermost_32 kK_X5_100 ?_
        exact A_retIr rfl dX5_whyNotOutermost_34

abbrev mX5_layOutermost : MD := (yX5_layOutermost, cX5_layOutermost, 6, (some .int), { frames := 4, cells := 0, slots := 0, locals := 94 }, none)
theorem kD_X5_layOutermost : CodeIn mX5_layOutermost 2 := ⟨kC_X5_layOutermost, by decide +kernel⟩
def f_X5_layOutermost (x1 : Int32) (x2 : Int32) (h : Hp) : Option (Int32 × Hp) := ((f_X5_whyNotOutermost x1 x2 h).bind fun r1 => (if r1 = 0 then ((f_X5_boatOf x1 h).bind fun r2 => (match r2 with | none => (some ((-1000001 : Int32), h)) | some k3 => ((f_X5_countAt x2 h).bind fun r4 => ((f_X1_layAt k3 x2 r4 h).bind fun r5 => (some (r4, r5)))))) else (if 0 ≤ r1 then (if r1 = (1 : Int32) then (some ((-1000002 : Int32), h)) else (some ((-1000003 : Int32), h))) else (some (r1, h)))))
set_option maxRecDepth 100000 in
set_option maxHeartbeats 4000000 in
theorem a_X5_layOutermost (x1 : Int32) (x2 : Int32) (h : Hp) : CtA eI mX5_layOutermost U0 U0 [vr 5 (some 0), vi x1, vi x2] h (f_X5_layOutermost x1 x2 h) := by
  refine Ct.of (ls := [some (vr 5 (some 0)), some (vi x1), some (vi x2), none, none, none]) (n := 3) (by decide +kernel) rfl rfl rfl ?_
  unfold f_X5_layOutermost
  refine A_aload_n (pc := 0) (i := 0) dX5_layOutermost_0 rfl rfl ?_
  refine A_iload_n (pc := 1) (i := 1) dX5_layOutermost_1 rfl rfl ?_
  refine A_iload_n (pc := 2) (i := 2) dX5_layOutermost_2 rfl rfl ?_
  refine A_callV (pc := 3) (M' := mX5_whyNotOutermost) (As := [vi x1, vi x2]) (st := []) (0, 0) (fun r1 => [vi r1]) (fun _ => h) (a_X5_whyNotOutermost x1 x2 h) kD_X5_whyNotOutermost kM_X5_113 kI_X5_whyNotOutermost kS_X5_whyNotOutermost kN_X5 ⟨(Nat.le_of_ble_eq_true rfl), (Nat.le_of_ble_eq_true rfl)⟩ dX5_layOutermost_3 rfl rfl rfl (by decide) rfl (Nat.le_of_ble_eq_true rfl) (Nat.le_of_ble_eq_true rfl) (Nat.le_of_ble_eq_true rfl) (fun _ => rfl) (fun _ => rfl) (fun r1 => ?_)
  refine A_istore_n (pc := 6) (i := 3) (ls2 := [some (vr 5 (some 0)), some (vi x1), some (vi x2), some (vi r1), none, none]) dX5_layOutermost_6 rfl (Nat.le_of_ble_eq_true rfl) rfl ?_
  refine A_iload_n (pc := 7) (i := 3) dX5_layOutermost_7 rfl rfl ?_
  refine A_if_eq (pc := 8) (tgt := 32) dX5_layOutermost_8 (by decide) ?_ ?_
  · refine A_aload_n (pc := 32) (i := 0) dX5_layOutermost_32 rfl rfl ?_
    refine A_iload_n (pc := 33) (i := 1) dX5_layOutermost_33 rfl rfl ?_
    refine A_callV (pc := 34) (M' := mX5_boatOf) (As := [vi x1]) (st := []) (0, 0) (fun r2 => [vr 1 r2]) (fun _ => h) (a_X5_boatOf x1 h) kD_X5_boatOf kM_X5_92 kI_X5_boatOf kS_X5_boatOf kN_X5 ⟨(Nat.le_of_ble_eq_true rfl), (Nat.le_of_ble_eq_true rfl)⟩ dX5_layOutermost_34 rfl rfl rfl (by decide) rfl (Nat.le_of_ble_eq_true rfl) (Nat.le_of_ble_eq_true rfl) (Nat.le_of_ble_eq_true rfl) (fun _ => rfl) (fun _ => rfl) (fun r2 => ?_)
    refine A_astore (pc := 37) (i := 4) (ls2 := [some (vr 5 (some 0)), some (vi x1), some (vi x2), some (vi r1), some (vr 1 r2), none]) dX5_layOutermost_37 (Nat.le_of_ble_eq_true rfl) rfl ?_
    refine A_aload (pc := 39) (i := 4) dX5_layOutermost_39 rfl ?_
    refine A_ifnonnull (pc := 41) (tgt := 47) dX5_layOutermost_41 (by decide) (fun hz => ?_) (fun k3 hz => ?_)
    · subst hz
      try dsimp only
      refine A_ldc (pc := 44) (v := (-1000001 : Int32)) dX5_layOutermost_44 kK_X5_27 ?_
      exact A_retI rfl dX5_layOutermost_46
    · subst hz
      try dsimp only
      refine A_aload_n (pc := 47) (i := 0) dX5_layOutermost_47 rfl rfl ?_
      refine A_iload_n (pc := 48) (i := 2) dX5_layOutermost_48 rfl rfl ?_
      refine A_callV (pc := 49) (M' := mX5_countAt) (As := [vi x2]) (st := []) (0, 0) (fun r4 => [vi r4]) (fun _ => h) (a_X5_countAt x2 h) kD_X5_countAt kM_X5_101 kI_X5_countAt kS_X5_countAt kN_X5 ⟨(Nat.le_of_ble_eq_true rfl), (Nat.le_of_ble_eq_true rfl)⟩ dX5_layOutermost_49 rfl rfl rfl (by decide) rfl (Nat.le_of_ble_eq_true rfl) (Nat.le_of_ble_eq_true rfl) (Nat.le_of_ble_eq_true rfl) (fun _ => rfl) (fun _ => rfl) (fun r4 => ?_)
      refine A_istore (pc := 52) (i := 5) (ls2 := [some (vr 5 (some 0)), some (vi x1), some (vi x2), some (vi r1), some (vr 1 (some k3)), some (vi r4)]) dX5_layOutermost_52 (Nat.le_of_ble_eq_true rfl) rfl ?_
      refine A_aload (pc := 54) (i := 4) dX5_layOutermost_54 rfl ?_
      refine A_iload_n (pc := 56) (i := 2) dX5_layOutermost_56 rfl rfl ?_
      refine A_iload (pc := 57) (i := 5) dX5_layOutermost_57 rfl ?_
      refine A_callV (pc := 59) (M' := mX1_layAt) (As := [vi x2, vi r4]) (st := []) (0, 0) (fun r5 => []) (fun r5 => r5) (a_X1_layAt k3 x2 r4 h) kD_X1_layAt kM_X5_118 kI_X1_layAt kS_X1_layAt kN_X1 ⟨(Nat.le_of_ble_eq_true rfl), (Nat.le_of_ble_eq_true rfl)⟩ dX5_layOutermost_59 rfl rfl rfl (by decide) rfl (Nat.le_of_ble_eq_true rfl) (Nat.le_of_ble_eq_true rfl) (Nat.le_of_ble_eq_true rfl) (fun _ => rfl) (fun _ => rfl) (fun r5 => ?_)
      refine A_iload (pc := 62) (i := 5) dX5_layOutermost_62 rfl ?_
      exact A_retI rfl dX5_layOutermost_64
  · refine A_iload_n (pc := 11) (i := 3) dX5_layOutermost_11 rfl rfl ?_
    refine A_if_ge (pc := 12) (tgt := 19) dX5_layOutermost_12 (by decide) ?_ ?_
    · refine A_iload_n (pc := 19) (i := 3) dX5_layOutermost_19 rfl rfl ?_
      refine A_iconst (pc := 20) (v := (1 : Int32)) dX5_layOutermost_20 (by decide) ?_
      refine A_icmp_ne (pc := 21) (tgt := 29) dX5_layOutermost_21 (by decide) ?_ ?_
      · refine A_ldc (pc := 29) (v := (-1000003 : Int32)) dX5_layOutermost_29 kK_X5_117 ?_
        exact A_retI rfl dX5_layOutermost_31
      · refine A_ldc (pc := 24) (v := (-1000002 : Int32)) dX5_layOutermost_24 kK_X5_32 ?_
        refine A_goto (pc := 26) (tgt := 31) dX5_layOutermost_26 (by decide) ?_
        exact A_retI rfl dX5_layOutermost_31
    · refine A_iload_n (pc := 15) (i := 3) dX5_layOutermost_15 rfl rfl ?_
      refine A_goto (pc := 16) (tgt := 31) dX5_layOutermost_16 (by decide) ?_
      exact A_retI rfl dX5_layOutermost_31

abbrev mX5_fitsBetween : MD := (yX5_fitsBetween, cX5_fitsBetween, 10, (some .boolean), { frames := 3, cells := 0, slots := 0, locals := 69 }, none)
theorem kD_X5_fitsBetween : CodeIn mX5_fitsBetween 4 := ⟨kC_X5_fitsBetween, by decide +kernel⟩
def fJ_X5_fitsBetween_103 (h : Hp) (c36 : Nat → Nat → Int32 → Int32 → Int32 → Int32 → Option Bool) (i1 : Nat) (i2 : Nat) (x3 : Int32) (x4 : Int32) (x6 : Int32) (x7 : Int32) (i8 : Nat) (os0 : (Option Nat)) : Option Bool := ((f_X5_whyNotRight i8 i2 ((gI h 1 i8 9) + (1 : Int32)) os0 h).bind fun r6 => (if r6 = 0 then (c36 i1 i2 x3 x4 x6 (x7 + 1)) else (some false)))
set_option maxRecDepth 100000 in
set_option maxHeartbeats 4000000 in
theorem aJ_X5_fitsBetween_103 (h : Hp) (c36 : Nat → Nat → Int32 → Int32 → Int32 → Int32 → Option Bool) (hc36 : ∀ (i1 : Nat) (i2 : Nat) (x3 : Int32) (x4 : Int32) (x6 : Int32) (x7 : Int32), Aw (eBr h) U0 mX5_fitsBetween (0, 0) U0 36 [some (vr 5 (some 0)), some (vr 1 (some i1)), some (vr 0 (some i2)), some (vi x3), some (vi x4), some (vr 11 (some 0)), some (vi x6), some (vi x7), none, none] [] h (c36 i1 i2 x3 x4 x6 x7)) (i1 : Nat) (i2 : Nat) (x3 : Int32) (x4 : Int32) (x6 : Int32) (x7 : Int32) (i8 : Nat) (os0 : (Option Nat)) : Aw (eBr h) U0 mX5_fitsBetween (0, 0) U0 103 [some (vr 5 (some 0)), some (vr 1 (some i1)), some (vr 0 (some i2)), some (vi x3), some (vi x4), some (vr 11 (some 0)), some (vi x6), some (vi x7), some (vr 1 (some i8)), none] [vr 1 os0] h (fJ_X5_fitsBetween_103 h c36 i1 i2 x3 x4 x6 x7 i8 os0) := by
  unfold fJ_X5_fitsBetween_103
  refine A_astore (pc := 103) (i := 9) (ls2 := [some (vr 5 (some 0)), some (vr 1 (some i1)), some (vr 0 (some i2)), some (vi x3), some (vi x4), some (vr 11 (some 0)), some (vi x6), some (vi x7), some (vr 1 (some i8)), some (vr 1 os0)]) dX5_fitsBetween_103 (Nat.le_of_ble_eq_true rfl) rfl ?_
  refine A_aload_n (pc := 105) (i := 0) dX5_fitsBetween_105 rfl rfl ?_
  refine A_aload (pc := 106) (i := 8) dX5_fitsBetween_106 rfl ?_
  refine A_aload_n (pc := 108) (i := 2) dX5_fitsBetween_108 rfl rfl ?_
  refine A_aload (pc := 109) (i := 8) dX5_fitsBetween_109 rfl ?_
  refine A_getI (pc := 111) (k := 9) clX1 (Nat.le_of_ble_eq_true rfl) dX5_fitsBetween_111 kF_X5_45 rfl ?_
  refine A_iconst (pc := 114) (v := (1 : Int32)) dX5_fitsBetween_114 (by decide) ?_
  refine A_iadd (pc := 115) dX5_fitsBetween_115 ?_
  refine A_aload (pc := 116) (i := 9) dX5_fitsBetween_116 rfl ?_
  refine A_callV (pc := 118) (M' := mX5_whyNotRight) (As := [vr 1 (some i8), vr 0 (some i2), vi ((gI h 1 i8 9) + (1 : Int32)), vr 1 os0]) (st := []) (0, 0) (fun r6 => [vi r6]) (fun _ => h) (a_X5_whyNotRight i8 i2 ((gI h 1 i8 9) + (1 : Int32)) os0 h) kD_X5_whyNotRight kM_X5_109 kI_X5_whyNotRight kS_X5_whyNotRight kN_X5 ⟨(Nat.le_of_ble_eq_true rfl), (Nat.le_of_ble_eq_true rfl)⟩ dX5_fitsBetween_118 rfl rfl rfl (by decide) rfl (Nat.le_of_ble_eq_true rfl) (Nat.le_of_ble_eq_true rfl) (Nat.le_of_ble_eq_true rfl) (fun _ => rfl) (fun _ => rfl) (fun r6 => ?_)
  refine A_if_eq (pc := 121) (tgt := 126) dX5_fitsBetween_121 (by decide) ?_ ?_
  · refine A_iinc (pc := 126) (i := 7) (v := (x7 + 1)) (ls2 := [some (vr 5 (some 0)), some (vr 1 (some i1)), some (vr 0 (some i2)), some (vi x3), some (vi x4), some (vr 11 (some 0)), some (vi x6), some (vi (x7 + 1)), some (vr 1 (some i8)), some (vr 1 os0)]) dX5_fitsBetween_126 rfl rfl (Nat.le_of_ble_eq_true rfl) rfl ?_
    refine A_goto (pc := 129) (tgt := 36) dX5_fitsBetween_129 (by decide) ?_
    exact Aw.weak (ls' := [some (vr 5 (some 0)), some (vr 1 (some i1)), some (vr 0 (some i2)), some (vi x3), some (vi x4), some (vr 11 (some 0)), some (vi x6), some (vi (x7 + 1)), none, none]) ⟨rfl, ⟨rfl, ⟨rfl, ⟨rfl, ⟨rfl, ⟨rfl, ⟨rfl, ⟨rfl, trivial⟩⟩⟩⟩⟩⟩⟩⟩ (hc36 i1 i2 x3 x4 x6 (x7 + 1))
  · refine A_iconst (pc := 124) (v := (0 : Int32)) dX5_fitsBetween_124 (by decide) ?_
    exact A_retBr rfl rfl dX5_fitsBetween_125
def fL_X5_fitsBetween_36 (h : Hp) : Nat → Nat → Nat → Int32 → Int32 → Int32 → Int32 → Option Bool
  | 0, _, _, _, _, _, _ => none
  | n + 1, i1, i2, x3, x4, x6, x7 => (if x6 ≤ x7 then (some true) else (if 0 ≤ x7 ∧ x7 < 8 then (match (gP h 11 0 (Int32.toNatClampNeg x7)) with | none => ((fL_X5_fitsBetween_36 h n) i1 i2 x3 x4 x6 (x7 + 1)) | some k4 => (if (gI h 1 k4 8) = x3 then (if x4 ≤ (gI h 1 k4 9) then (if (gI h 1 k4 9) = x4 then (fJ_X5_fitsBetween_103 h (fL_X5_fitsBetween_36 h n) i1 i2 x3 x4 x6 x7 k4 (some i1)) else ((f_X5_boatAt x3 ((gI h 1 k4 9) - (1 : Int32)) h).bind fun r5 => (fJ_X5_fitsBetween_103 h (fL_X5_fitsBetween_36 h n) i1 i2 x3 x4 x6 x7 k4 r5))) else ((fL_X5_fitsBetween_36 h n) i1 i2 x3 x4 x6 (x7 + 1))) else ((fL_X5_fitsBetween_36 h n) i1 i2 x3 x4 x6 (x7 + 1)))) else none))
set_option maxRecDepth 100000 in
set_option maxHeartbeats 4000000 in
theorem aL_X5_fitsBetween_36 (h : Hp) : ∀ (n : Nat) (i1 : Nat) (i2 : Nat) (x3 : Int32) (x4 : Int32) (x6 : Int32) (x7 : Int32), Aw (eBr h) U0 mX5_fitsBetween (0, 0) U0 36 [some (vr 5 (some 0)), some (vr 1 (some i1)), some (vr 0 (some i2)), some (vi x3), some (vi x4), some (vr 11 (some 0)), some (vi x6), some (vi x7), none, none] [] h (fL_X5_fitsBetween_36 h n i1 i2 x3 x4 x6 x7) := by
  intro n
  induction n with
  | zero =>
    intro i1 i2 x3 x4 x6 x7
    exact Aw.none
  | succ n ih =>
    intro i1 i2 x3 x4 x6 x7
    show Aw _ _ _ _ _ _ _ _ _ (fL_X5_fitsBetween_36 h (n + 1) i1 i2 x3 x4 x6 x7)
    unfold fL_X5_fitsBetween_36
    refine A_iload (pc := 36) (i := 7) dX5_fitsBetween_36 rfl ?_
    refine A_iload (pc := 38) (i := 6) dX5_fitsBetween_38 rfl ?_
    refine A_icmp_ge (pc := 40) (tgt := 132) dX5_fitsBetween_40 (by decide) ?_ ?_
    · refine A_iconst (pc := 132) (v := (1 : Int32)) dX5_fitsBetween_132 (by decide) ?_
      exact A_retBr rfl rfl dX5_fitsBetween_133
    · refine A_aload (pc := 43) (i := 5) dX5_fitsBetween_43 rfl ?_
      refine A_iload (pc := 45) (i := 7) dX5_fitsBetween_45 rfl ?_
      refine A_aaload (pc := 47) (n := 8) (te := 1) (C := RX1) (by decide) (by decide) (by decide) (fun _ => rfl) rfl dX5_fitsBetween_47 (by decide) ?_
      generalize (gP h 11 0 (Int32.toNatClampNeg x7)) = q3
      refine A_astore (pc := 48) (i := 8) (ls2 := [some (vr 5 (some 0)), some (vr 1 (some i1)), some (vr 0 (some i2)), some (vi x3), some (vi x4), some (vr 11 (some 0)), some (vi x6), some (vi x7), some (vr 1 q3), none]) dX5_fitsBetween_48 (Nat.le_of_ble_eq_true rfl) rfl ?_
      refine A_aload (pc := 50) (i := 8) dX5_fitsBetween_50 rfl ?_
      refine A_ifnull (pc := 52) (tgt := 126) dX5_fitsBetween_52 (by decide) (fun hz => ?_) (fun k4 hz => ?_)
      · subst hz
        try dsimp only
        refine A_iinc (pc := 126) (i := 7) (v := (x7 + 1)) (ls2 := [some (vr 5 (some 0)), some (vr 1 (some i1)), some (vr 0 (some i2)), some (vi x3), some (vi x4), some (vr 11 (some 0)), some (vi x6), some (vi (x7 + 1)), some (vr 1 none), none]) dX5_fitsBetween_126 rfl rfl (Nat.le_of_ble_eq_true rfl) rfl ?_
        refine A_goto (pc := 129) (tgt := 36) dX5_fitsBetween_129 (by decide) ?_
        exact Aw.weak (ls' := [some (vr 5 (some 0)), some (vr 1 (some i1)), some (vr 0 (some i2)), some (vi x3), some (vi x4), some (vr 11 (some 0)), some (vi x6), some (vi (x7 + 1)), none, none]) ⟨rfl, ⟨rfl, ⟨rfl, ⟨rfl, ⟨rfl, ⟨rfl, ⟨rfl, ⟨rfl, trivial⟩⟩⟩⟩⟩⟩⟩⟩ (ih i1 i2 x3 x4 x6 (x7 + 1))
      · subst hz
        try dsimp only
        refine A_aload (pc := 55) (i := 8) dX5_fitsBetween_55 rfl ?_
        refine A_getI (pc := 57) (k := 8) clX1 (Nat.le_of_ble_eq_true rfl) dX5_fitsBetween_57 kF_X5_42 rfl ?_
        refine A_iload_n (pc := 60) (i := 3) dX5_fitsBetween_60 rfl rfl ?_
        refine A_icmp_ne (pc := 61) (tgt := 126) dX5_fitsBetween_61 (by decide) ?_ ?_
        · refine A_iinc (pc := 126) (i := 7) (v := (x7 + 1)) (ls2 := [some (vr 5 (some 0)), some (vr 1 (some i1)), some (vr 0 (some i2)), some (vi x3), some (vi x4), some (vr 11 (some 0)), some (vi x6), some (vi (x7 + 1)), some (vr 1 (some k4)), none]) dX5_fitsBetween_126 rfl rfl (Nat.le_of_ble_eq_true rfl) rfl ?_
          refine A_goto (pc := 129) (tgt := 36) dX5_fitsBetween_129 (by decide) ?_
          exact Aw.weak (ls' := [some (vr 5 (some 0)), some (vr 1 (some i1)), some (vr 0 (some i2)), some (vi x3), some (vi x4), some (vr 11 (some 0)), some (vi x6), some (vi (x7 + 1)), none, none]) ⟨rfl, ⟨rfl, ⟨rfl, ⟨rfl, ⟨rfl, ⟨rfl, ⟨rfl, ⟨rfl, trivial⟩⟩⟩⟩⟩⟩⟩⟩ (ih i1 i2 x3 x4 x6 (x7 + 1))
        · refine A_aload (pc := 64) (i := 8) dX5_fitsBetween_64 rfl ?_
          refine A_getI (pc := 66) (k := 9) clX1 (Nat.le_of_ble_eq_true rfl) dX5_fitsBetween_66 kF_X5_45 rfl ?_
          refine A_iload (pc := 69) (i := 4) dX5_fitsBetween_69 rfl ?_
          refine A_icmp_ge (pc := 71) (tgt := 77) dX5_fitsBetween_71 (by decide) ?_ ?_
          · refine A_aload (pc := 77) (i := 8) dX5_fitsBetween_77 rfl ?_
            refine A_getI (pc := 79) (k := 9) clX1 (Nat.le_of_ble_eq_true rfl) dX5_fitsBetween_79 kF_X5_45 rfl ?_
            refine A_iload (pc := 82) (i := 4) dX5_fitsBetween_82 rfl ?_
            refine A_icmp_ne (pc := 84) (tgt := 91) dX5_fitsBetween_84 (by decide) ?_ ?_
            · refine A_aload_n (pc := 91) (i := 0) dX5_fitsBetween_91 rfl rfl ?_
              refine A_iload_n (pc := 92) (i := 3) dX5_fitsBetween_92 rfl rfl ?_
              refine A_aload (pc := 93) (i := 8) dX5_fitsBetween_93 rfl ?_
              refine A_getI (pc := 95) (k := 9) clX1 (Nat.le_of_ble_eq_true rfl) dX5_fitsBetween_95 kF_X5_45 rfl ?_
              refine A_iconst (pc := 98) (v := (1 : Int32)) dX5_fitsBetween_98 (by decide) ?_
              refine A_isub (pc := 99) dX5_fitsBetween_99 ?_
              refine A_callV (pc := 100) (M' := mX5_boatAt) (As := [vi x3, vi ((gI h 1 k4 9) - (1 : Int32))]) (st := []) (0, 0) (fun r5 => [vr 1 r5]) (fun _ => h) (a_X5_boatAt x3 ((gI h 1 k4 9) - (1 : Int32)) h) kD_X5_boatAt kM_X5_105 kI_X5_boatAt kS_X5_boatAt kN_X5 ⟨(Nat.le_of_ble_eq_true rfl), (Nat.le_of_ble_eq_true rfl)⟩ dX5_fitsBetween_100 rfl rfl rfl (by decide) rfl (Nat.le_of_ble_eq_true rfl) (Nat.le_of_ble_eq_true rfl) (Nat.le_of_ble_eq_true rfl) (fun _ => rfl) (fun _ => rfl) (fun r5 => ?_)
              exact Aw.weak (ls' := [some (vr 5 (some 0)), some (vr 1 (some i1)), some (vr 0 (some i2)), some (vi x3), some (vi x4), some (vr 11 (some 0)), some (vi x6), some (vi x7), some (vr 1 (some k4)), none]) ⟨rfl, ⟨rfl, ⟨rfl, ⟨rfl, ⟨rfl, ⟨rfl, ⟨rfl, ⟨rfl, ⟨rfl, trivial⟩⟩⟩⟩⟩⟩⟩⟩⟩ (aJ_X5_fitsBetween_103 h (fL_X5_fitsBetween_36 h n) ih i1 i2 x3 x4 x6 x7 k4 r5)
            · refine A_aload_n (pc := 87) (i := 1) dX5_fitsBetween_87 rfl rfl ?_
              refine A_goto (pc := 88) (tgt := 103) dX5_fitsBetween_88 (by decide) ?_
              exact Aw.weak (ls' := [some (vr 5 (some 0)), some (vr 1 (some i1)), some (vr 0 (some i2)), some (vi x3), some (vi x4), some (vr 11 (some 0)), some (vi x6), some (vi x7), some (vr 1 (some k4)), none]) ⟨rfl, ⟨rfl, ⟨rfl, ⟨rfl, ⟨rfl, ⟨rfl, ⟨rfl, ⟨rfl, ⟨rfl, trivial⟩⟩⟩⟩⟩⟩⟩⟩⟩ (aJ_X5_fitsBetween_103 h (fL_X5_fitsBetween_36 h n) ih i1 i2 x3 x4 x6 x7 k4 (some i1))
          · refine A_goto (pc := 74) (tgt := 126) dX5_fitsBetween_74 (by decide) ?_
            refine A_iinc (pc := 126) (i := 7) (v := (x7 + 1)) (ls2 := [some (vr 5 (some 0)), some (vr 1 (some i1)), some (vr 0 (some i2)), some (vi x3), some (vi x4), some (vr 11 (some 0)), some (vi x6), some (vi (x7 + 1)), some (vr 1 (some k4)), none]) dX5_fitsBetween_126 rfl rfl (Nat.le_of_ble_eq_true rfl) rfl ?_
            refine A_goto (pc := 129) (tgt := 36) dX5_fitsBetween_129 (by decide) ?_
            exact Aw.weak (ls' := [some (vr 5 (some 0)), some (vr 1 (some i1)), some (vr 0 (some i2)), some (vi x3), some (vi x4), some (vr 11 (some 0)), some (vi x6), some (vi (x7 + 1)), none, none]) ⟨rfl, ⟨rfl, ⟨rfl, ⟨rfl, ⟨rfl, ⟨rfl, ⟨rfl, ⟨rfl, trivial⟩⟩⟩⟩⟩⟩⟩⟩ (ih i1 i2 x3 x4 x6 (x7 + 1))
def f_X5_fitsBetween (i1 : Nat) (i2 : Nat) (x3 : Int32) (x4 : Int32) (h : Hp) : Option Bool := ((f_X5_boatAt x3 (x4 - (1 : Int32)) h).bind fun r1 => ((f_X5_whyNotRight i1 i2 x4 r1 h).bind fun r2 => (if r2 = 0 then (fL_X5_fitsBetween_36 h FU i1 i2 x3 x4 (8 : Int32) (0 : Int32)) else (some false))))
set_option maxRecDepth 100000 in
set_option maxHeartbeats 4000000 in
theorem a_X5_fitsBetween (i1 : Nat) (i2 : Nat) (x3 : Int32) (x4 : Int32) (h : Hp) : CtA (eBr h) mX5_fitsBetween U0 U0 [vr 5 (some 0), vr 1 (some i1), vr 0 (some i2), vi x3, vi x4] h (f_X5_fitsBetween i1 i2 x3 x4 h) := by
  refine Ct.of (ls := [some (vr 5 (some 0)), some (vr 1 (some i1)), some (vr 0 (some i2)), some (vi x3), some (vi x4), none, none, none, none, none]) (n := 5) (by decide +kernel) rfl rfl rfl ?_
  unfold f_X5_fitsBetween
  refine A_aload_n (pc := 0) (i := 0) dX5_fitsBetween_0 rfl rfl ?_
  refine A_aload_n (pc := 1) (i := 1) dX5_fitsBetween_1 rfl rfl ?_
  refine A_aload_n (pc := 2) (i := 2) dX5_fitsBetween_2 rfl rfl ?_
  refine A_iload (pc := 3) (i := 4) dX5_fitsBetween_3 rfl ?_
  refine A_aload_n (pc := 5) (i := 0) dX5_fitsBetween_5 rfl rfl ?_
  refine A_iload_n (pc := 6) (i := 3) dX5_fitsBetween_6 rfl rfl ?_
  refine A_iload (pc := 7) (i := 4) dX5_fitsBetween_7 rfl ?_
  refine A_iconst (pc := 9) (v := (1 : Int32)) dX5_fitsBetween_9 (by decide) ?_
  refine A_isub (pc := 10) dX5_fitsBetween_10 ?_
  refine A_callV (pc := 11) (M' := mX5_boatAt) (As := [vi x3, vi (x4 - (1 : Int32))]) (st := [vi x4, vr 0 (some i2), vr 1 (some i1), vr 5 (some 0)]) (0, 0) (fun r1 => [vr 1 r1, vi x4, vr 0 (some i2), vr 1 (some i1), vr 5 (some 0)]) (fun _ => h) (a_X5_boatAt x3 (x4 - (1 : Int32)) h) kD_X5_boatAt kM_X5_105 kI_X5_boatAt kS_X5_boatAt kN_X5 ⟨(Nat.le_of_ble_eq_true rfl), (Nat.le_of_ble_eq_true rfl)⟩ dX5_fitsBetween_11 rfl rfl rfl (by decide) rfl (Nat.le_of_ble_eq_true rfl) (Nat.le_of_ble_eq_true rfl) (Nat.le_of_ble_eq_true rfl) (fun _ => rfl) (fun _ => rfl) (fun r1 => ?_)
  refine A_callV (pc := 14) (M' := mX5_whyNotRight) (As := [vr 1 (some i1), vr 0 (some i2), vi x4, vr 1 r1]) (st := []) (0, 0) (fun r2 => [vi r2]) (fun _ => h) (a_X5_whyNotRight i1 i2 x4 r1 h) kD_X5_whyNotRight kM_X5_109 kI_X5_whyNotRight kS_X5_whyNotRight kN_X5 ⟨(Nat.le_of_ble_eq_true rfl), (Nat.le_of_ble_eq_true rfl)⟩ dX5_fitsBetween_14 rfl rfl rfl (by decide) rfl (Nat.le_of_ble_eq_true rfl) (Nat.le_of_ble_eq_true rfl) (Nat.le_of_ble_eq_true rfl) (fun _ => rfl) (fun _ => rfl) (fun r2 => ?_)
  refine A_if_eq (pc := 17) (tgt := 22) dX5_fitsBetween_17 (by decide) ?_ ?_
  · refine A_aload_n (pc := 22) (i := 0) dX5_fitsBetween_22 rfl rfl ?_
    refine A_getS (pc := 23) (k := 1) (tp := 11) clX5 (Nat.le_of_ble_eq_true rfl) dX5_fitsBetween_23 kF_X5_19 rfl rfl rfl ?_
    refine A_astore (pc := 26) (i := 5) (ls2 := [some (vr 5 (some 0)), some (vr 1 (some i1)), some (vr 0 (some i2)), some (vi x3), some (vi x4), some (vr 11 (some 0)), none, none, none, none]) dX5_fitsBetween_26 (Nat.le_of_ble_eq_true rfl) rfl ?_
    refine A_aload (pc := 28) (i := 5) dX5_fitsBetween_28 rfl ?_
    refine A_alen (pc := 30) (v := (8 : Int32)) (by decide) (by decide) (by decide) rfl dX5_fitsBetween_30 ?_
    refine A_istore (pc := 31) (i := 6) (ls2 := [some (vr 5 (some 0)), some (vr 1 (some i1)), some (vr 0 (some i2)), some (vi x3), some (vi x4), some (vr 11 (some 0)), some (vi (8 : Int32)), none, none, none]) dX5_fitsBetween_31 (Nat.le_of_ble_eq_true rfl) rfl ?_
    refine A_iconst (pc := 33) (v := (0 : Int32)) dX5_fitsBetween_33 (by decide) ?_
    refine A_istore (pc := 34) (i := 7) (ls2 := [some (vr 5 (some 0)), some (vr 1 (some i1)), some (vr 0 (some i2)), some (vi x3), some (vi x4), some (vr 11 (some 0)), some (vi (8 : Int32)), some (vi (0 : Int32)), none, none]) dX5_fitsBetween_34 (Nat.le_of_ble_eq_true rfl) rfl ?_
    exact Aw.weak (ls' := [some (vr 5 (some 0)), some (vr 1 (some i1)), some (vr 0 (some i2)), some (vi x3), some (vi x4), some (vr 11 (some 0)), some (vi (8 : Int32)), some (vi (0 : Int32)), none, none]) ⟨rfl, ⟨rfl, ⟨rfl, ⟨rfl, ⟨rfl, ⟨rfl, ⟨rfl, ⟨rfl, trivial⟩⟩⟩⟩⟩⟩⟩⟩ (aL_X5_fitsBetween_36 h FU i1 i2 x3 x4 (8 : Int32) (0 : Int32))
  · refine A_iconst (pc := 20) (v := (0 : Int32)) dX5_fitsBetween_20 (by decide) ?_
    exact A_retBr rfl rfl dX5_fitsBetween_21

abbrev mX5_layBetween : MD := (yX5_layBetween, cX5_layBetween, 7, (some .int), { frames := 4, cells := 0, slots := 0, locals := 98 }, none)
theorem kD_X5_layBetween : CodeIn mX5_layBetween 3 := ⟨kC_X5_layBetween, by decide +kernel⟩
def f_X5_layBetween (x1 : Int32) (x2 : Int32) (x3 : Int32) (h : Hp) : Option (Int32 × Hp) := ((f_X5_boatOf x1 h).bind fun r1 => ((f_X5_berthOf x2 h).bind fun r2 => (match r1 with | none => (some ((-1000001 : Int32), h)) | some k3 => (match r2 with | none => (some ((-1000001 : Int32), h)) | some k4 => (if x3 < 0 then (some ((-1000001 : Int32), h)) else ((f_X5_countAt x2 h).bind fun r5 => (if x3 ≤ r5 then ((f_X1_isLying k3 h).bind fun r6 => (if r6 = true then (some ((-1000005 : Int32), h)) else ((f_X5_countAt x2 h).bind fun r7 => (if r7 < (gI h 0 k4 2) then ((f_X5_fitsBetween k3 k4 x2 x3 h).bind fun r8 => (if r8 = true then ((f_X5_moveFrom x2 x3 (1 : Int32) h).bind fun r9 => ((f_X1_layAt k3 x2 x3 r9.2).bind fun r10 => (some (r9.1, r10)))) else (some ((-1000003 : Int32), h)))) else (some ((-1000002 : Int32), h)))))) else (some ((-1000001 : Int32), h)))))))))
set_option maxRecDepth 100000 in
set_option maxHeartbeats 4000000 in
theorem a_X5_layBetween (x1 : Int32) (x2 : Int32) (x3 : Int32) (h : Hp) : CtA eI mX5_layBetween U0 U0 [vr 5 (some 0), vi x1, vi x2, vi x3] h (f_X5_layBetween x1 x2 x3 h) := by
  refine Ct.of (ls := [some (vr 5 (some 0)), some (vi x1), some (vi x2), some (vi x3), none, none, none]) (n := 3) (by decide +kernel) rfl rfl rfl ?_
  unfold f_X5_layBetween
  refine A_aload_n (pc := 0) (i := 0) dX5_layBetween_0 rfl rfl ?_
  refine A_iload_n (pc := 1) (i := 1) dX5_layBetween_1 rfl rfl ?_
  refine A_callV (pc := 2) (M' := mX5_boatOf) (As := [vi x1]) (st := []) (0, 0) (fun r1 => [vr 1 r1]) (fun _ => h) (a_X5_boatOf x1 h) kD_X5_boatOf kM_X5_92 kI_X5_boatOf kS_X5_boatOf kN_X5 ⟨(Nat.le_of_ble_eq_true rfl), (Nat.le_of_ble_eq_true rfl)⟩ dX5_layBetween_2 rfl rfl rfl (by decide) rfl (Nat.le_of_ble_eq_true rfl) (Nat.le_of_ble_eq_true rfl) (Nat.le_of_ble_eq_true rfl) (fun _ => rfl) (fun _ => rfl) (fun r1 => ?_)
  refine A_astore (pc := 5) (i := 4) (ls2 := [some (vr 5 (some 0)), some (vi x1), some (vi x2), some (vi x3), some (vr 1 r1), none, none]) dX5_layBetween_5 (Nat.le_of_ble_eq_true rfl) rfl ?_
  refine A_aload_n (pc := 7) (i := 0) dX5_layBetween_7 rfl rfl ?_
  refine A_iload_n (pc := 8) (i := 2) dX5_layBetween_8 rfl rfl ?_
  refine A_callV (pc := 9) (M' := mX5_berthOf) (As := [vi x2]) (st := []) (0, 0) (fun r2 => [vr 0 r2]) (fun _ => h) (a_X5_berthOf x2 h) kD_X5_berthOf kM_X5_96 kI_X5_berthOf kS_X5_berthOf kN_X5 ⟨(Nat.le_of_ble_eq_true rfl), (Nat.le_of_ble_eq_true rfl)⟩ dX5_layBetween_9 rfl rfl rfl (by decide) rfl (Nat.le_of_ble_eq_true rfl) (Nat.le_of_ble_eq_true rfl) (Nat.le_of_ble_eq_true rfl) (fun _ => rfl) (fun _ => rfl) (fun r2 => ?_)
  refine A_astore (pc := 12) (i := 5) (ls2 := [some (vr 5 (some 0)), some (vi x1), some (vi x2), some (vi x3), some (vr 1 r1), some (vr 0 r2), none]) dX5_layBetween_12 (Nat.le_of_ble_eq_true rfl) rfl ?_
  refine A_aload (pc := 14) (i := 4) dX5_layBetween_14 rfl ?_
  refine A_ifnull (pc := 16) (tgt := 37) dX5_layBetween_16 (by decide) (fun hz => ?_) (fun k3 hz => ?_)
  · subst hz
    try dsimp only
    refine A_ldc (pc := 37) (v := (-1000001 : Int32)) dX5_layBetween_37 kK_X5_27 ?_
    exact A_retI rfl dX5_layBetween_39
  · subst hz
    try dsimp only
    refine A_aload (pc := 19) (i := 5) dX5_layBetween_19 rfl ?_
    refine A_ifnull (pc := 21) (tgt := 37) dX5_layBetween_21 (by decide) (fun hz => ?_) (fun k4 hz => ?_)
    · subst hz
      try dsimp only
      refine A_ldc (pc := 37) (v := (-1000001 : Int32)) dX5_layBetween_37 kK_X5_27 ?_
      exact A_retI rfl dX5_layBetween_39
    · subst hz
      try dsimp only
      refine A_iload_n (pc := 24) (i := 3) dX5_layBetween_24 rfl rfl ?_
      refine A_if_lt (pc := 25) (tgt := 37) dX5_layBetween_25 (by decide) ?_ ?_
      · refine A_ldc (pc := 37) (v := (-1000001 : Int32)) dX5_layBetween_37 kK_X5_27 ?_
        exact A_retI rfl dX5_layBetween_39
      · refine A_iload_n (pc := 28) (i := 3) dX5_layBetween_28 rfl rfl ?_
        refine A_aload_n (pc := 29) (i := 0) dX5_layBetween_29 rfl rfl ?_
        refine A_iload_n (pc := 30) (i := 2) dX5_layBetween_30 rfl rfl ?_
        refine A_callV (pc := 31) (M' := mX5_countAt) (As := [vi x2]) (st := [vi x3]) (0, 0) (fun r5 => [vi r5, vi x3]) (fun _ => h) (a_X5_countAt x2 h) kD_X5_countAt kM_X5_101 kI_X5_countAt kS_X5_countAt kN_X5 ⟨(Nat.le_of_ble_eq_true rfl), (Nat.le_of_ble_eq_true rfl)⟩ dX5_layBetween_31 rfl rfl rfl (by decide) rfl (Nat.le_of_ble_eq_true rfl) (Nat.le_of_ble_eq_true rfl) (Nat.le_of_ble_eq_true rfl) (fun _ => rfl) (fun _ => rfl) (fun r5 => ?_)
        refine A_icmp_le (pc := 34) (tgt := 40) dX5_layBetween_34 (by decide) ?_ ?_
        · refine A_aload (pc := 40) (i := 4) dX5_layBetween_40 rfl ?_
          refine A_callV (pc := 42) (M' := mX1_isLying) (As := []) (st := []) (0, 0) (fun r6 => [vi (bi r6)]) (fun _ => h) (a_X1_isLying k3 h) kD_X1_isLying kM_X5_48 kI_X1_isLying kS_X1_isLying kN_X1 ⟨(Nat.le_of_ble_eq_true rfl), (Nat.le_of_ble_eq_true rfl)⟩ dX5_layBetween_42 rfl rfl rfl (by decide) rfl (Nat.le_of_ble_eq_true rfl) (Nat.le_of_ble_eq_true rfl) (Nat.le_of_ble_eq_true rfl) (fun _ => rfl) (fun _ => rfl) (fun r6 => ?_)
          refine A_ifb_eq (pc := 45) (tgt := 51) dX5_layBetween_45 (by decide) ?_ ?_
          · refine A_aload_n (pc := 51) (i := 0) dX5_layBetween_51 rfl rfl ?_
            refine A_iload_n (pc := 52) (i := 2) dX5_layBetween_52 rfl rfl ?_
            refine A_callV (pc := 53) (M' := mX5_countAt) (As := [vi x2]) (st := []) (0, 0) (fun r7 => [vi r7]) (fun _ => h) (a_X5_countAt x2 h) kD_X5_countAt kM_X5_101 kI_X5_countAt kS_X5_countAt kN_X5 ⟨(Nat.le_of_ble_eq_true rfl), (Nat.le_of_ble_eq_true rfl)⟩ dX5_layBetween_53 rfl rfl rfl (by decide) rfl (Nat.le_of_ble_eq_true rfl) (Nat.le_of_ble_eq_true rfl) (Nat.le_of_ble_eq_true rfl) (fun _ => rfl) (fun _ => rfl) (fun r7 => ?_)
            refine A_aload (pc := 56) (i := 5) dX5_layBetween_56 rfl ?_
            refine A_getI (pc := 58) (k := 2) clX0 (Nat.le_of_ble_eq_true rfl) dX5_layBetween_58 kF_X5_60 rfl ?_
            refine A_icmp_lt (pc := 61) (tgt := 67) dX5_layBetween_61 (by decide) ?_ ?_
            · refine A_aload_n (pc := 67) (i := 0) dX5_layBetween_67 rfl rfl ?_
              refine A_aload (pc := 68) (i := 4) dX5_layBetween_68 rfl ?_
              refine A_aload (pc := 70) (i := 5) dX5_layBetween_70 rfl ?_
              refine A_iload_n (pc := 72) (i := 2) dX5_layBetween_72 rfl rfl ?_
              refine A_iload_n (pc := 73) (i := 3) dX5_layBetween_73 rfl rfl ?_
              refine A_callV (pc := 74) (M' := mX5_fitsBetween) (As := [vr 1 (some k3), vr 0 (some k4), vi x2, vi x3]) (st := []) (0, 0) (fun r8 => [vi (bi r8)]) (fun _ => h) (a_X5_fitsBetween k3 k4 x2 x3 h) kD_X5_fitsBetween kM_X5_122 kI_X5_fitsBetween kS_X5_fitsBetween kN_X5 ⟨(Nat.le_of_ble_eq_true rfl), (Nat.le_of_ble_eq_true rfl)⟩ dX5_layBetween_74 rfl rfl rfl (by decide) rfl (Nat.le_of_ble_eq_true rfl) (Nat.le_of_ble_eq_true rfl) (Nat.le_of_ble_eq_true rfl) (fun _ => rfl) (fun _ => rfl) (fun r8 => ?_)
              refine A_ifb_ne (pc := 77) (tgt := 83) dX5_layBetween_77 (by decide) ?_ ?_
              · refine A_aload_n (pc := 83) (i := 0) dX5_layBetween_83 rfl rfl ?_
                refine A_iload_n (pc := 84) (i := 2) dX5_layBetween_84 rfl rfl ?_
                refine A_iload_n (pc := 85) (i := 3) dX5_layBetween_85 rfl rfl ?_
                refine A_iconst (pc := 86) (v := (1 : Int32)) dX5_layBetween_86 (by decide) ?_
                refine A_callV (pc := 87) (M' := mX5_moveFrom) (As := [vi x2, vi x3, vi (1 : Int32)]) (st := []) (0, 0) (fun r9 => [vi r9.1]) (fun r9 => r9.2) (a_X5_moveFrom x2 x3 (1 : Int32) h) kD_X5_moveFrom kM_X5_126 kI_X5_moveFrom kS_X5_moveFrom kN_X5 ⟨(Nat.le_of_ble_eq_true rfl), (Nat.le_of_ble_eq_true rfl)⟩ dX5_layBetween_87 rfl rfl rfl (by decide) rfl (Nat.le_of_ble_eq_true rfl) (Nat.le_of_ble_eq_true rfl) (Nat.le_of_ble_eq_true rfl) (fun _ => rfl) (fun _ => rfl) (fun r9 => ?_)
                refine A_istore (pc := 90) (i := 6) (ls2 := [some (vr 5 (some 0)), some (vi x1), some (vi x2), some (vi x3), some (vr 1 (some k3)), some (vr 0 (some k4)), some (vi r9.1)]) dX5_layBetween_90 (Nat.le_of_ble_eq_true rfl) rfl ?_
                refine A_aload (pc := 92) (i := 4) dX5_layBetween_92 rfl ?_
                refine A_iload_n (pc := 94) (i := 2) dX5_layBetween_94 rfl rfl ?_
                refine A_iload_n (pc := 95) (i := 3) dX5_layBetween_95 rfl rfl ?_
                refine A_callV (pc := 96) (M' := mX1_layAt) (As := [vi x2, vi x3]) (st := []) (0, 0) (fun r10 => []) (fun r10 => r10) (a_X1_layAt k3 x2 x3 r9.2) kD_X1_layAt kM_X5_118 kI_X1_layAt kS_X1_layAt kN_X1 ⟨(Nat.le_of_ble_eq_true rfl), (Nat.le_of_ble_eq_true rfl)⟩ dX5_layBetween_96 rfl rfl rfl (by decide) rfl (Nat.le_of_ble_eq_true rfl) (Nat.le_of_ble_eq_true rfl) (Nat.le_of_ble_eq_true rfl) (fun _ => rfl) (fun _ => rfl) (fun r10 => ?_)
                refine A_iload (pc := 99) (i := 6) dX5_layBetween_99 rfl ?_
                exact A_retI rfl dX5_layBetween_101
              · refine A_ldc (pc := 80) (v := (-1000003 : Int32)) dX5_layBetween_80 kK_X5_117 ?_
                exact A_retI rfl dX5_layBetween_82
            · refine A_ldc (pc := 64) (v := (-1000002 : Int32)) dX5_layBetween_64 kK_X5_32 ?_
              exact A_retI rfl dX5_layBetween_66
          · refine A_ldc (pc := 48) (v := (-1000005 : Int32)) dX5_layBetween_48 kK_X5_100 ?_
            exact A_retI rfl dX5_layBetween_50
        · refine A_ldc (pc := 37) (v := (-1000001 : Int32)) dX5_layBetween_37 kK_X5_27 ?_
          exact A_retI rfl dX5_layBetween_39

abbrev mX5_firstFault : MD := (yX5_firstFault, cX5_firstFault, 5, (some .int), { frames := 3, cells := 0, slots := 0, locals := 69 }, none)
theorem kD_X5_firstFault : CodeIn mX5_firstFault 1 := ⟨kC_X5_firstFault, by decide +kernel⟩
def fL_X5_firstFault_15 (h : Hp) : Nat → Int32 → Nat → Int32 → Option Int32
  | 0, _, _, _ => none
  | n + 1, x1, i2, x3 => (if (6 : Int32) ≤ x3 then (some (-1 : Int32)) else ((f_X5_boatAt x1 x3 h).bind fun r3 => (match r3 with | none => ((fL_X5_firstFault_15 h n) x1 i2 (x3 + 1)) | some k4 => ((f_X5_boatAt x1 (x3 - (1 : Int32)) h).bind fun r5 => ((f_X5_whyNotRight k4 i2 x3 r5 h).bind fun r6 => (if r6 = 0 then ((fL_X5_firstFault_15 h n) x1 i2 (x3 + 1)) else (some x3)))))))
set_option maxRecDepth 100000 in
set_option maxHeartbeats 4000000 in
theorem aL_X5_firstFault_15 (h : Hp) : ∀ (n : Nat) (x1 : Int32) (i2 : Nat) (x3 : Int32), Aw (eIr h) U0 mX5_firstFault (0, 0) U0 15 [some (vr 5 (some 0)), some (vi x1), some (vr 0 (some i2)), some (vi x3), none] [] h (fL_X5_firstFault_15 h n x1 i2 x3) := by
  intro n
  induction n with
  | zero =>
    intro x1 i2 x3
    exact Aw.none
  | succ n ih =>
    intro x1 i2 x3
    show Aw _ _ _ _ _ _ _ _ _ (fL_X5_firstFault_15 h (n + 1) x1 i2 x3)
    unfold fL_X5_firstFault_15
    refine A_iload_n (pc := 15) (i := 3) dX5_firstFault_15 rfl rfl ?_
    refine A_bipush (pc := 16) (v := (6 : Int32)) dX5_firstFault_16 (by decide) ?_
    refine A_icmp_ge (pc := 18) (tgt := 61) dX5_firstFault_18 (by decide) ?_ ?_
    · refine A_iconst (pc := 61) (v := (-1 : Int32)) dX5_firstFault_61 (by decide) ?_
      exact A_retIr rfl dX5_firstFault_62
    · refine A_aload_n (pc := 21) (i := 0) dX5_firstFault_21 rfl rfl ?_
      refine A_iload_n (pc := 22) (i := 1) dX5_firstFault_22 rfl rfl ?_
      refine A_iload_n (pc := 23) (i := 3) dX5_firstFault_23 rfl rfl ?_
      refine A_callV (pc := 24) (M' := mX5_boatAt) (As := [vi x1, vi x3]) (st := []) (0, 0) (fun r3 => [vr 1 r3]) (fun _ => h) (a_X5_boatAt x1 x3 h) kD_X5_boatAt kM_X5_105 kI_X5_boatAt kS_X5_boatAt kN_X5 ⟨(Nat.le_of_ble_eq_true rfl), (Nat.le_of_ble_eq_true rfl)⟩ dX5_firstFault_24 rfl rfl rfl (by decide) rfl (Nat.le_of_ble_eq_true rfl) (Nat.le_of_ble_eq_true rfl) (Nat.le_of_ble_eq_true rfl) (fun _ => rfl) (fun _ => rfl) (fun r3 => ?_)
      refine A_astore (pc := 27) (i := 4) (ls2 := [some (vr 5 (some 0)), some (vi x1), some (vr 0 (some i2)), some (vi x3), some (vr 1 r3)]) dX5_firstFault_27 (Nat.le_of_ble_eq_true rfl) rfl ?_
      refine A_aload (pc := 29) (i := 4) dX5_firstFault_29 rfl ?_
      refine A_ifnull (pc := 31) (tgt := 55) dX5_firstFault_31 (by decide) (fun hz => ?_) (fun k4 hz => ?_)
      · subst hz
        try dsimp only
        refine A_iinc (pc := 55) (i := 3) (v := (x3 + 1)) (ls2 := [some (vr 5 (some 0)), some (vi x1), some (vr 0 (some i2)), some (vi (x3 + 1)), some (vr 1 none)]) dX5_firstFault_55 rfl rfl (Nat.le_of_ble_eq_true rfl) rfl ?_
        refine A_goto (pc := 58) (tgt := 15) dX5_firstFault_58 (by decide) ?_
        exact Aw.weak (ls' := [some (vr 5 (some 0)), some (vi x1), some (vr 0 (some i2)), some (vi (x3 + 1)), none]) ⟨rfl, ⟨rfl, ⟨rfl, ⟨rfl, trivial⟩⟩⟩⟩ (ih x1 i2 (x3 + 1))
      · subst hz
        try dsimp only
        refine A_aload_n (pc := 34) (i := 0) dX5_firstFault_34 rfl rfl ?_
        refine A_aload (pc := 35) (i := 4) dX5_firstFault_35 rfl ?_
        refine A_aload_n (pc := 37) (i := 2) dX5_firstFault_37 rfl rfl ?_
        refine A_iload_n (pc := 38) (i := 3) dX5_firstFault_38 rfl rfl ?_
        refine A_aload_n (pc := 39) (i := 0) dX5_firstFault_39 rfl rfl ?_
        refine A_iload_n (pc := 40) (i := 1) dX5_firstFault_40 rfl rfl ?_
        refine A_iload_n (pc := 41) (i := 3) dX5_firstFault_41 rfl rfl ?_
        refine A_iconst (pc := 42) (v := (1 : Int32)) dX5_firstFault_42 (by decide) ?_
        refine A_isub (pc := 43) dX5_firstFault_43 ?_
        refine A_callV (pc := 44) (M' := mX5_boatAt) (As := [vi x1, vi (x3 - (1 : Int32))]) (st := [vi x3, vr 0 (some i2), vr 1 (some k4), vr 5 (some 0)]) (0, 0) (fun r5 => [vr 1 r5, vi x3, vr 0 (some i2), vr 1 (some k4), vr 5 (some 0)]) (fun _ => h) (a_X5_boatAt x1 (x3 - (1 : Int32)) h) kD_X5_boatAt kM_X5_105 kI_X5_boatAt kS_X5_boatAt kN_X5 ⟨(Nat.le_of_ble_eq_true rfl), (Nat.le_of_ble_eq_true rfl)⟩ dX5_firstFault_44 rfl rfl rfl (by decide) rfl (Nat.le_of_ble_eq_true rfl) (Nat.le_of_ble_eq_true rfl) (Nat.le_of_ble_eq_true rfl) (fun _ => rfl) (fun _ => rfl) (fun r5 => ?_)
        refine A_callV (pc := 47) (M' := mX5_whyNotRight) (As := [vr 1 (some k4), vr 0 (some i2), vi x3, vr 1 r5]) (st := []) (0, 0) (fun r6 => [vi r6]) (fun _ => h) (a_X5_whyNotRight k4 i2 x3 r5 h) kD_X5_whyNotRight kM_X5_109 kI_X5_whyNotRight kS_X5_whyNotRight kN_X5 ⟨(Nat.le_of_ble_eq_true rfl), (Nat.le_of_ble_eq_true rfl)⟩ dX5_firstFault_47 rfl rfl rfl (by decide) rfl (Nat.le_of_ble_eq_true rfl) (Nat.le_of_ble_eq_true rfl) (Nat.le_of_ble_eq_true rfl) (fun _ => rfl) (fun _ => rfl) (fun r6 => ?_)
        refine A_if_eq (pc := 50) (tgt := 55) dX5_firstFault_50 (by decide) ?_ ?_
        · refine A_iinc (pc := 55) (i := 3) (v := (x3 + 1)) (ls2 := [some (vr 5 (some 0)), some (vi x1), some (vr 0 (some i2)), some (vi (x3 + 1)), some (vr 1 (some k4))]) dX5_firstFault_55 rfl rfl (Nat.le_of_ble_eq_true rfl) rfl ?_
          refine A_goto (pc := 58) (tgt := 15) dX5_firstFault_58 (by decide) ?_
          exact Aw.weak (ls' := [some (vr 5 (some 0)), some (vi x1), some (vr 0 (some i2)), some (vi (x3 + 1)), none]) ⟨rfl, ⟨rfl, ⟨rfl, ⟨rfl, trivial⟩⟩⟩⟩ (ih x1 i2 (x3 + 1))
        · refine A_iload_n (pc := 53) (i := 3) dX5_firstFault_53 rfl rfl ?_
          exact A_retIr rfl dX5_firstFault_54
def f_X5_firstFault (x1 : Int32) (h : Hp) : Option Int32 := ((f_X5_berthOf x1 h).bind fun r1 => (match r1 with | none => (some (-1000001 : Int32)) | some k2 => (fL_X5_firstFault_15 h FU x1 k2 (0 : Int32))))
set_option maxRecDepth 100000 in
set_option maxHeartbeats 4000000 in
theorem a_X5_firstFault (x1 : Int32) (h : Hp) : CtA (eIr h) mX5_firstFault U0 U0 [vr 5 (some 0), vi x1] h (f_X5_firstFault x1 h) := by
  refine Ct.of (ls := [some (vr 5 (some 0)), some (vi x1), none, none, none]) (n := 3) (by decide +kernel) rfl rfl rfl ?_
  unfold f_X5_firstFault
  refine A_aload_n (pc := 0) (i := 0) dX5_firstFault_0 rfl rfl ?_
  refine A_iload_n (pc := 1) (i := 1) dX5_firstFault_1 rfl rfl ?_
  refine A_callV (pc := 2) (M' := mX5_berthOf) (As := [vi x1]) (st := []) (0, 0) (fun r1 => [vr 0 r1]) (fun _ => h) (a_X5_berthOf x1 h) kD_X5_berthOf kM_X5_96 kI_X5_berthOf kS_X5_berthOf kN_X5 ⟨(Nat.le_of_ble_eq_true rfl), (Nat.le_of_ble_eq_true rfl)⟩ dX5_firstFault_2 rfl rfl rfl (by decide) rfl (Nat.le_of_ble_eq_true rfl) (Nat.le_of_ble_eq_true rfl) (Nat.le_of_ble_eq_true rfl) (fun _ => rfl) (fun _ => rfl) (fun r1 => ?_)
  refine A_astore_n (pc := 5) (i := 2) (ls2 := [some (vr 5 (some 0)), some (vi x1), some (vr 0 r1), none, none]) dX5_firstFault_5 rfl (Nat.le_of_ble_eq_true rfl) rfl ?_
  refine A_aload_n (pc := 6) (i := 2) dX5_firstFault_6 rfl rfl ?_
  refine A_ifnonnull (pc := 7) (tgt := 13) dX5_firstFault_7 (by decide) (fun hz => ?_) (fun k2 hz => ?_)
  · subst hz
    try dsimp only
    refine A_ldc (pc := 10) (v := (-1000001 : Int32)) dX5_firstFault_10 kK_X5_27 ?_
    exact A_retIr rfl dX5_firstFault_12
  · subst hz
    try dsimp only
    refine A_iconst (pc := 13) (v := (0 : Int32)) dX5_firstFault_13 (by decide) ?_
    refine A_istore_n (pc := 14) (i := 3) (ls2 := [some (vr 5 (some 0)), some (vi x1), some (vr 0 (some k2)), some (vi (0 : Int32)), none]) dX5_firstFault_14 rfl (Nat.le_of_ble_eq_true rfl) rfl ?_
    exact Aw.weak (ls' := [some (vr 5 (some 0)), some (vi x1), some (vr 0 (some k2)), some (vi (0 : Int32)), none]) ⟨rfl, ⟨rfl, ⟨rfl, ⟨rfl, trivial⟩⟩⟩⟩ (aL_X5_firstFault_15 h FU x1 k2 (0 : Int32))

abbrev mX5_countMoving : MD := (yX5_countMoving, cX5_countMoving, 8, (some .int), { frames := 1, cells := 0, slots := 0, locals := 21 }, none)
theorem kD_X5_countMoving : CodeIn mX5_countMoving 2 := ⟨kC_X5_countMoving, by decide +kernel⟩
def fL_X5_countMoving_16 (h : Hp) : Nat → Nat → Int32 → Int32 → Int32 → Int32 → Option Int32
  | 0, _, _, _, _, _ => none
  | n + 1, i1, x2, x3, x5, x6 => (if x5 ≤ x6 then (some x3) else (if 0 ≤ x6 ∧ x6 < 8 then (match (gP h 11 0 (Int32.toNatClampNeg x6)) with | none => ((fL_X5_countMoving_16 h n) i1 x2 x3 x5 (x6 + 1)) | some k2 => ((f_X1_isOutsideOf i1 k2 h).bind fun r3 => (if r3 = true then (if x2 = 0 then ((f_X1_movesMaybe k2 i1 h).bind fun r4 => (if r4 = true then ((fL_X5_countMoving_16 h n) i1 x2 (x3 + 1) x5 (x6 + 1)) else ((fL_X5_countMoving_16 h n) i1 x2 x3 x5 (x6 + 1)))) else ((f_X1_movesSurely k2 i1 h).bind fun r5 => (if r5 = true then ((fL_X5_countMoving_16 h n) i1 x2 (x3 + 1) x5 (x6 + 1)) else ((fL_X5_countMoving_16 h n) i1 x2 x3 x5 (x6 + 1))))) else ((fL_X5_countMoving_16 h n) i1 x2 x3 x5 (x6 + 1))))) else none))
set_option maxRecDepth 100000 in
set_option maxHeartbeats 4000000 in
theorem aL_X5_countMoving_16 (h : Hp) : ∀ (n : Nat) (i1 : Nat) (x2 : Int32) (x3 : Int32) (x5 : Int32) (x6 : Int32), Aw (eIr h) U0 mX5_countMoving (0, 0) U0 16 [none, some (vr 1 (some i1)), some (vi x2), some (vi x3), some (vr 11 (some 0)), some (vi x5), some (vi x6), none] [] h (fL_X5_countMoving_16 h n i1 x2 x3 x5 x6) := by
  intro n
  induction n with
  | zero =>
    intro i1 x2 x3 x5 x6
    exact Aw.none
  | succ n ih =>
    intro i1 x2 x3 x5 x6
    show Aw _ _ _ _ _ _ _ _ _ (fL_X5_countMoving_16 h (n + 1) i1 x2 x3 x5 x6)
    unfold fL_X5_countMoving_16
    refine A_iload (pc := 16) (i := 6) dX5_countMoving_16 rfl ?_
    refine A_iload (pc := 18) (i := 5) dX5_countMoving_18 rfl ?_
    refine A_icmp_ge (pc := 20) (tgt := 78) dX5_countMoving_20 (by decide) ?_ ?_
    · refine A_iload_n (pc := 78) (i := 3) dX5_countMoving_78 rfl rfl ?_
      exact A_retIr rfl dX5_countMoving_79
    · refine A_aload (pc := 23) (i := 4) dX5_countMoving_23 rfl ?_
      refine A_iload (pc := 25) (i := 6) dX5_countMoving_25 rfl ?_
      refine A_aaload (pc := 27) (n := 8) (te := 1) (C := RX1) (by decide) (by decide) (by decide) (fun _ => rfl) rfl dX5_countMoving_27 (by decide) ?_
      generalize (gP h 11 0 (Int32.toNatClampNeg x6)) = q1
      refine A_astore (pc := 28) (i := 7) (ls2 := [none, some (vr 1 (some i1)), some (vi x2), some (vi x3), some (vr 11 (some 0)), some (vi x5), some (vi x6), some (vr 1 q1)]) dX5_countMoving_28 (Nat.le_of_ble_eq_true rfl) rfl ?_
      refine A_aload (pc := 30) (i := 7) dX5_countMoving_30 rfl ?_
      refine A_ifnull (pc := 32) (tgt := 72) dX5_countMoving_32 (by decide) (fun hz => ?_) (fun k2 hz => ?_)
      · subst hz
        try dsimp only
        refine A_iinc (pc := 72) (i := 6) (v := (x6 + 1)) (ls2 := [none, some (vr 1 (some i1)), some (vi x2), some (vi x3), some (vr 11 (some 0)), some (vi x5), some (vi (x6 + 1)), some (vr 1 none)]) dX5_countMoving_72 rfl rfl (Nat.le_of_ble_eq_true rfl) rfl ?_
        refine A_goto (pc := 75) (tgt := 16) dX5_countMoving_75 (by decide) ?_
        exact Aw.weak (ls' := [none, some (vr 1 (some i1)), some (vi x2), some (vi x3), some (vr 11 (some 0)), some (vi x5), some (vi (x6 + 1)), none]) ⟨rfl, ⟨rfl, ⟨rfl, ⟨rfl, ⟨rfl, ⟨rfl, trivial⟩⟩⟩⟩⟩⟩ (ih i1 x2 x3 x5 (x6 + 1))
      · subst hz
        try dsimp only
        refine A_aload_n (pc := 35) (i := 1) dX5_countMoving_35 rfl rfl ?_
        refine A_aload (pc := 36) (i := 7) dX5_countMoving_36 rfl ?_
        refine A_callV (pc := 38) (M' := mX1_isOutsideOf) (As := [vr 1 (some k2)]) (st := []) (0, 0) (fun r3 => [vi (bi r3)]) (fun _ => h) (a_X1_isOutsideOf i1 k2 h) kD_X1_isOutsideOf kM_X5_141 kI_X1_isOutsideOf kS_X1_isOutsideOf kN_X1 ⟨(Nat.le_of_ble_eq_true rfl), (Nat.le_of_ble_eq_true rfl)⟩ dX5_countMoving_38 rfl rfl rfl (by decide) rfl (Nat.le_of_ble_eq_true rfl) (Nat.le_of_ble_eq_true rfl) (Nat.le_of_ble_eq_true rfl) (fun _ => rfl) (fun _ => rfl) (fun r3 => ?_)
        refine A_ifb_eq (pc := 41) (tgt := 72) dX5_countMoving_41 (by decide) ?_ ?_
        · refine A_iinc (pc := 72) (i := 6) (v := (x6 + 1)) (ls2 := [none, some (vr 1 (some i1)), some (vi x2), some (vi x3), some (vr 11 (some 0)), some (vi x5), some (vi (x6 + 1)), some (vr 1 (some k2))]) dX5_countMoving_72 rfl rfl (Nat.le_of_ble_eq_true rfl) rfl ?_
          refine A_goto (pc := 75) (tgt := 16) dX5_countMoving_75 (by decide) ?_
          exact Aw.weak (ls' := [none, some (vr 1 (some i1)), some (vi x2), some (vi x3), some (vr 11 (some 0)), some (vi x5), some (vi (x6 + 1)), none]) ⟨rfl, ⟨rfl, ⟨rfl, ⟨rfl, ⟨rfl, ⟨rfl, trivial⟩⟩⟩⟩⟩⟩ (ih i1 x2 x3 x5 (x6 + 1))
        · refine A_iload_n (pc := 44) (i := 2) dX5_countMoving_44 rfl rfl ?_
          refine A_if_eq (pc := 45) (tgt := 60) dX5_countMoving_45 (by decide) ?_ ?_
          · refine A_aload (pc := 60) (i := 7) dX5_countMoving_60 rfl ?_
            refine A_aload_n (pc := 62) (i := 1) dX5_countMoving_62 rfl rfl ?_
            refine A_callV (pc := 63) (M' := mX1_movesMaybe) (As := [vr 1 (some i1)]) (st := []) (0, 0) (fun r4 => [vi (bi r4)]) (fun _ => h) (a_X1_movesMaybe k2 i1 h) kD_X1_movesMaybe kM_X5_148 kI_X1_movesMaybe kS_X1_movesMaybe kN_X1 ⟨(Nat.le_of_ble_eq_true rfl), (Nat.le_of_ble_eq_true rfl)⟩ dX5_countMoving_63 rfl rfl rfl (by decide) rfl (Nat.le_of_ble_eq_true rfl) (Nat.le_of_ble_eq_true rfl) (Nat.le_of_ble_eq_true rfl) (fun _ => rfl) (fun _ => rfl) (fun r4 => ?_)
            refine A_ifb_eq (pc := 66) (tgt := 72) dX5_countMoving_66 (by decide) ?_ ?_
            · refine A_iinc (pc := 72) (i := 6) (v := (x6 + 1)) (ls2 := [none, some (vr 1 (some i1)), some (vi x2), some (vi x3), some (vr 11 (some 0)), some (vi x5), some (vi (x6 + 1)), some (vr 1 (some k2))]) dX5_countMoving_72 rfl rfl (Nat.le_of_ble_eq_true rfl) rfl ?_
              refine A_goto (pc := 75) (tgt := 16) dX5_countMoving_75 (by decide) ?_
              exact Aw.weak (ls' := [none, some (vr 1 (some i1)), some (vi x2), some (vi x3), some (vr 11 (some 0)), some (vi x5), some (vi (x6 + 1)), none]) ⟨rfl, ⟨rfl, ⟨rfl, ⟨rfl, ⟨rfl, ⟨rfl, trivial⟩⟩⟩⟩⟩⟩ (ih i1 x2 x3 x5 (x6 + 1))
            · refine A_iinc (pc := 69) (i := 3) (v := (x3 + 1)) (ls2 := [none, some (vr 1 (some i1)), some (vi x2), some (vi (x3 + 1)), some (vr 11 (some 0)), some (vi x5), some (vi x6), some (vr 1 (some k2))]) dX5_countMoving_69 rfl rfl (Nat.le_of_ble_eq_true rfl) rfl ?_
              refine A_iinc (pc := 72) (i := 6) (v := (x6 + 1)) (ls2 := [none, some (vr 1 (some i1)), some (vi x2), some (vi (x3 + 1)), some (vr 11 (some 0)), some (vi x5), some (vi (x6 + 1)), some (vr 1 (some k2))]) dX5_countMoving_72 rfl rfl (Nat.le_of_ble_eq_true rfl) rfl ?_
              refine A_goto (pc := 75) (tgt := 16) dX5_countMoving_75 (by decide) ?_
              exact Aw.weak (ls' := [none, some (vr 1 (some i1)), some (vi x2), some (vi (x3 + 1)), some (vr 11 (some 0)), some (vi x5), some (vi (x6 + 1)), none]) ⟨rfl, ⟨rfl, ⟨rfl, ⟨rfl, ⟨rfl, ⟨rfl, trivial⟩⟩⟩⟩⟩⟩ (ih i1 x2 (x3 + 1) x5 (x6 + 1))
          · refine A_aload (pc := 48) (i := 7) dX5_countMoving_48 rfl ?_
            refine A_aload_n (pc := 50) (i := 1) dX5_countMoving_50 rfl rfl ?_
            refine A_callV (pc := 51) (M' := mX1_movesSurely) (As := [vr 1 (some i1)]) (st := []) (0, 0) (fun r5 => [vi (bi r5)]) (fun _ => h) (a_X1_movesSurely k2 i1 h) kD_X1_movesSurely kM_X5_145 kI_X1_movesSurely kS_X1_movesSurely kN_X1 ⟨(Nat.le_of_ble_eq_true rfl), (Nat.le_of_ble_eq_true rfl)⟩ dX5_countMoving_51 rfl rfl rfl (by decide) rfl (Nat.le_of_ble_eq_true rfl) (Nat.le_of_ble_eq_true rfl) (Nat.le_of_ble_eq_true rfl) (fun _ => rfl) (fun _ => rfl) (fun r5 => ?_)
            refine A_ifb_eq (pc := 54) (tgt := 72) dX5_countMoving_54 (by decide) ?_ ?_
            · refine A_iinc (pc := 72) (i := 6) (v := (x6 + 1)) (ls2 := [none, some (vr 1 (some i1)), some (vi x2), some (vi x3), some (vr 11 (some 0)), some (vi x5), some (vi (x6 + 1)), some (vr 1 (some k2))]) dX5_countMoving_72 rfl rfl (Nat.le_of_ble_eq_true rfl) rfl ?_
              refine A_goto (pc := 75) (tgt := 16) dX5_countMoving_75 (by decide) ?_
              exact Aw.weak (ls' := [none, some (vr 1 (some i1)), some (vi x2), some (vi x3), some (vr 11 (some 0)), some (vi x5), some (vi (x6 + 1)), none]) ⟨rfl, ⟨rfl, ⟨rfl, ⟨rfl, ⟨rfl, ⟨rfl, trivial⟩⟩⟩⟩⟩⟩ (ih i1 x2 x3 x5 (x6 + 1))
            · refine A_goto (pc := 57) (tgt := 69) dX5_countMoving_57 (by decide) ?_
              refine A_iinc (pc := 69) (i := 3) (v := (x3 + 1)) (ls2 := [none, some (vr 1 (some i1)), some (vi x2), some (vi (x3 + 1)), some (vr 11 (some 0)), some (vi x5), some (vi x6), some (vr 1 (some k2))]) dX5_countMoving_69 rfl rfl (Nat.le_of_ble_eq_true rfl) rfl ?_
              refine A_iinc (pc := 72) (i := 6) (v := (x6 + 1)) (ls2 := [none, some (vr 1 (some i1)), some (vi x2), some (vi (x3 + 1)), some (vr 11 (some 0)), some (vi x5), some (vi (x6 + 1)), some (vr 1 (some k2))]) dX5_countMoving_72 rfl rfl (Nat.le_of_ble_eq_true rfl) rfl ?_
              refine A_goto (pc := 75) (tgt := 16) dX5_countMoving_75 (by decide) ?_
              exact Aw.weak (ls' := [none, some (vr 1 (some i1)), some (vi x2), some (vi (x3 + 1)), some (vr 11 (some 0)), some (vi x5), some (vi (x6 + 1)), none]) ⟨rfl, ⟨rfl, ⟨rfl, ⟨rfl, ⟨rfl, ⟨rfl, trivial⟩⟩⟩⟩⟩⟩ (ih i1 x2 (x3 + 1) x5 (x6 + 1))
def f_X5_countMoving (i1 : Nat) (x2 : Int32) (h : Hp) : Option Int32 := (fL_X5_countMoving_16 h FU i1 x2 (0 : Int32) (8 : Int32) (0 : Int32))
set_option maxRecDepth 100000 in
set_option maxHeartbeats 4000000 in
theorem a_X5_countMoving (i1 : Nat) (x2 : Int32) (h : Hp) : CtA (eIr h) mX5_countMoving U0 U0 [vr 5 (some 0), vr 1 (some i1), vi x2] h (f_X5_countMoving i1 x2 h) := by
  refine Ct.of (ls := [some (vr 5 (some 0)), some (vr 1 (some i1)), some (vi x2), none, none, none, none, none]) (n := 5) (by decide +kernel) rfl rfl rfl ?_
  unfold f_X5_countMoving
  refine A_iconst (pc := 0) (v := (0 : Int32)) dX5_countMoving_0 (by decide) ?_
  refine A_istore_n (pc := 1) (i := 3) (ls2 := [some (vr 5 (some 0)), some (vr 1 (some i1)), some (vi x2), some (vi (0 : Int32)), none, none, none, none]) dX5_countMoving_1 rfl (Nat.le_of_ble_eq_true rfl) rfl ?_
  refine A_aload_n (pc := 2) (i := 0) dX5_countMoving_2 rfl rfl ?_
  refine A_getS (pc := 3) (k := 1) (tp := 11) clX5 (Nat.le_of_ble_eq_true rfl) dX5_countMoving_3 kF_X5_19 rfl rfl rfl ?_
  refine A_astore (pc := 6) (i := 4) (ls2 := [some (vr 5 (some 0)), some (vr 1 (some i1)), some (vi x2), some (vi (0 : Int32)), some (vr 11 (some 0)), none, none, none]) dX5_countMoving_6 (Nat.le_of_ble_eq_true rfl) rfl ?_
  refine A_aload (pc := 8) (i := 4) dX5_countMoving_8 rfl ?_
  refine A_alen (pc := 10) (v := (8 : Int32)) (by decide) (by decide) (by decide) rfl dX5_countMoving_10 ?_
  refine A_istore (pc := 11) (i := 5) (ls2 := [some (vr 5 (some 0)), some (vr 1 (some i1)), some (vi x2), some (vi (0 : Int32)), some (vr 11 (some 0)), some (vi (8 : Int32)), none, none]) dX5_countMoving_11 (Nat.le_of_ble_eq_true rfl) rfl ?_
  refine A_iconst (pc := 13) (v := (0 : Int32)) dX5_countMoving_13 (by decide) ?_
  refine A_istore (pc := 14) (i := 6) (ls2 := [some (vr 5 (some 0)), some (vr 1 (some i1)), some (vi x2), some (vi (0 : Int32)), some (vr 11 (some 0)), some (vi (8 : Int32)), some (vi (0 : Int32)), none]) dX5_countMoving_14 (Nat.le_of_ble_eq_true rfl) rfl ?_
  exact Aw.weak (ls' := [none, some (vr 1 (some i1)), some (vi x2), some (vi (0 : Int32)), some (vr 11 (some 0)), some (vi (8 : Int32)), some (vi (0 : Int32)), none]) ⟨rfl, ⟨rfl, ⟨rfl, ⟨rfl, ⟨rfl, ⟨rfl, trivial⟩⟩⟩⟩⟩⟩ (aL_X5_countMoving_16 h FU i1 x2 (0 : Int32) (8 : Int32) (0 : Int32))

abbrev mX5_countPairs : MD := (yX5_countPairs, cX5_countPairs, 8, (some .int), { frames := 2, cells := 0, slots := 0, locals := 48 }, none)
theorem kD_X5_countPairs : CodeIn mX5_countPairs 2 := ⟨kC_X5_countPairs, by decide +kernel⟩
def fL_X5_countPairs_27 (h : Hp) : Nat → Int32 → Int32 → Int32 → Int32 → Int32 → Option Int32
  | 0, _, _, _, _, _ => none
  | n + 1, x1, x2, x3, x5, x6 => (if x5 ≤ x6 then (some x3) else (if 0 ≤ x6 ∧ x6 < 8 then (match (gP h 11 0 (Int32.toNatClampNeg x6)) with | none => ((fL_X5_countPairs_27 h n) x1 x2 x3 x5 (x6 + 1)) | some k4 => (if (gI h 1 k4 8) = x1 then ((f_X5_countMoving k4 x2 h).bind fun r5 => ((fL_X5_countPairs_27 h n) x1 x2 (x3 + r5) x5 (x6 + 1))) else ((fL_X5_countPairs_27 h n) x1 x2 x3 x5 (x6 + 1)))) else none))
set_option maxRecDepth 100000 in
set_option maxHeartbeats 4000000 in
theorem aL_X5_countPairs_27 (h : Hp) : ∀ (n : Nat) (x1 : Int32) (x2 : Int32) (x3 : Int32) (x5 : Int32) (x6 : Int32), Aw (eIr h) U0 mX5_countPairs (0, 0) U0 27 [some (vr 5 (some 0)), some (vi x1), some (vi x2), some (vi x3), some (vr 11 (some 0)), some (vi x5), some (vi x6), none] [] h (fL_X5_countPairs_27 h n x1 x2 x3 x5 x6) := by
  intro n
  induction n with
  | zero =>
    intro x1 x2 x3 x5 x6
    exact Aw.none
  | succ n ih =>
    intro x1 x2 x3 x5 x6
    show Aw _ _ _ _ _ _ _ _ _ (fL_X5_countPairs_27 h (n + 1) x1 x2 x3 x5 x6)
    unfold fL_X5_countPairs_27
    refine A_iload (pc := 27) (i := 6) dX5_countPairs_27 rfl ?_
    refine A_iload (pc := 29) (i := 5) dX5_countPairs_29 rfl ?_
    refine A_icmp_ge (pc := 31) (tgt := 71) dX5_countPairs_31 (by decide) ?_ ?_
    · refine A_iload_n (pc := 71) (i := 3) dX5_countPairs_71 rfl rfl ?_
      exact A_retIr rfl dX5_countPairs_72
    · refine A_aload (pc := 34) (i := 4) dX5_countPairs_34 rfl ?_
      refine A_iload (pc := 36) (i := 6) dX5_countPairs_36 rfl ?_
      refine A_aaload (pc := 38) (n := 8) (te := 1) (C := RX1) (by decide) (by decide) (by decide) (fun _ => rfl) rfl dX5_countPairs_38 (by decide) ?_
      generalize (gP h 11 0 (Int32.toNatClampNeg x6)) = q3
      refine A_astore (pc := 39) (i := 7) (ls2 := [some (vr 5 (some 0)), some (vi x1), some (vi x2), some (vi x3), some (vr 11 (some 0)), some (vi x5), some (vi x6), some (vr 1 q3)]) dX5_countPairs_39 (Nat.le_of_ble_eq_true rfl) rfl ?_
      refine A_aload (pc := 41) (i := 7) dX5_countPairs_41 rfl ?_
      refine A_ifnull (pc := 43) (tgt := 65) dX5_countPairs_43 (by decide) (fun hz => ?_) (fun k4 hz => ?_)
      · subst hz
        try dsimp only
        refine A_iinc (pc := 65) (i := 6) (v := (x6 + 1)) (ls2 := [some (vr 5 (some 0)), some (vi x1), some (vi x2), some (vi x3), some (vr 11 (some 0)), some (vi x5), some (vi (x6 + 1)), some (vr 1 none)]) dX5_countPairs_65 rfl rfl (Nat.le_of_ble_eq_true rfl) rfl ?_
        refine A_goto (pc := 68) (tgt := 27) dX5_countPairs_68 (by decide) ?_
        exact Aw.weak (ls' := [some (vr 5 (some 0)), some (vi x1), some (vi x2), some (vi x3), some (vr 11 (some 0)), some (vi x5), some (vi (x6 + 1)), none]) ⟨rfl, ⟨rfl, ⟨rfl, ⟨rfl, ⟨rfl, ⟨rfl, ⟨rfl, trivial⟩⟩⟩⟩⟩⟩⟩ (ih x1 x2 x3 x5 (x6 + 1))
      · subst hz
        try dsimp only
        refine A_aload (pc := 46) (i := 7) dX5_countPairs_46 rfl ?_
        refine A_getI (pc := 48) (k := 8) clX1 (Nat.le_of_ble_eq_true rfl) dX5_countPairs_48 kF_X5_42 rfl ?_
        refine A_iload_n (pc := 51) (i := 1) dX5_countPairs_51 rfl rfl ?_
        refine A_icmp_ne (pc := 52) (tgt := 65) dX5_countPairs_52 (by decide) ?_ ?_
        · refine A_iinc (pc := 65) (i := 6) (v := (x6 + 1)) (ls2 := [some (vr 5 (some 0)), some (vi x1), some (vi x2), some (vi x3), some (vr 11 (some 0)), some (vi x5), some (vi (x6 + 1)), some (vr 1 (some k4))]) dX5_countPairs_65 rfl rfl (Nat.le_of_ble_eq_true rfl) rfl ?_
          refine A_goto (pc := 68) (tgt := 27) dX5_countPairs_68 (by decide) ?_
          exact Aw.weak (ls' := [some (vr 5 (some 0)), some (vi x1), some (vi x2), some (vi x3), some (vr 11 (some 0)), some (vi x5), some (vi (x6 + 1)), none]) ⟨rfl, ⟨rfl, ⟨rfl, ⟨rfl, ⟨rfl, ⟨rfl, ⟨rfl, trivial⟩⟩⟩⟩⟩⟩⟩ (ih x1 x2 x3 x5 (x6 + 1))
        · refine A_iload_n (pc := 55) (i := 3) dX5_countPairs_55 rfl rfl ?_
          refine A_aload_n (pc := 56) (i := 0) dX5_countPairs_56 rfl rfl ?_
          refine A_aload (pc := 57) (i := 7) dX5_countPairs_57 rfl ?_
          refine A_iload_n (pc := 59) (i := 2) dX5_countPairs_59 rfl rfl ?_
          refine A_callV (pc := 60) (M' := mX5_countMoving) (As := [vr 1 (some k4), vi x2]) (st := [vi x3]) (0, 0) (fun r5 => [vi r5, vi x3]) (fun _ => h) (a_X5_countMoving k4 x2 h) kD_X5_countMoving kM_X5_137 kI_X5_countMoving kS_X5_countMoving kN_X5 ⟨(Nat.le_of_ble_eq_true rfl), (Nat.le_of_ble_eq_true rfl)⟩ dX5_countPairs_60 rfl rfl rfl (by decide) rfl (Nat.le_of_ble_eq_true rfl) (Nat.le_of_ble_eq_true rfl) (Nat.le_of_ble_eq_true rfl) (fun _ => rfl) (fun _ => rfl) (fun r5 => ?_)
          refine A_iadd (pc := 63) dX5_countPairs_63 ?_
          refine A_istore_n (pc := 64) (i := 3) (ls2 := [some (vr 5 (some 0)), some (vi x1), some (vi x2), some (vi (x3 + r5)), some (vr 11 (some 0)), some (vi x5), some (vi x6), some (vr 1 (some k4))]) dX5_countPairs_64 rfl (Nat.le_of_ble_eq_true rfl) rfl ?_
          refine A_iinc (pc := 65) (i := 6) (v := (x6 + 1)) (ls2 := [some (vr 5 (some 0)), some (vi x1), some (vi x2), some (vi (x3 + r5)), some (vr 11 (some 0)), some (vi x5), some (vi (x6 + 1)), some (vr 1 (some k4))]) dX5_countPairs_65 rfl rfl (Nat.le_of_ble_eq_true rfl) rfl ?_
          refine A_goto (pc := 68) (tgt := 27) dX5_countPairs_68 (by decide) ?_
          exact Aw.weak (ls' := [some (vr 5 (some 0)), some (vi x1), some (vi x2), some (vi (x3 + r5)), some (vr 11 (some 0)), some (vi x5), some (vi (x6 + 1)), none]) ⟨rfl, ⟨rfl, ⟨rfl, ⟨rfl, ⟨rfl, ⟨rfl, ⟨rfl, trivial⟩⟩⟩⟩⟩⟩⟩ (ih x1 x2 (x3 + r5) x5 (x6 + 1))
def f_X5_countPairs (x1 : Int32) (x2 : Int32) (h : Hp) : Option Int32 := ((f_X5_berthOf x1 h).bind fun r1 => (match r1 with | none => (some (-1000001 : Int32)) | some k2 => (fL_X5_countPairs_27 h FU x1 x2 (0 : Int32) (8 : Int32) (0 : Int32))))
set_option maxRecDepth 100000 in
set_option maxHeartbeats 4000000 in
theorem a_X5_countPairs (x1 : Int32) (x2 : Int32) (h : Hp) : CtA (eIr h) mX5_countPairs U0 U0 [vr 5 (some 0), vi x1, vi x2] h (f_X5_countPairs x1 x2 h) := by
  refine Ct.of (ls := [some (vr 5 (some 0)), some (vi x1), some (vi x2), none, none, none, none, none]) (n := 5) (by decide +kernel) rfl rfl rfl ?_
  unfold f_X5_countPairs
  refine A_aload_n (pc := 0) (i := 0) dX5_countPairs_0 rfl rfl ?_
  refine A_iload_n (pc := 1) (i := 1) dX5_countPairs_1 rfl rfl ?_
  refine A_callV (pc := 2) (M' := mX5_berthOf) (As := [vi x1]) (st := []) (0, 0) (fun r1 => [vr 0 r1]) (fun _ => h) (a_X5_berthOf x1 h) kD_X5_berthOf kM_X5_96 kI_X5_berthOf kS_X5_berthOf kN_X5 ⟨(Nat.le_of_ble_eq_true rfl), (Nat.le_of_ble_eq_true rfl)⟩ dX5_countPairs_2 rfl rfl rfl (by decide) rfl (Nat.le_of_ble_eq_true rfl) (Nat.le_of_ble_eq_true rfl) (Nat.le_of_ble_eq_true rfl) (fun _ => rfl) (fun _ => rfl) (fun r1 => ?_)
  refine A_ifnonnull (pc := 5) (tgt := 11) dX5_countPairs_5 (by decide) (fun hz => ?_) (fun k2 hz => ?_)
  · subst hz
    try dsimp only
    refine A_ldc (pc := 8) (v := (-1000001 : Int32)) dX5_countPairs_8 kK_X5_27 ?_
    exact A_retIr rfl dX5_countPairs_10
  · subst hz
    try dsimp only
    refine A_iconst (pc := 11) (v := (0 : Int32)) dX5_countPairs_11 (by decide) ?_
    refine A_istore_n (pc := 12) (i := 3) (ls2 := [some (vr 5 (some 0)), some (vi x1), some (vi x2), some (vi (0 : Int32)), none, none, none, none]) dX5_countPairs_12 rfl (Nat.le_of_ble_eq_true rfl) rfl ?_
    refine A_aload_n (pc := 13) (i := 0) dX5_countPairs_13 rfl rfl ?_
    refine A_getS (pc := 14) (k := 1) (tp := 11) clX5 (Nat.le_of_ble_eq_true rfl) dX5_countPairs_14 kF_X5_19 rfl rfl rfl ?_
    refine A_astore (pc := 17) (i := 4) (ls2 := [some (vr 5 (some 0)), some (vi x1), some (vi x2), some (vi (0 : Int32)), some (vr 11 (some 0)), none, none, none]) dX5_countPairs_17 (Nat.le_of_ble_eq_true rfl) rfl ?_
    refine A_aload (pc := 19) (i := 4) dX5_countPairs_19 rfl ?_
    refine A_alen (pc := 21) (v := (8 : Int32)) (by decide) (by decide) (by decide) rfl dX5_countPairs_21 ?_
    refine A_istore (pc := 22) (i := 5) (ls2 := [some (vr 5 (some 0)), some (vi x1), some (vi x2), some (vi (0 : Int32)), some (vr 11 (some 0)), some (vi (8 : Int32)), none, none]) dX5_countPairs_22 (Nat.le_of_ble_eq_true rfl) rfl ?_
    refine A_iconst (pc := 24) (v := (0 : Int32)) dX5_countPairs_24 (by decide) ?_
    refine A_istore (pc := 25) (i := 6) (ls2 := [some (vr 5 (some 0)), some (vi x1), some (vi x2), some (vi (0 : Int32)), some (vr 11 (some 0)), some (vi (8 : Int32)), some (vi (0 : Int32)), none]) dX5_countPairs_25 (Nat.le_of_ble_eq_true rfl) rfl ?_
    exact Aw.weak (ls' := [some (vr 5 (some 0)), some (vi x1), some (vi x2), some (vi (0 : Int32)), some (vr 11 (some 0)), some (vi (8 : Int32)), some (vi (0 : Int32)), none]) ⟨rfl, ⟨rfl, ⟨rfl, ⟨rfl, ⟨rfl, ⟨rfl, ⟨rfl, trivial⟩⟩⟩⟩⟩⟩⟩ (aL_X5_countPairs_27 h FU x1 x2 (0 : Int32) (8 : Int32) (0 : Int32))

abbrev mX5_countMaybeAt : MD := (yX5_countMaybeAt, cX5_countMaybeAt, 8, (some .int), { frames := 1, cells := 0, slots := 0, locals := 21 }, none)
theorem kD_X5_countMaybeAt : CodeIn mX5_countMaybeAt 2 := ⟨kC_X5_countMaybeAt, by decide +kernel⟩
def fL_X5_countMaybeAt_16 (h : Hp) : Nat → Int32 → Nat → Int32 → Int32 → Int32 → Option Int32
  | 0, _, _, _, _, _ => none
  | n + 1, x1, i2, x3, x5, x6 => (if x5 ≤ x6 then (some x3) else (if 0 ≤ x6 ∧ x6 < 8 then (match (gP h 11 0 (Int32.toNatClampNeg x6)) with | none => ((fL_X5_countMaybeAt_16 h n) x1 i2 x3 x5 (x6 + 1)) | some k2 => (if (gI h 1 k2 8) = x1 then ((f_X1_movesMaybe k2 i2 h).bind fun r3 => (if r3 = true then ((fL_X5_countMaybeAt_16 h n) x1 i2 (x3 + 1) x5 (x6 + 1)) else ((fL_X5_countMaybeAt_16 h n) x1 i2 x3 x5 (x6 + 1)))) else ((fL_X5_countMaybeAt_16 h n) x1 i2 x3 x5 (x6 + 1)))) else none))
set_option maxRecDepth 100000 in
set_option maxHeartbeats 4000000 in
theorem aL_X5_countMaybeAt_16 (h : Hp) : ∀ (n : Nat) (x1 : Int32) (i2 : Nat) (x3 : Int32) (x5 : Int32) (x6 : Int32), Aw (eIr h) U0 mX5_countMaybeAt (0, 0) U0 16 [none, some (vi x1), some (vr 1 (some i2)), some (vi x3), some (vr 11 (some 0)), some (vi x5), some (vi x6), none] [] h (fL_X5_countMaybeAt_16 h n x1 i2 x3 x5 x6) := by
  intro n
  induction n with
  | zero =>
    intro x1 i2 x3 x5 x6
    exact Aw.none
  | succ n ih =>
    intro x1 i2 x3 x5 x6
    show Aw _ _ _ _ _ _ _ _ _ (fL_X5_countMaybeAt_16 h (n + 1) x1 i2 x3 x5 x6)
    unfold fL_X5_countMaybeAt_16
    refine A_iload (pc := 16) (i := 6) dX5_countMaybeAt_16 rfl ?_
    refine A_iload (pc := 18) (i := 5) dX5_countMaybeAt_18 rfl ?_
    refine A_icmp_ge (pc := 20) (tgt := 62) dX5_countMaybeAt_20 (by decide) ?_ ?_
    · refine A_iload_n (pc := 62) (i := 3) dX5_countMaybeAt_62 rfl rfl ?_
      exact A_retIr rfl dX5_countMaybeAt_63
    · refine A_aload (pc := 23) (i := 4) dX5_countMaybeAt_23 rfl ?_
      refine A_iload (pc := 25) (i := 6) dX5_countMaybeAt_25 rfl ?_
      refine A_aaload (pc := 27) (n := 8) (te := 1) (C := RX1) (by decide) (by decide) (by decide) (fun _ => rfl) rfl dX5_countMaybeAt_27 (by decide) ?_
      generalize (gP h 11 0 (Int32.toNatClampNeg x6)) = q1
      refine A_astore (pc := 28) (i := 7) (ls2 := [none, some (vi x1), some (vr 1 (some i2)), some (vi x3), some (vr 11 (some 0)), some (vi x5), some (vi x6), some (vr 1 q1)]) dX5_countMaybeAt_28 (Nat.le_of_ble_eq_true rfl) rfl ?_
      refine A_aload (pc := 30) (i := 7) dX5_countMaybeAt_30 rfl ?_
      refine A_ifnull (pc := 32) (tgt := 56) dX5_countMaybeAt_32 (by decide) (fun hz => ?_) (fun k2 hz => ?_)
      · subst hz
        try dsimp only
        refine A_iinc (pc := 56) (i := 6) (v := (x6 + 1)) (ls2 := [none, some (vi x1), some (vr 1 (some i2)), some (vi x3), some (vr 11 (some 0)), some (vi x5), some (vi (x6 + 1)), some (vr 1 none)]) dX5_countMaybeAt_56 rfl rfl (Nat.le_of_ble_eq_true rfl) rfl ?_
        refine A_goto (pc := 59) (tgt := 16) dX5_countMaybeAt_59 (by decide) ?_
        exact Aw.weak (ls' := [none, some (vi x1), some (vr 1 (some i2)), some (vi x3), some (vr 11 (some 0)), some (vi x5), some (vi (x6 + 1)), none]) ⟨rfl, ⟨rfl, ⟨rfl, ⟨rfl, ⟨rfl, ⟨rfl, trivial⟩⟩⟩⟩⟩⟩ (ih x1 i2 x3 x5 (x6 + 1))
      · subst hz
        try dsimp only
        refine A_aload (pc := 35) (i := 7) dX5_countMaybeAt_35 rfl ?_
        refine A_getI (pc := 37) (k := 8) clX1 (Nat.le_of_ble_eq_true rfl) dX5_countMaybeAt_37 kF_X5_42 rfl ?_
        refine A_iload_n (pc := 40) (i := 1) dX5_countMaybeAt_40 rfl rfl ?_
        refine A_icmp_ne (pc := 41) (tgt := 56) dX5_countMaybeAt_41 (by decide) ?_ ?_
        · refine A_iinc (pc := 56) (i := 6) (v := (x6 + 1)) (ls2 := [none, some (vi x1), some (vr 1 (some i2)), some (vi x3), some (vr 11 (some 0)), some (vi x5), some (vi (x6 + 1)), some (vr 1 (some k2))]) dX5_countMaybeAt_56 rfl rfl (Nat.le_of_ble_eq_true rfl) rfl ?_
          refine A_goto (pc := 59) (tgt := 16) dX5_countMaybeAt_59 (by decide) ?_
          exact Aw.weak (ls' := [none, some (vi x1), some (vr 1 (some i2)), some (vi x3), some (vr 11 (some 0)), some (vi x5), some (vi (x6 + 1)), none]) ⟨rfl, ⟨rfl, ⟨rfl, ⟨rfl, ⟨rfl, ⟨rfl, trivial⟩⟩⟩⟩⟩⟩ (ih x1 i2 x3 x5 (x6 + 1))
        · refine A_aload (pc := 44) (i := 7) dX5_countMaybeAt_44 rfl ?_
          refine A_aload_n (pc := 46) (i := 2) dX5_countMaybeAt_46 rfl rfl ?_
          refine A_callV (pc := 47) (M' := mX1_movesMaybe) (As := [vr 1 (some i2)]) (st := []) (0, 0) (fun r3 => [vi (bi r3)]) (fun _ => h) (a_X1_movesMaybe k2 i2 h) kD_X1_movesMaybe kM_X5_148 kI_X1_movesMaybe kS_X1_movesMaybe kN_X1 ⟨(Nat.le_of_ble_eq_true rfl), (Nat.le_of_ble_eq_true rfl)⟩ dX5_countMaybeAt_47 rfl rfl rfl (by decide) rfl (Nat.le_of_ble_eq_true rfl) (Nat.le_of_ble_eq_true rfl) (Nat.le_of_ble_eq_true rfl) (fun _ => rfl) (fun _ => rfl) (fun r3 => ?_)
          refine A_ifb_eq (pc := 50) (tgt := 56) dX5_countMaybeAt_50 (by decide) ?_ ?_
          · refine A_iinc (pc := 56) (i := 6) (v := (x6 + 1)) (ls2 := [none, some (vi x1), some (vr 1 (some i2)), some (vi x3), some (vr 11 (some 0)), some (vi x5), some (vi (x6 + 1)), some (vr 1 (some k2))]) dX5_countMaybeAt_56 rfl rfl (Nat.le_of_ble_eq_true rfl) rfl ?_
            refine A_goto (pc := 59) (tgt := 16) dX5_countMaybeAt_59 (by decide) ?_
            exact Aw.weak (ls' := [none, some (vi x1), some (vr 1 (some i2)), some (vi x3), some (vr 11 (some 0)), some (vi x5), some (vi (x6 + 1)), none]) ⟨rfl, ⟨rfl, ⟨rfl, ⟨rfl, ⟨rfl, ⟨rfl, trivial⟩⟩⟩⟩⟩⟩ (ih x1 i2 x3 x5 (x6 + 1))
          · refine A_iinc (pc := 53) (i := 3) (v := (x3 + 1)) (ls2 := [none, some (vi x1), some (vr 1 (some i2)), some (vi (x3 + 1)), some (vr 11 (some 0)), some (vi x5), some (vi x6), some (vr 1 (some k2))]) dX5_countMaybeAt_53 rfl rfl (Nat.le_of_ble_eq_true rfl) rfl ?_
            refine A_iinc (pc := 56) (i := 6) (v := (x6 + 1)) (ls2 := [none, some (vi x1), some (vr 1 (some i2)), some (vi (x3 + 1)), some (vr 11 (some 0)), some (vi x5), some (vi (x6 + 1)), some (vr 1 (some k2))]) dX5_countMaybeAt_56 rfl rfl (Nat.le_of_ble_eq_true rfl) rfl ?_
            refine A_goto (pc := 59) (tgt := 16) dX5_countMaybeAt_59 (by decide) ?_
            exact Aw.weak (ls' := [none, some (vi x1), some (vr 1 (some i2)), some (vi (x3 + 1)), some (vr 11 (some 0)), some (vi x5), some (vi (x6 + 1)), none]) ⟨rfl, ⟨rfl, ⟨rfl, ⟨rfl, ⟨rfl, ⟨rfl, trivial⟩⟩⟩⟩⟩⟩ (ih x1 i2 (x3 + 1) x5 (x6 + 1))
def f_X5_countMaybeAt (x1 : Int32) (i2 : Nat) (h : Hp) : Option Int32 := (fL_X5_countMaybeAt_16 h FU x1 i2 (0 : Int32) (8 : Int32) (0 : Int32))
set_option maxRecDepth 100000 in
set_option maxHeartbeats 4000000 in
theorem a_X5_countMaybeAt (x1 : Int32) (i2 : Nat) (h : Hp) : CtA (eIr h) mX5_countMaybeAt U0 U0 [vr 5 (some 0), vi x1, vr 1 (some i2)] h (f_X5_countMaybeAt x1 i2 h) := by
  refine Ct.of (ls := [some (vr 5 (some 0)), some (vi x1), some (vr 1 (some i2)), none, none, none, none, none]) (n := 5) (by decide +kernel) rfl rfl rfl ?_
  unfold f_X5_countMaybeAt
  refine A_iconst (pc := 0) (v := (0 : Int32)) dX5_countMaybeAt_0 (by decide) ?_
  refine A_istore_n (pc := 1) (i := 3) (ls2 := [some (vr 5 (some 0)), some (vi x1), some (vr 1 (some i2)), some (vi (0 : Int32)), none, none, none, none]) dX5_countMaybeAt_1 rfl (Nat.le_of_ble_eq_true rfl) rfl ?_
  refine A_aload_n (pc := 2) (i := 0) dX5_countMaybeAt_2 rfl rfl ?_
  refine A_getS (pc := 3) (k := 1) (tp := 11) clX5 (Nat.le_of_ble_eq_true rfl) dX5_countMaybeAt_3 kF_X5_19 rfl rfl rfl ?_
  refine A_astore (pc := 6) (i := 4) (ls2 := [some (vr 5 (some 0)), some (vi x1), some (vr 1 (some i2)), some (vi (0 : Int32)), some (vr 11 (some 0)), none, none, none]) dX5_countMaybeAt_6 (Nat.le_of_ble_eq_true rfl) rfl ?_
  refine A_aload (pc := 8) (i := 4) dX5_countMaybeAt_8 rfl ?_
  refine A_alen (pc := 10) (v := (8 : Int32)) (by decide) (by decide) (by decide) rfl dX5_countMaybeAt_10 ?_
  refine A_istore (pc := 11) (i := 5) (ls2 := [some (vr 5 (some 0)), some (vi x1), some (vr 1 (some i2)), some (vi (0 : Int32)), some (vr 11 (some 0)), some (vi (8 : Int32)), none, none]) dX5_countMaybeAt_11 (Nat.le_of_ble_eq_true rfl) rfl ?_
  refine A_iconst (pc := 13) (v := (0 : Int32)) dX5_countMaybeAt_13 (by decide) ?_
  refine A_istore (pc := 14) (i := 6) (ls2 := [some (vr 5 (some 0)), some (vi x1), some (vr 1 (some i2)), some (vi (0 : Int32)), some (vr 11 (some 0)), some (vi (8 : Int32)), some (vi (0 : Int32)), none]) dX5_countMaybeAt_14 (Nat.le_of_ble_eq_true rfl) rfl ?_
  exact Aw.weak (ls' := [none, some (vi x1), some (vr 1 (some i2)), some (vi (0 : Int32)), some (vr 11 (some 0)), some (vi (8 : Int32)), some (vi (0 : Int32)), none]) ⟨rfl, ⟨rfl, ⟨rfl, ⟨rfl, ⟨rfl, ⟨rfl, trivial⟩⟩⟩⟩⟩⟩ (aL_X5_countMaybeAt_16 h FU x1 i2 (0 : Int32) (8 : Int32) (0 : Int32))

abbrev mX5_bestBerth : MD := (yX5_bestBerth, cX5_bestBerth, 7, (some .int), { frames := 4, cells := 0, slots := 0, locals := 94 }, none)
theorem kD_X5_bestBerth : CodeIn mX5_bestBerth 1 := ⟨kC_X5_bestBerth, by decide +kernel⟩
def fL_X5_bestBerth_33 (h : Hp) : Nat → Int32 → Nat → Int32 → Int32 → Int32 → Option Int32
  | 0, _, _, _, _, _ => none
  | n + 1, x1, i2, x3, x4, x5 => (if (gI h 5 0 2) ≤ x5 then (some x3) else ((f_X5_countMaybeAt x5 i2 h).bind fun r4 => (if x4 ≤ r4 then ((fL_X5_bestBerth_33 h n) x1 i2 x3 x4 (x5 + 1)) else ((f_X5_whyNotOutermost x1 x5 h).bind fun r5 => (if r5 = 0 then ((fL_X5_bestBerth_33 h n) x1 i2 x5 r4 (x5 + 1)) else ((fL_X5_bestBerth_33 h n) x1 i2 x3 x4 (x5 + 1)))))))
set_option maxRecDepth 100000 in
set_option maxHeartbeats 4000000 in
theorem aL_X5_bestBerth_33 (h : Hp) : ∀ (n : Nat) (x1 : Int32) (i2 : Nat) (x3 : Int32) (x4 : Int32) (x5 : Int32), Aw (eIr h) U0 mX5_bestBerth (0, 0) U0 33 [some (vr 5 (some 0)), some (vi x1), some (vr 1 (some i2)), some (vi x3), some (vi x4), some (vi x5), none] [] h (fL_X5_bestBerth_33 h n x1 i2 x3 x4 x5) := by
  intro n
  induction n with
  | zero =>
    intro x1 i2 x3 x4 x5
    exact Aw.none
  | succ n ih =>
    intro x1 i2 x3 x4 x5
    show Aw _ _ _ _ _ _ _ _ _ (fL_X5_bestBerth_33 h (n + 1) x1 i2 x3 x4 x5)
    unfold fL_X5_bestBerth_33
    refine A_iload (pc := 33) (i := 5) dX5_bestBerth_33 rfl ?_
    refine A_aload_n (pc := 35) (i := 0) dX5_bestBerth_35 rfl rfl ?_
    refine A_getI (pc := 36) (k := 2) clX5 (Nat.le_of_ble_eq_true rfl) dX5_bestBerth_36 kF_X5_28 rfl ?_
    refine A_icmp_ge (pc := 39) (tgt := 81) dX5_bestBerth_39 (by decide) ?_ ?_
    · refine A_iload_n (pc := 81) (i := 3) dX5_bestBerth_81 rfl rfl ?_
      exact A_retIr rfl dX5_bestBerth_82
    · refine A_aload_n (pc := 42) (i := 0) dX5_bestBerth_42 rfl rfl ?_
      refine A_iload (pc := 43) (i := 5) dX5_bestBerth_43 rfl ?_
      refine A_aload_n (pc := 45) (i := 2) dX5_bestBerth_45 rfl rfl ?_
      refine A_callV (pc := 46) (M' := mX5_countMaybeAt) (As := [vi x5, vr 1 (some i2)]) (st := []) (0, 0) (fun r4 => [vi r4]) (fun _ => h) (a_X5_countMaybeAt x5 i2 h) kD_X5_countMaybeAt kM_X5_152 kI_X5_countMaybeAt kS_X5_countMaybeAt kN_X5 ⟨(Nat.le_of_ble_eq_true rfl), (Nat.le_of_ble_eq_true rfl)⟩ dX5_bestBerth_46 rfl rfl rfl (by decide) rfl (Nat.le_of_ble_eq_true rfl) (Nat.le_of_ble_eq_true rfl) (Nat.le_of_ble_eq_true rfl) (fun _ => rfl) (fun _ => rfl) (fun r4 => ?_)
      refine A_istore (pc := 49) (i := 6) (ls2 := [some (vr 5 (some 0)), some (vi x1), some (vr 1 (some i2)), some (vi x3), some (vi x4), some (vi x5), some (vi r4)]) dX5_bestBerth_49 (Nat.le_of_ble_eq_true rfl) rfl ?_
      refine A_iload (pc := 51) (i := 6) dX5_bestBerth_51 rfl ?_
      refine A_iload (pc := 53) (i := 4) dX5_bestBerth_53 rfl ?_
      refine A_icmp_ge (pc := 55) (tgt := 75) dX5_bestBerth_55 (by decide) ?_ ?_
      · refine A_iinc (pc := 75) (i := 5) (v := (x5 + 1)) (ls2 := [some (vr 5 (some 0)), some (vi x1), some (vr 1 (some i2)), some (vi x3), some (vi x4), some (vi (x5 + 1)), some (vi r4)]) dX5_bestBerth_75 rfl rfl (Nat.le_of_ble_eq_true rfl) rfl ?_
        refine A_goto (pc := 78) (tgt := 33) dX5_bestBerth_78 (by decide) ?_
        exact Aw.weak (ls' := [some (vr 5 (some 0)), some (vi x1), some (vr 1 (some i2)), some (vi x3), some (vi x4), some (vi (x5 + 1)), none]) ⟨rfl, ⟨rfl, ⟨rfl, ⟨rfl, ⟨rfl, ⟨rfl, trivial⟩⟩⟩⟩⟩⟩ (ih x1 i2 x3 x4 (x5 + 1))
      · refine A_aload_n (pc := 58) (i := 0) dX5_bestBerth_58 rfl rfl ?_
        refine A_iload_n (pc := 59) (i := 1) dX5_bestBerth_59 rfl rfl ?_
        refine A_iload (pc := 60) (i := 5) dX5_bestBerth_60 rfl ?_
        refine A_callV (pc := 62) (M' := mX5_whyNotOutermost) (As := [vi x1, vi x5]) (st := []) (0, 0) (fun r5 => [vi r5]) (fun _ => h) (a_X5_whyNotOutermost x1 x5 h) kD_X5_whyNotOutermost kM_X5_113 kI_X5_whyNotOutermost kS_X5_whyNotOutermost kN_X5 ⟨(Nat.le_of_ble_eq_true rfl), (Nat.le_of_ble_eq_true rfl)⟩ dX5_bestBerth_62 rfl rfl rfl (by decide) rfl (Nat.le_of_ble_eq_true rfl) (Nat.le_of_ble_eq_true rfl) (Nat.le_of_ble_eq_true rfl) (fun _ => rfl) (fun _ => rfl) (fun r5 => ?_)
        refine A_if_ne (pc := 65) (tgt := 75) dX5_bestBerth_65 (by decide) ?_ ?_
        · refine A_iinc (pc := 75) (i := 5) (v := (x5 + 1)) (ls2 := [some (vr 5 (some 0)), some (vi x1), some (vr 1 (some i2)), some (vi x3), some (vi x4), some (vi (x5 + 1)), some (vi r4)]) dX5_bestBerth_75 rfl rfl (Nat.le_of_ble_eq_true rfl) rfl ?_
          refine A_goto (pc := 78) (tgt := 33) dX5_bestBerth_78 (by decide) ?_
          exact Aw.weak (ls' := [some (vr 5 (some 0)), some (vi x1), some (vr 1 (some i2)), some (vi x3), some (vi x4), some (vi (x5 + 1)), none]) ⟨rfl, ⟨rfl, ⟨rfl, ⟨rfl, ⟨rfl, ⟨rfl, trivial⟩⟩⟩⟩⟩⟩ (ih x1 i2 x3 x4 (x5 + 1))
        · refine A_iload (pc := 68) (i := 5) dX5_bestBerth_68 rfl ?_
          refine A_istore_n (pc := 70) (i := 3) (ls2 := [some (vr 5 (some 0)), some (vi x1), some (vr 1 (some i2)), some (vi x5), some (vi x4), some (vi x5), some (vi r4)]) dX5_bestBerth_70 rfl (Nat.le_of_ble_eq_true rfl) rfl ?_
          refine A_iload (pc := 71) (i := 6) dX5_bestBerth_71 rfl ?_
          refine A_istore (pc := 73) (i := 4) (ls2 := [some (vr 5 (some 0)), some (vi x1), some (vr 1 (some i2)), some (vi x5), some (vi r4), some (vi x5), some (vi r4)]) dX5_bestBerth_73 (Nat.le_of_ble_eq_true rfl) rfl ?_
          refine A_iinc (pc := 75) (i := 5) (v := (x5 + 1)) (ls2 := [some (vr 5 (some 0)), some (vi x1), some (vr 1 (some i2)), some (vi x5), some (vi r4), some (vi (x5 + 1)), some (vi r4)]) dX5_bestBerth_75 rfl rfl (Nat.le_of_ble_eq_true rfl) rfl ?_
          refine A_goto (pc := 78) (tgt := 33) dX5_bestBerth_78 (by decide) ?_
          exact Aw.weak (ls' := [some (vr 5 (some 0)), some (vi x1), some (vr 1 (some i2)), some (vi x5), some (vi r4), some (vi (x5 + 1)), none]) ⟨rfl, ⟨rfl, ⟨rfl, ⟨rfl, ⟨rfl, ⟨rfl, trivial⟩⟩⟩⟩⟩⟩ (ih x1 i2 x5 r4 (x5 + 1))
def f_X5_bestBerth (x1 : Int32) (h : Hp) : Option Int32 := ((f_X5_boatOf x1 h).bind fun r1 => (match r1 with | none => (some (-1000001 : Int32)) | some k2 => ((f_X1_isLying k2 h).bind fun r3 => (if r3 = true then (some (-1000005 : Int32)) else (fL_X5_bestBerth_33 h FU x1 k2 (-1000004 : Int32) (8 : Int32) (0 : Int32))))))
set_option maxRecDepth 100000 in
set_option maxHeartbeats 4000000 in
theorem a_X5_bestBerth (x1 : Int32) (h : Hp) : CtA (eIr h) mX5_bestBerth U0 U0 [vr 5 (some 0), vi x1] h (f_X5_bestBerth x1 h) := by
  refine Ct.of (ls := [some (vr 5 (some 0)), some (vi x1), none, none, none, none, none]) (n := 5) (by decide +kernel) rfl rfl rfl ?_
  unfold f_X5_bestBerth
  refine A_aload_n (pc := 0) (i := 0) dX5_bestBerth_0 rfl rfl ?_
  refine A_iload_n (pc := 1) (i := 1) dX5_bestBerth_1 rfl rfl ?_
  refine A_callV (pc := 2) (M' := mX5_boatOf) (As := [vi x1]) (st := []) (0, 0) (fun r1 => [vr 1 r1]) (fun _ => h) (a_X5_boatOf x1 h) kD_X5_boatOf kM_X5_92 kI_X5_boatOf kS_X5_boatOf kN_X5 ⟨(Nat.le_of_ble_eq_true rfl), (Nat.le_of_ble_eq_true rfl)⟩ dX5_bestBerth_2 rfl rfl rfl (by decide) rfl (Nat.le_of_ble_eq_true rfl) (Nat.le_of_ble_eq_true rfl) (Nat.le_of_ble_eq_true rfl) (fun _ => rfl) (fun _ => rfl) (fun r1 => ?_)
  refine A_astore_n (pc := 5) (i := 2) (ls2 := [some (vr 5 (some 0)), some (vi x1), some (vr 1 r1), none, none, none, none]) dX5_bestBerth_5 rfl (Nat.le_of_ble_eq_true rfl) rfl ?_
  refine A_aload_n (pc := 6) (i := 2) dX5_bestBerth_6 rfl rfl ?_
  refine A_ifnonnull (pc := 7) (tgt := 13) dX5_bestBerth_7 (by decide) (fun hz => ?_) (fun k2 hz => ?_)
  · subst hz
    try dsimp only
    refine A_ldc (pc := 10) (v := (-1000001 : Int32)) dX5_bestBerth_10 kK_X5_27 ?_
    exact A_retIr rfl dX5_bestBerth_12
  · subst hz
    try dsimp only
    refine A_aload_n (pc := 13) (i := 2) dX5_bestBerth_13 rfl rfl ?_
    refine A_callV (pc := 14) (M' := mX1_isLying) (As := []) (st := []) (0, 0) (fun r3 => [vi (bi r3)]) (fun _ => h) (a_X1_isLying k2 h) kD_X1_isLying kM_X5_48 kI_X1_isLying kS_X1_isLying kN_X1 ⟨(Nat.le_of_ble_eq_true rfl), (Nat.le_of_ble_eq_true rfl)⟩ dX5_bestBerth_14 rfl rfl rfl (by decide) rfl (Nat.le_of_ble_eq_true rfl) (Nat.le_of_ble_eq_true rfl) (Nat.le_of_ble_eq_true rfl) (fun _ => rfl) (fun _ => rfl) (fun r3 => ?_)
    refine A_ifb_eq (pc := 17) (tgt := 23) dX5_bestBerth_17 (by decide) ?_ ?_
    · refine A_ldc (pc := 23) (v := (-1000004 : Int32)) dX5_bestBerth_23 kK_X5_151 ?_
      refine A_istore_n (pc := 25) (i := 3) (ls2 := [some (vr 5 (some 0)), some (vi x1), some (vr 1 (some k2)), some (vi (-1000004 : Int32)), none, none, none]) dX5_bestBerth_25 rfl (Nat.le_of_ble_eq_true rfl) rfl ?_
      refine A_bipush (pc := 26) (v := (8 : Int32)) dX5_bestBerth_26 (by decide) ?_
      refine A_istore (pc := 28) (i := 4) (ls2 := [some (vr 5 (some 0)), some (vi x1), some (vr 1 (some k2)), some (vi (-1000004 : Int32)), some (vi (8 : Int32)), none, none]) dX5_bestBerth_28 (Nat.le_of_ble_eq_true rfl) rfl ?_
      refine A_iconst (pc := 30) (v := (0 : Int32)) dX5_bestBerth_30 (by decide) ?_
      refine A_istore (pc := 31) (i := 5) (ls2 := [some (vr 5 (some 0)), some (vi x1), some (vr 1 (some k2)), some (vi (-1000004 : Int32)), some (vi (8 : Int32)), some (vi (0 : Int32)), none]) dX5_bestBerth_31 (Nat.le_of_ble_eq_true rfl) rfl ?_
      exact Aw.weak (ls' := [some (vr 5 (some 0)), some (vi x1), some (vr 1 (some k2)), some (vi (-1000004 : Int32)), some (vi (8 : Int32)), some (vi (0 : Int32)), none]) ⟨rfl, ⟨rfl, ⟨rfl, ⟨rfl, ⟨rfl, ⟨rfl, trivial⟩⟩⟩⟩⟩⟩ (aL_X5_bestBerth_33 h FU x1 k2 (-1000004 : Int32) (8 : Int32) (0 : Int32))
    · refine A_ldc (pc := 20) (v := (-1000005 : Int32)) dX5_bestBerth_20 kK_X5_100 ?_
      exact A_retIr rfl dX5_bestBerth_22

abbrev mX6_init : MD := (yX6_init, cX6_init, 1, none, { frames := 1, cells := 1, slots := 8, locals := 20 }, none)
theorem kD_X6_init : CodeIn mX6_init 0 := ⟨kC_X6_init, by decide +kernel⟩
def f_X6_init (i0 : Nat) (h : Hp) : Option Hp := (if gN h 23 = i0 then (some (wN h 23)) else none)
set_option maxRecDepth 100000 in
set_option maxHeartbeats 4000000 in
theorem a_X6_init (U : US) (i0 : Nat) (h : Hp) : CtA eV mX6_init U (uS U 6 i0 0) [vr 6 (some i0)] h (f_X6_init i0 h) := by
  refine Ct.of (ls := [some (vr 6 (some i0))]) (n := 0) (by decide +kernel) rfl rfl rfl ?_
  unfold f_X6_init
  refine A_aload_n (pc := 0) (i := 0) dX6_init_0 rfl rfl ?_
  refine A_objInit (pc := 1) dX6_init_1 kM_X6_3 kI_obj kC_obj (Nat.le_of_ble_eq_true rfl) (Nat.le_of_ble_eq_true rfl) ?_
  refine A_aload_n (pc := 4) (i := 0) dX6_init_4 rfl rfl ?_
  refine A_bipush (pc := 5) (v := (8 : Int32)) dX6_init_5 (by decide) ?_
  refine A_newI (pc := 7) (t := 23) (i := i0) (ty := .int) (0, 0) (by decide) (by decide) dX6_init_7 rfl kA_int rfl (by decide) (by decide) (by decide) (fun _ => rfl) (by decide) (by decide) rfl (Nat.le_of_ble_eq_true rfl) (Nat.le_of_ble_eq_true rfl) ?_
  refine A_putS (pc := 9) (k := 0) (tp := 23) clX6 (Nat.le_of_ble_eq_true rfl) dX6_init_9 kF_X6_11 rfl rfl (by decide) (Or.inr ⟨rfl, rfl⟩) (fun _ => ⟨rfl, rfl⟩) ?_
  exact A_retV rfl dX6_init_12

abbrev mX6_isMissing : MD := (yX6_isMissing, cX6_isMissing, 1, (some .boolean), { frames := 0, cells := 0, slots := 0, locals := 0 }, none)
theorem kD_X6_isMissing : CodeIn mX6_isMissing 0 := ⟨kC_X6_isMissing, by decide +kernel⟩
def f_X6_isMissing (i0 : Nat) (h : Hp) : Option Bool := (if (gI h 6 i0 1) = 0 then (some true) else (some false))
set_option maxRecDepth 100000 in
set_option maxHeartbeats 4000000 in
theorem a_X6_isMissing (i0 : Nat) (h : Hp) : CtA (eBr h) mX6_isMissing U0 U0 [vr 6 (some i0)] h (f_X6_isMissing i0 h) := by
  refine Ct.of (ls := [some (vr 6 (some i0))]) (n := 0) (by decide +kernel) rfl rfl rfl ?_
  unfold f_X6_isMissing
  refine A_aload_n (pc := 0) (i := 0) dX6_isMissing_0 rfl rfl ?_
  refine A_getI (pc := 1) (k := 1) clX6 (Nat.le_of_ble_eq_true rfl) dX6_isMissing_1 kF_X6_15 rfl ?_
  refine A_if_ne (pc := 4) (tgt := 11) dX6_isMissing_4 (by decide) ?_ ?_
  · refine A_iconst (pc := 11) (v := (0 : Int32)) dX6_isMissing_11 (by decide) ?_
    exact A_retBr rfl rfl dX6_isMissing_12
  · refine A_iconst (pc := 7) (v := (1 : Int32)) dX6_isMissing_7 (by decide) ?_
    refine A_goto (pc := 8) (tgt := 12) dX6_isMissing_8 (by decide) ?_
    exact A_retBr rfl rfl dX6_isMissing_12
