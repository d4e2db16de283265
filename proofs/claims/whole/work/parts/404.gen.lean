abbrev mX7_tide : MD := (yX7_tide, cX7_tide, 3, (some .int), { frames := 1, cells := 0, slots := 0, locals := 21 }, none)
theorem kD_X7_tide : CodeIn mX7_tide 1 := ⟨kC_X7_tide, by decide +kernel⟩
def f_X7_tide (x1 : Int32) (h : Hp) : Option (Int32 × Hp) := ((f_X7_areHours x1 h).bind fun r1 => (if r1 = true then (some ((gI h 2 0 1), (wI h 2 0 1 x1))) else ((f_X7_counted (-1000001 : Int32) h).bind fun r2 => (some (r2.1, r2.2)))))
set_option maxRecDepth 100000 in
set_option maxHeartbeats 4000000 in
theorem a_X7_tide (x1 : Int32) (h : Hp) : CtA eI mX7_tide U0 U0 [vr 7 (some 0), vi x1] h (f_X7_tide x1 h) := by
  refine Ct.of (ls := [some (vr 7 (some 0)), some (vi x1), none]) (n := 1) (by decide +kernel) rfl rfl rfl ?_
  unfold f_X7_tide
  refine A_iload_n (pc := 0) (i := 1) dX7_tide_0 rfl rfl ?_
  refine A_callS (pc := 1) (M' := mX7_areHours) (As := [vi x1]) (st := []) (0, 0) (fun r1 => [vi (bi r1)]) (fun _ => h) (a_X7_areHours x1 h) kD_X7_areHours kM_X7_70 kT_X7_areHours kN_X7 ⟨(Nat.le_of_ble_eq_true rfl), (Nat.le_of_ble_eq_true rfl)⟩ dX7_tide_1 rfl rfl (Nat.le_of_ble_eq_true rfl) (Nat.le_of_ble_eq_true rfl) (Nat.le_of_ble_eq_true rfl) (fun _ => rfl) (fun _ => rfl) (fun r1 => ?_)
  refine A_ifb_ne (pc := 4) (tgt := 14) dX7_tide_4 (by decide) ?_ ?_
  · refine A_aload_n (pc := 14) (i := 0) dX7_tide_14 rfl rfl ?_
    refine A_getS (pc := 15) (k := 1) (tp := 2) clX7 (Nat.le_of_ble_eq_true rfl) dX7_tide_15 kF_X7_19 rfl rfl rfl ?_
    refine A_getI (pc := 18) (k := 1) clX2 (Nat.le_of_ble_eq_true rfl) dX7_tide_18 kF_X7_163 rfl ?_
    refine A_istore_n (pc := 21) (i := 2) (ls2 := [some (vr 7 (some 0)), some (vi x1), some (vi (gI h 2 0 1))]) dX7_tide_21 rfl (Nat.le_of_ble_eq_true rfl) rfl ?_
    refine A_aload_n (pc := 22) (i := 0) dX7_tide_22 rfl rfl ?_
    refine A_getS (pc := 23) (k := 1) (tp := 2) clX7 (Nat.le_of_ble_eq_true rfl) dX7_tide_23 kF_X7_19 rfl rfl rfl ?_
    refine A_iload_n (pc := 26) (i := 1) dX7_tide_26 rfl rfl ?_
    refine A_putI (pc := 27) (k := 1) clX2 (Nat.le_of_ble_eq_true rfl) dX7_tide_27 kF_X7_163 rfl (Or.inl rfl) ⟨rfl, rfl⟩ ?_
    refine A_iload_n (pc := 30) (i := 2) dX7_tide_30 rfl rfl ?_
    exact A_retI rfl dX7_tide_31
  · refine A_aload_n (pc := 7) (i := 0) dX7_tide_7 rfl rfl ?_
    refine A_ldc (pc := 8) (v := (-1000001 : Int32)) dX7_tide_8 kK_X7_60 ?_
    refine A_callV (pc := 10) (M' := mX7_counted) (As := [vi (-1000001 : Int32)]) (st := []) (0, 0) (fun r2 => [vi r2.1]) (fun r2 => r2.2) (a_X7_counted (-1000001 : Int32) h) kD_X7_counted kM_X7_48 kI_X7_counted kS_X7_counted kN_X7 ⟨(Nat.le_of_ble_eq_true rfl), (Nat.le_of_ble_eq_true rfl)⟩ dX7_tide_10 rfl rfl rfl (by decide) rfl (Nat.le_of_ble_eq_true rfl) (Nat.le_of_ble_eq_true rfl) (Nat.le_of_ble_eq_true rfl) (fun _ => rfl) (fun _ => rfl) (fun r2 => ?_)
    exact A_retI rfl dX7_tide_13

abbrev mX7_run : MD := (yX7_run, cX7_run, 4, (some .int), { frames := 5, cells := 0, slots := 0, locals := 126 }, none)
theorem kD_X7_run : CodeIn mX7_run 1 := ⟨kC_X7_run, by decide +kernel⟩
def fL_X7_run_21 : Nat → Int32 → Int32 → Int32 → Hp → Option (Int32 × Hp)
  | 0, _, _, _, _ => none
  | n + 1, x1, x2, x3, h => (if x1 ≤ x3 then (some (x2, h)) else ((f_X2_passHour h).bind fun r2 => ((fL_X7_run_21 n) x1 (x2 + r2.1) (x3 + 1) r2.2)))
set_option maxRecDepth 100000 in
set_option maxHeartbeats 4000000 in
theorem aL_X7_run_21 : ∀ (n : Nat) (x1 : Int32) (x2 : Int32) (x3 : Int32) (h : Hp), Aw eI U0 mX7_run (0, 0) U0 21 [some (vr 7 (some 0)), some (vi x1), some (vi x2), some (vi x3)] [] h (fL_X7_run_21 n x1 x2 x3 h) := by
  intro n
  induction n with
  | zero =>
    intro x1 x2 x3 h
    exact Aw.none
  | succ n ih =>
    intro x1 x2 x3 h
    show Aw _ _ _ _ _ _ _ _ _ (fL_X7_run_21 (n + 1) x1 x2 x3 h)
    unfold fL_X7_run_21
    refine A_iload_n (pc := 21) (i := 3) dX7_run_21 rfl rfl ?_
    refine A_iload_n (pc := 22) (i := 1) dX7_run_22 rfl rfl ?_
    refine A_icmp_ge (pc := 23) (tgt := 46) dX7_run_23 (by decide) ?_ ?_
    · refine A_iload_n (pc := 46) (i := 2) dX7_run_46 rfl rfl ?_
      exact A_retI rfl dX7_run_47
    · refine A_iload_n (pc := 26) (i := 2) dX7_run_26 rfl rfl ?_
      refine A_aload_n (pc := 27) (i := 0) dX7_run_27 rfl rfl ?_
      refine A_getS (pc := 28) (k := 1) (tp := 2) clX7 (Nat.le_of_ble_eq_true rfl) dX7_run_28 kF_X7_19 rfl rfl rfl ?_
      refine A_aload_n (pc := 31) (i := 0) dX7_run_31 rfl rfl ?_
      refine A_getS (pc := 32) (k := 0) (tp := 5) clX7 (Nat.le_of_ble_eq_true rfl) dX7_run_32 kF_X7_10 rfl rfl rfl ?_
      refine A_callV (pc := 35) (M' := mX2_passHour) (As := [vr 5 (some 0)]) (st := [vi x2]) (0, 0) (fun r2 => [vi r2.1, vi x2]) (fun r2 => r2.2) (a_X2_passHour h) kD_X2_passHour kM_X7_166 kI_X2_passHour kS_X2_passHour kN_X2 ⟨(Nat.le_of_ble_eq_true rfl), (Nat.le_of_ble_eq_true rfl)⟩ dX7_run_35 rfl rfl rfl (by decide) rfl (Nat.le_of_ble_eq_true rfl) (Nat.le_of_ble_eq_true rfl) (Nat.le_of_ble_eq_true rfl) (fun _ => rfl) (fun _ => rfl) (fun r2 => ?_)
      refine A_iadd (pc := 38) dX7_run_38 ?_
      refine A_istore_n (pc := 39) (i := 2) (ls2 := [some (vr 7 (some 0)), some (vi x1), some (vi (x2 + r2.1)), some (vi x3)]) dX7_run_39 rfl (Nat.le_of_ble_eq_true rfl) rfl ?_
      refine A_iinc (pc := 40) (i := 3) (v := (x3 + 1)) (ls2 := [some (vr 7 (some 0)), some (vi x1), some (vi (x2 + r2.1)), some (vi (x3 + 1))]) dX7_run_40 rfl rfl (Nat.le_of_ble_eq_true rfl) rfl ?_
      refine A_goto (pc := 43) (tgt := 21) dX7_run_43 (by decide) ?_
      exact Aw.weak (ls' := [some (vr 7 (some 0)), some (vi x1), some (vi (x2 + r2.1)), some (vi (x3 + 1))]) ⟨rfl, ⟨rfl, ⟨rfl, ⟨rfl, trivial⟩⟩⟩⟩ (ih x1 (x2 + r2.1) (x3 + 1) r2.2)
def f_X7_run (x1 : Int32) (h : Hp) : Option (Int32 × Hp) := ((f_X7_isWithin x1 (1 : Int32) (24 : Int32) h).bind fun r1 => (if r1 = true then (fL_X7_run_21 FU x1 (0 : Int32) (0 : Int32) h) else ((f_X7_counted (-1000001 : Int32) h).bind fun r3 => (some (r3.1, r3.2)))))
set_option maxRecDepth 100000 in
set_option maxHeartbeats 4000000 in
theorem a_X7_run (x1 : Int32) (h : Hp) : CtA eI mX7_run U0 U0 [vr 7 (some 0), vi x1] h (f_X7_run x1 h) := by
  refine Ct.of (ls := [some (vr 7 (some 0)), some (vi x1), none, none]) (n := 2) (by decide +kernel) rfl rfl rfl ?_
  unfold f_X7_run
  refine A_iload_n (pc := 0) (i := 1) dX7_run_0 rfl rfl ?_
  refine A_iconst (pc := 1) (v := (1 : Int32)) dX7_run_1 (by decide) ?_
  refine A_bipush (pc := 2) (v := (24 : Int32)) dX7_run_2 (by decide) ?_
  refine A_callS (pc := 4) (M' := mX7_isWithin) (As := [vi x1, vi (1 : Int32), vi (24 : Int32)]) (st := []) (0, 0) (fun r1 => [vi (bi r1)]) (fun _ => h) (a_X7_isWithin x1 (1 : Int32) (24 : Int32) h) kD_X7_isWithin kM_X7_77 kT_X7_isWithin kN_X7 ⟨(Nat.le_of_ble_eq_true rfl), (Nat.le_of_ble_eq_true rfl)⟩ dX7_run_4 rfl rfl (Nat.le_of_ble_eq_true rfl) (Nat.le_of_ble_eq_true rfl) (Nat.le_of_ble_eq_true rfl) (fun _ => rfl) (fun _ => rfl) (fun r1 => ?_)
  refine A_ifb_ne (pc := 7) (tgt := 17) dX7_run_7 (by decide) ?_ ?_
  · refine A_iconst (pc := 17) (v := (0 : Int32)) dX7_run_17 (by decide) ?_
    refine A_istore_n (pc := 18) (i := 2) (ls2 := [some (vr 7 (some 0)), some (vi x1), some (vi (0 : Int32)), none]) dX7_run_18 rfl (Nat.le_of_ble_eq_true rfl) rfl ?_
    refine A_iconst (pc := 19) (v := (0 : Int32)) dX7_run_19 (by decide) ?_
    refine A_istore_n (pc := 20) (i := 3) (ls2 := [some (vr 7 (some 0)), some (vi x1), some (vi (0 : Int32)), some (vi (0 : Int32))]) dX7_run_20 rfl (Nat.le_of_ble_eq_true rfl) rfl ?_
    exact Aw.weak (ls' := [some (vr 7 (some 0)), some (vi x1), some (vi (0 : Int32)), some (vi (0 : Int32))]) ⟨rfl, ⟨rfl, ⟨rfl, ⟨rfl, trivial⟩⟩⟩⟩ (aL_X7_run_21 FU x1 (0 : Int32) (0 : Int32) h)
  · refine A_aload_n (pc := 10) (i := 0) dX7_run_10 rfl rfl ?_
    refine A_ldc (pc := 11) (v := (-1000001 : Int32)) dX7_run_11 kK_X7_60 ?_
    refine A_callV (pc := 13) (M' := mX7_counted) (As := [vi (-1000001 : Int32)]) (st := []) (0, 0) (fun r3 => [vi r3.1]) (fun r3 => r3.2) (a_X7_counted (-1000001 : Int32) h) kD_X7_counted kM_X7_48 kI_X7_counted kS_X7_counted kN_X7 ⟨(Nat.le_of_ble_eq_true rfl), (Nat.le_of_ble_eq_true rfl)⟩ dX7_run_13 rfl rfl rfl (by decide) rfl (Nat.le_of_ble_eq_true rfl) (Nat.le_of_ble_eq_true rfl) (Nat.le_of_ble_eq_true rfl) (fun _ => rfl) (fun _ => rfl) (fun r3 => ?_)
    exact A_retI rfl dX7_run_16

abbrev mX7_could : MD := (yX7_could, cX7_could, 3, (some .int), { frames := 2, cells := 0, slots := 0, locals := 48 }, none)
theorem kD_X7_could : CodeIn mX7_could 1 := ⟨kC_X7_could, by decide +kernel⟩
def f_X7_could (x1 : Int32) (h : Hp) : Option (Int32 × Hp) := ((f_X5_boatOf x1 h).bind fun r1 => (match r1 with | none => ((f_X7_counted (-1000001 : Int32) h).bind fun r3 => (some (r3.1, r3.2))) | some k2 => ((f_X1_isLying k2 h).bind fun r4 => (if r4 = true then ((f_X5_movedIfLeaving k2 (gI h 2 0 0) h).bind fun r6 => (some (r6, h))) else ((f_X7_counted (-1000005 : Int32) h).bind fun r5 => (some (r5.1, r5.2)))))))
set_option maxRecDepth 100000 in
set_option maxHeartbeats 4000000 in
theorem a_X7_could (x1 : Int32) (h : Hp) : CtA eI mX7_could U0 U0 [vr 7 (some 0), vi x1] h (f_X7_could x1 h) := by
  refine Ct.of (ls := [some (vr 7 (some 0)), some (vi x1), none]) (n := 1) (by decide +kernel) rfl rfl rfl ?_
  unfold f_X7_could
  refine A_aload_n (pc := 0) (i := 0) dX7_could_0 rfl rfl ?_
  refine A_getS (pc := 1) (k := 0) (tp := 5) clX7 (Nat.le_of_ble_eq_true rfl) dX7_could_1 kF_X7_10 rfl rfl rfl ?_
  refine A_iload_n (pc := 4) (i := 1) dX7_could_4 rfl rfl ?_
  refine A_callV (pc := 5) (M' := mX5_boatOf) (As := [vi x1]) (st := []) (0, 0) (fun r1 => [vr 1 r1]) (fun _ => h) (a_X5_boatOf x1 h) kD_X5_boatOf kM_X7_56 kI_X5_boatOf kS_X5_boatOf kN_X5 ⟨(Nat.le_of_ble_eq_true rfl), (Nat.le_of_ble_eq_true rfl)⟩ dX7_could_5 rfl rfl rfl (by decide) rfl (Nat.le_of_ble_eq_true rfl) (Nat.le_of_ble_eq_true rfl) (Nat.le_of_ble_eq_true rfl) (fun _ => rfl) (fun _ => rfl) (fun r1 => ?_)
  refine A_astore_n (pc := 8) (i := 2) (ls2 := [some (vr 7 (some 0)), some (vi x1), some (vr 1 r1)]) dX7_could_8 rfl (Nat.le_of_ble_eq_true rfl) rfl ?_
  refine A_aload_n (pc := 9) (i := 2) dX7_could_9 rfl rfl ?_
  refine A_ifnonnull (pc := 10) (tgt := 20) dX7_could_10 (by decide) (fun hz => ?_) (fun k2 hz => ?_)
  · subst hz
    try dsimp only
    refine A_aload_n (pc := 13) (i := 0) dX7_could_13 rfl rfl ?_
    refine A_ldc (pc := 14) (v := (-1000001 : Int32)) dX7_could_14 kK_X7_60 ?_
    refine A_callV (pc := 16) (M' := mX7_counted) (As := [vi (-1000001 : Int32)]) (st := []) (0, 0) (fun r3 => [vi r3.1]) (fun r3 => r3.2) (a_X7_counted (-1000001 : Int32) h) kD_X7_counted kM_X7_48 kI_X7_counted kS_X7_counted kN_X7 ⟨(Nat.le_of_ble_eq_true rfl), (Nat.le_of_ble_eq_true rfl)⟩ dX7_could_16 rfl rfl rfl (by decide) rfl (Nat.le_of_ble_eq_true rfl) (Nat.le_of_ble_eq_true rfl) (Nat.le_of_ble_eq_true rfl) (fun _ => rfl) (fun _ => rfl) (fun r3 => ?_)
    exact A_retI rfl dX7_could_19
  · subst hz
    try dsimp only
    refine A_aload_n (pc := 20) (i := 2) dX7_could_20 rfl rfl ?_
    refine A_callV (pc := 21) (M' := mX1_isLying) (As := []) (st := []) (0, 0) (fun r4 => [vi (bi r4)]) (fun _ => h) (a_X1_isLying k2 h) kD_X1_isLying kM_X7_113 kI_X1_isLying kS_X1_isLying kN_X1 ⟨(Nat.le_of_ble_eq_true rfl), (Nat.le_of_ble_eq_true rfl)⟩ dX7_could_21 rfl rfl rfl (by decide) rfl (Nat.le_of_ble_eq_true rfl) (Nat.le_of_ble_eq_true rfl) (Nat.le_of_ble_eq_true rfl) (fun _ => rfl) (fun _ => rfl) (fun r4 => ?_)
    refine A_ifb_eq (pc := 24) (tgt := 45) dX7_could_24 (by decide) ?_ ?_
    · refine A_aload_n (pc := 45) (i := 0) dX7_could_45 rfl rfl ?_
      refine A_ldc (pc := 46) (v := (-1000005 : Int32)) dX7_could_46 kK_X7_121 ?_
      refine A_callV (pc := 48) (M' := mX7_counted) (As := [vi (-1000005 : Int32)]) (st := []) (0, 0) (fun r5 => [vi r5.1]) (fun r5 => r5.2) (a_X7_counted (-1000005 : Int32) h) kD_X7_counted kM_X7_48 kI_X7_counted kS_X7_counted kN_X7 ⟨(Nat.le_of_ble_eq_true rfl), (Nat.le_of_ble_eq_true rfl)⟩ dX7_could_48 rfl rfl rfl (by decide) rfl (Nat.le_of_ble_eq_true rfl) (Nat.le_of_ble_eq_true rfl) (Nat.le_of_ble_eq_true rfl) (fun _ => rfl) (fun _ => rfl) (fun r5 => ?_)
      exact A_retI rfl dX7_could_51
    · refine A_aload_n (pc := 27) (i := 0) dX7_could_27 rfl rfl ?_
      refine A_getS (pc := 28) (k := 0) (tp := 5) clX7 (Nat.le_of_ble_eq_true rfl) dX7_could_28 kF_X7_10 rfl rfl rfl ?_
      refine A_aload_n (pc := 31) (i := 2) dX7_could_31 rfl rfl ?_
      refine A_aload_n (pc := 32) (i := 0) dX7_could_32 rfl rfl ?_
      refine A_getS (pc := 33) (k := 1) (tp := 2) clX7 (Nat.le_of_ble_eq_true rfl) dX7_could_33 kF_X7_19 rfl rfl rfl ?_
      refine A_getI (pc := 36) (k := 0) clX2 (Nat.le_of_ble_eq_true rfl) dX7_could_36 kF_X7_170 rfl ?_
      refine A_callV (pc := 39) (M' := mX5_movedIfLeaving) (As := [vr 1 (some k2), vi (gI h 2 0 0)]) (st := []) (0, 0) (fun r6 => [vi r6]) (fun _ => h) (a_X5_movedIfLeaving k2 (gI h 2 0 0) h) kD_X5_movedIfLeaving kM_X7_173 kI_X5_movedIfLeaving kS_X5_movedIfLeaving kN_X5 ⟨(Nat.le_of_ble_eq_true rfl), (Nat.le_of_ble_eq_true rfl)⟩ dX7_could_39 rfl rfl rfl (by decide) rfl (Nat.le_of_ble_eq_true rfl) (Nat.le_of_ble_eq_true rfl) (Nat.le_of_ble_eq_true rfl) (fun _ => rfl) (fun _ => rfl) (fun r6 => ?_)
      refine A_goto (pc := 42) (tgt := 51) dX7_could_42 (by decide) ?_
      exact A_retI rfl dX7_could_51

abbrev mX7_feed : MD := (yX7_feed, cX7_feed, 4, (some .int), { frames := 2, cells := 0, slots := 0, locals := 46 }, none)
theorem kD_X7_feed : CodeIn mX7_feed 2 := ⟨kC_X7_feed, by decide +kernel⟩
def f_X7_feed (w1 : Int64) (x3 : Int32) (h : Hp) : Option (Int32 × Hp) := ((f_X3_takeBytes w1 x3 h).bind fun r1 => ((f_X7_counted r1.1 r1.2).bind fun r2 => (some (r2.1, r2.2))))
set_option maxRecDepth 100000 in
set_option maxHeartbeats 4000000 in
theorem a_X7_feed (w1 : Int64) (x3 : Int32) (h : Hp) : CtA eI mX7_feed U0 U0 [vr 7 (some 0), vl w1, vi x3] h (f_X7_feed w1 x3 h) := by
  refine Ct.of (ls := [some (vr 7 (some 0)), some (vl w1), none, some (vi x3)]) (n := 0) (by decide +kernel) rfl rfl rfl ?_
  unfold f_X7_feed
  refine A_aload_n (pc := 0) (i := 0) dX7_feed_0 rfl rfl ?_
  refine A_aload_n (pc := 1) (i := 0) dX7_feed_1 rfl rfl ?_
  refine A_getS (pc := 2) (k := 3) (tp := 3) clX7 (Nat.le_of_ble_eq_true rfl) dX7_feed_2 kF_X7_33 rfl rfl rfl ?_
  refine A_lload_n (pc := 5) (i := 1) dX7_feed_5 rfl rfl ?_
  refine A_iload_n (pc := 6) (i := 3) dX7_feed_6 rfl rfl ?_
  refine A_callV (pc := 7) (M' := mX3_takeBytes) (As := [vl w1, vi x3]) (st := [vr 7 (some 0)]) (0, 0) (fun r1 => [vi r1.1, vr 7 (some 0)]) (fun r1 => r1.2) (a_X3_takeBytes w1 x3 h) kD_X3_takeBytes kM_X7_177 kI_X3_takeBytes kS_X3_takeBytes kN_X3 ⟨(Nat.le_of_ble_eq_true rfl), (Nat.le_of_ble_eq_true rfl)⟩ dX7_feed_7 rfl rfl rfl (by decide) rfl (Nat.le_of_ble_eq_true rfl) (Nat.le_of_ble_eq_true rfl) (Nat.le_of_ble_eq_true rfl) (fun _ => rfl) (fun _ => rfl) (fun r1 => ?_)
  refine A_callV (pc := 10) (M' := mX7_counted) (As := [vi r1.1]) (st := []) (0, 0) (fun r2 => [vi r2.1]) (fun r2 => r2.2) (a_X7_counted r1.1 r1.2) kD_X7_counted kM_X7_48 kI_X7_counted kS_X7_counted kN_X7 ⟨(Nat.le_of_ble_eq_true rfl), (Nat.le_of_ble_eq_true rfl)⟩ dX7_feed_10 rfl rfl rfl (by decide) rfl (Nat.le_of_ble_eq_true rfl) (Nat.le_of_ble_eq_true rfl) (Nat.le_of_ble_eq_true rfl) (fun _ => rfl) (fun _ => rfl) (fun r2 => ?_)
  exact A_retI rfl dX7_feed_13

abbrev mX7_text : MD := (yX7_text, cX7_text, 1, (some .int), { frames := 4, cells := 0, slots := 0, locals := 88 }, none)
theorem kD_X7_text : CodeIn mX7_text 0 := ⟨kC_X7_text, by decide +kernel⟩
def f_X7_text (h : Hp) : Option (Int32 × Hp) := ((f_X3_takeText h).bind fun r1 => ((f_X7_counted r1.1 r1.2).bind fun r2 => (some (r2.1, r2.2))))
set_option maxRecDepth 100000 in
set_option maxHeartbeats 4000000 in
theorem a_X7_text (h : Hp) : CtA eI mX7_text U0 U0 [vr 7 (some 0)] h (f_X7_text h) := by
  refine Ct.of (ls := [some (vr 7 (some 0))]) (n := 0) (by decide +kernel) rfl rfl rfl ?_
  unfold f_X7_text
  refine A_aload_n (pc := 0) (i := 0) dX7_text_0 rfl rfl ?_
  refine A_aload_n (pc := 1) (i := 0) dX7_text_1 rfl rfl ?_
  refine A_getS (pc := 2) (k := 3) (tp := 3) clX7 (Nat.le_of_ble_eq_true rfl) dX7_text_2 kF_X7_33 rfl rfl rfl ?_
  refine A_callV (pc := 5) (M' := mX3_takeText) (As := []) (st := [vr 7 (some 0)]) (0, 0) (fun r1 => [vi r1.1, vr 7 (some 0)]) (fun r1 => r1.2) (a_X3_takeText h) kD_X3_takeText kM_X7_181 kI_X3_takeText kS_X3_takeText kN_X3 ⟨(Nat.le_of_ble_eq_true rfl), (Nat.le_of_ble_eq_true rfl)⟩ dX7_text_5 rfl rfl rfl (by decide) rfl (Nat.le_of_ble_eq_true rfl) (Nat.le_of_ble_eq_true rfl) (Nat.le_of_ble_eq_true rfl) (fun _ => rfl) (fun _ => rfl) (fun r1 => ?_)
  refine A_callV (pc := 8) (M' := mX7_counted) (As := [vi r1.1]) (st := []) (0, 0) (fun r2 => [vi r2.1]) (fun r2 => r2.2) (a_X7_counted r1.1 r1.2) kD_X7_counted kM_X7_48 kI_X7_counted kS_X7_counted kN_X7 ⟨(Nat.le_of_ble_eq_true rfl), (Nat.le_of_ble_eq_true rfl)⟩ dX7_text_8 rfl rfl rfl (by decide) rfl (Nat.le_of_ble_eq_true rfl) (Nat.le_of_ble_eq_true rfl) (Nat.le_of_ble_eq_true rfl) (fun _ => rfl) (fun _ => rfl) (fun r2 => ?_)
  exact A_retI rfl dX7_text_11

abbrev mX7_due : MD := (yX7_due, cX7_due, 5, (some .int), { frames := 2, cells := 0, slots := 0, locals := 43 }, none)
theorem kD_X7_due : CodeIn mX7_due 2 := ⟨kC_X7_due, by decide +kernel⟩
def f_X7_due (x1 : Int32) (x2 : Int32) (h : Hp) : Option (Int32 × Hp) := ((f_X5_boatOf x1 h).bind fun r1 => (match r1 with | none => ((f_X7_counted (-1000001 : Int32) h).bind fun r3 => (some (r3.1, r3.2))) | some k2 => ((f_X7_isWithin x2 (0 : Int32) (99 : Int32) h).bind fun r4 => (if r4 = true then ((f_X3_priceFor k2 h).bind fun r5 => (if r5 = (-1000004 : Int32) then ((f_X7_counted (-1000004 : Int32) h).bind fun r6 => (some (r6.1, r6.2))) else (some (((r5 * (gI h 1 k2 2)) * x2), h)))) else ((f_X7_counted (-1000001 : Int32) h).bind fun r7 => (some (r7.1, r7.2)))))))
set_option maxRecDepth 100000 in
set_option maxHeartbeats 4000000 in
theorem a_X7_due (x1 : Int32) (x2 : Int32) (h : Hp) : CtA eI mX7_due U0 U0 [vr 7 (some 0), vi x1, vi x2] h (f_X7_due x1 x2 h) := by
  refine Ct.of (ls := [some (vr 7 (some 0)), some (vi x1), some (vi x2), none, none]) (n := 2) (by decide +kernel) rfl rfl rfl ?_
  unfold f_X7_due
  refine A_aload_n (pc := 0) (i := 0) dX7_due_0 rfl rfl ?_
  refine A_getS (pc := 1) (k := 0) (tp := 5) clX7 (Nat.le_of_ble_eq_true rfl) dX7_due_1 kF_X7_10 rfl rfl rfl ?_
  refine A_iload_n (pc := 4) (i := 1) dX7_due_4 rfl rfl ?_
  refine A_callV (pc := 5) (M' := mX5_boatOf) (As := [vi x1]) (st := []) (0, 0) (fun r1 => [vr 1 r1]) (fun _ => h) (a_X5_boatOf x1 h) kD_X5_boatOf kM_X7_56 kI_X5_boatOf kS_X5_boatOf kN_X5 ⟨(Nat.le_of_ble_eq_true rfl), (Nat.le_of_ble_eq_true rfl)⟩ dX7_due_5 rfl rfl rfl (by decide) rfl (Nat.le_of_ble_eq_true rfl) (Nat.le_of_ble_eq_true rfl) (Nat.le_of_ble_eq_true rfl) (fun _ => rfl) (fun _ => rfl) (fun r1 => ?_)
  refine A_astore_n (pc := 8) (i := 3) (ls2 := [some (vr 7 (some 0)), some (vi x1), some (vi x2), some (vr 1 r1), none]) dX7_due_8 rfl (Nat.le_of_ble_eq_true rfl) rfl ?_
  refine A_aload_n (pc := 9) (i := 3) dX7_due_9 rfl rfl ?_
  refine A_ifnull (pc := 10) (tgt := 23) dX7_due_10 (by decide) (fun hz => ?_) (fun k2 hz => ?_)
  · subst hz
    try dsimp only
    refine A_aload_n (pc := 23) (i := 0) dX7_due_23 rfl rfl ?_
    refine A_ldc (pc := 24) (v := (-1000001 : Int32)) dX7_due_24 kK_X7_60 ?_
    refine A_callV (pc := 26) (M' := mX7_counted) (As := [vi (-1000001 : Int32)]) (st := []) (0, 0) (fun r3 => [vi r3.1]) (fun r3 => r3.2) (a_X7_counted (-1000001 : Int32) h) kD_X7_counted kM_X7_48 kI_X7_counted kS_X7_counted kN_X7 ⟨(Nat.le_of_ble_eq_true rfl), (Nat.le_of_ble_eq_true rfl)⟩ dX7_due_26 rfl rfl rfl (by decide) rfl (Nat.le_of_ble_eq_true rfl) (Nat.le_of_ble_eq_true rfl) (Nat.le_of_ble_eq_true rfl) (fun _ => rfl) (fun _ => rfl) (fun r3 => ?_)
    exact A_retI rfl dX7_due_29
  · subst hz
    try dsimp only
    refine A_iload_n (pc := 13) (i := 2) dX7_due_13 rfl rfl ?_
    refine A_iconst (pc := 14) (v := (0 : Int32)) dX7_due_14 (by decide) ?_
    refine A_bipush (pc := 15) (v := (99 : Int32)) dX7_due_15 (by decide) ?_
    refine A_callS (pc := 17) (M' := mX7_isWithin) (As := [vi x2, vi (0 : Int32), vi (99 : Int32)]) (st := []) (0, 0) (fun r4 => [vi (bi r4)]) (fun _ => h) (a_X7_isWithin x2 (0 : Int32) (99 : Int32) h) kD_X7_isWithin kM_X7_77 kT_X7_isWithin kN_X7 ⟨(Nat.le_of_ble_eq_true rfl), (Nat.le_of_ble_eq_true rfl)⟩ dX7_due_17 rfl rfl (Nat.le_of_ble_eq_true rfl) (Nat.le_of_ble_eq_true rfl) (Nat.le_of_ble_eq_true rfl) (fun _ => rfl) (fun _ => rfl) (fun r4 => ?_)
    refine A_ifb_ne (pc := 20) (tgt := 30) dX7_due_20 (by decide) ?_ ?_
    · refine A_aload_n (pc := 30) (i := 0) dX7_due_30 rfl rfl ?_
      refine A_getS (pc := 31) (k := 3) (tp := 3) clX7 (Nat.le_of_ble_eq_true rfl) dX7_due_31 kF_X7_33 rfl rfl rfl ?_
      refine A_aload_n (pc := 34) (i := 3) dX7_due_34 rfl rfl ?_
      refine A_callV (pc := 35) (M' := mX3_priceFor) (As := [vr 1 (some k2)]) (st := []) (0, 0) (fun r5 => [vi r5]) (fun _ => h) (a_X3_priceFor k2 h) kD_X3_priceFor kM_X7_185 kI_X3_priceFor kS_X3_priceFor kN_X3 ⟨(Nat.le_of_ble_eq_true rfl), (Nat.le_of_ble_eq_true rfl)⟩ dX7_due_35 rfl rfl rfl (by decide) rfl (Nat.le_of_ble_eq_true rfl) (Nat.le_of_ble_eq_true rfl) (Nat.le_of_ble_eq_true rfl) (fun _ => rfl) (fun _ => rfl) (fun r5 => ?_)
      refine A_istore (pc := 38) (i := 4) (ls2 := [some (vr 7 (some 0)), some (vi x1), some (vi x2), some (vr 1 (some k2)), some (vi r5)]) dX7_due_38 (Nat.le_of_ble_eq_true rfl) rfl ?_
      refine A_iload (pc := 40) (i := 4) dX7_due_40 rfl ?_
      refine A_ldc (pc := 42) (v := (-1000004 : Int32)) dX7_due_42 kK_X7_143 ?_
      refine A_icmp_ne (pc := 44) (tgt := 56) dX7_due_44 (by decide) ?_ ?_
      · refine A_iload (pc := 56) (i := 4) dX7_due_56 rfl ?_
        refine A_aload_n (pc := 58) (i := 3) dX7_due_58 rfl rfl ?_
        refine A_getI (pc := 59) (k := 2) clX1 (Nat.le_of_ble_eq_true rfl) dX7_due_59 kF_X7_188 rfl ?_
        refine A_imul (pc := 62) dX7_due_62 ?_
        refine A_iload_n (pc := 63) (i := 2) dX7_due_63 rfl rfl ?_
        refine A_imul (pc := 64) dX7_due_64 ?_
        exact A_retI rfl dX7_due_65
      · refine A_aload_n (pc := 47) (i := 0) dX7_due_47 rfl rfl ?_
        refine A_ldc (pc := 48) (v := (-1000004 : Int32)) dX7_due_48 kK_X7_143 ?_
        refine A_callV (pc := 50) (M' := mX7_counted) (As := [vi (-1000004 : Int32)]) (st := []) (0, 0) (fun r6 => [vi r6.1]) (fun r6 => r6.2) (a_X7_counted (-1000004 : Int32) h) kD_X7_counted kM_X7_48 kI_X7_counted kS_X7_counted kN_X7 ⟨(Nat.le_of_ble_eq_true rfl), (Nat.le_of_ble_eq_true rfl)⟩ dX7_due_50 rfl rfl rfl (by decide) rfl (Nat.le_of_ble_eq_true rfl) (Nat.le_of_ble_eq_true rfl) (Nat.le_of_ble_eq_true rfl) (fun _ => rfl) (fun _ => rfl) (fun r6 => ?_)
        refine A_goto (pc := 53) (tgt := 65) dX7_due_53 (by decide) ?_
        exact A_retI rfl dX7_due_65
    · refine A_aload_n (pc := 23) (i := 0) dX7_due_23 rfl rfl ?_
      refine A_ldc (pc := 24) (v := (-1000001 : Int32)) dX7_due_24 kK_X7_60 ?_
      refine A_callV (pc := 26) (M' := mX7_counted) (As := [vi (-1000001 : Int32)]) (st := []) (0, 0) (fun r7 => [vi r7.1]) (fun r7 => r7.2) (a_X7_counted (-1000001 : Int32) h) kD_X7_counted kM_X7_48 kI_X7_counted kS_X7_counted kN_X7 ⟨(Nat.le_of_ble_eq_true rfl), (Nat.le_of_ble_eq_true rfl)⟩ dX7_due_26 rfl rfl rfl (by decide) rfl (Nat.le_of_ble_eq_true rfl) (Nat.le_of_ble_eq_true rfl) (Nat.le_of_ble_eq_true rfl) (fun _ => rfl) (fun _ => rfl) (fun r7 => ?_)
      exact A_retI rfl dX7_due_29

abbrev mX7_sheetOf : MD := (yX7_sheetOf, cX7_sheetOf, 2, (some (.object "AbreastQuay$Sheet")), { frames := 0, cells := 0, slots := 0, locals := 0 }, none)
theorem kD_X7_sheetOf : CodeIn mX7_sheetOf 1 := ⟨kC_X7_sheetOf, by decide +kernel⟩
def f_X7_sheetOf (x1 : Int32) (h : Hp) : Option (Option Nat) := (if x1 < 0 then (some none) else (if (4 : Int32) ≤ x1 then (some none) else (if 0 ≤ x1 ∧ x1 < 4 then (some (gP h 22 0 (Int32.toNatClampNeg x1))) else none)))
set_option maxRecDepth 100000 in
set_option maxHeartbeats 4000000 in
theorem a_X7_sheetOf (x1 : Int32) (h : Hp) : CtA (eRr 6 h) mX7_sheetOf U0 U0 [vr 7 (some 0), vi x1] h (f_X7_sheetOf x1 h) := by
  refine Ct.of (ls := [some (vr 7 (some 0)), some (vi x1)]) (n := 0) (by decide +kernel) rfl rfl rfl ?_
  unfold f_X7_sheetOf
  refine A_iload_n (pc := 0) (i := 1) dX7_sheetOf_0 rfl rfl ?_
  refine A_if_lt (pc := 1) (tgt := 22) dX7_sheetOf_1 (by decide) ?_ ?_
  · refine A_null (pc := 22) 6 dX7_sheetOf_22 ?_
    exact A_retRr rfl dX7_sheetOf_23
  · refine A_iload_n (pc := 4) (i := 1) dX7_sheetOf_4 rfl rfl ?_
    refine A_aload_n (pc := 5) (i := 0) dX7_sheetOf_5 rfl rfl ?_
    refine A_getS (pc := 6) (k := 4) (tp := 22) clX7 (Nat.le_of_ble_eq_true rfl) dX7_sheetOf_6 kF_X7_39 rfl rfl rfl ?_
    refine A_alen (pc := 9) (v := (4 : Int32)) (by decide) (by decide) (by decide) rfl dX7_sheetOf_9 ?_
    refine A_icmp_ge (pc := 10) (tgt := 22) dX7_sheetOf_10 (by decide) ?_ ?_
    · refine A_null (pc := 22) 6 dX7_sheetOf_22 ?_
      exact A_retRr rfl dX7_sheetOf_23
    · refine A_aload_n (pc := 13) (i := 0) dX7_sheetOf_13 rfl rfl ?_
      refine A_getS (pc := 14) (k := 4) (tp := 22) clX7 (Nat.le_of_ble_eq_true rfl) dX7_sheetOf_14 kF_X7_39 rfl rfl rfl ?_
      refine A_iload_n (pc := 17) (i := 1) dX7_sheetOf_17 rfl rfl ?_
      refine A_aaload (pc := 18) (n := 4) (te := 6) (C := RX6) (by decide) (by decide) (by decide) (fun _ => rfl) rfl dX7_sheetOf_18 (by decide) ?_
      generalize (gP h 22 0 (Int32.toNatClampNeg x1)) = q1
      refine A_goto (pc := 19) (tgt := 23) dX7_sheetOf_19 (by decide) ?_
      exact A_retRr rfl dX7_sheetOf_23

abbrev mX7_sheet : MD := (yX7_sheet, cX7_sheet, 5, (some .int), { frames := 2, cells := 0, slots := 0, locals := 45 }, none)
theorem kD_X7_sheet : CodeIn mX7_sheet 3 := ⟨kC_X7_sheet, by decide +kernel⟩
def f_X7_sheet (x1 : Int32) (x2 : Int32) (x3 : Int32) (h : Hp) : Option (Int32 × Hp) := ((f_X7_sheetOf x1 h).bind fun r1 => (match r1 with | none => ((f_X7_counted (-1000001 : Int32) h).bind fun r3 => (some (r3.1, r3.2))) | some k2 => ((f_X6_begin k2 x2 x3 h).bind fun r4 => ((f_X7_counted r4.1 r4.2).bind fun r5 => (some (r5.1, r5.2))))))
set_option maxRecDepth 100000 in
set_option maxHeartbeats 4000000 in
theorem a_X7_sheet (x1 : Int32) (x2 : Int32) (x3 : Int32) (h : Hp) : CtA eI mX7_sheet U0 U0 [vr 7 (some 0), vi x1, vi x2, vi x3] h (f_X7_sheet x1 x2 x3 h) := by
  refine Ct.of (ls := [some (vr 7 (some 0)), some (vi x1), some (vi x2), some (vi x3), none]) (n := 1) (by decide +kernel) rfl rfl rfl ?_
  unfold f_X7_sheet
  refine A_aload_n (pc := 0) (i := 0) dX7_sheet_0 rfl rfl ?_
  refine A_iload_n (pc := 1) (i := 1) dX7_sheet_1 rfl rfl ?_
  refine A_callV (pc := 2) (M' := mX7_sheetOf) (As := [vi x1]) (st := []) (0, 0) (fun r1 => [vr 6 r1]) (fun _ => h) (a_X7_sheetOf x1 h) kD_X7_sheetOf kM_X7_191 kI_X7_sheetOf kS_X7_sheetOf kN_X7 ⟨(Nat.le_of_ble_eq_true rfl), (Nat.le_of_ble_eq_true rfl)⟩ dX7_sheet_2 rfl rfl rfl (by decide) rfl (Nat.le_of_ble_eq_true rfl) (Nat.le_of_ble_eq_true rfl) (Nat.le_of_ble_eq_true rfl) (fun _ => rfl) (fun _ => rfl) (fun r1 => ?_)
  refine A_astore (pc := 5) (i := 4) (ls2 := [some (vr 7 (some 0)), some (vi x1), some (vi x2), some (vi x3), some (vr 6 r1)]) dX7_sheet_5 (Nat.le_of_ble_eq_true rfl) rfl ?_
  refine A_aload_n (pc := 7) (i := 0) dX7_sheet_7 rfl rfl ?_
  refine A_aload (pc := 8) (i := 4) dX7_sheet_8 rfl ?_
  refine A_ifnonnull (pc := 10) (tgt := 18) dX7_sheet_10 (by decide) (fun hz => ?_) (fun k2 hz => ?_)
  · subst hz
    try dsimp only
    refine A_ldc (pc := 13) (v := (-1000001 : Int32)) dX7_sheet_13 kK_X7_60 ?_
    refine A_goto (pc := 15) (tgt := 25) dX7_sheet_15 (by decide) ?_
    refine A_callV (pc := 25) (M' := mX7_counted) (As := [vi (-1000001 : Int32)]) (st := []) (0, 0) (fun r3 => [vi r3.1]) (fun r3 => r3.2) (a_X7_counted (-1000001 : Int32) h) kD_X7_counted kM_X7_48 kI_X7_counted kS_X7_counted kN_X7 ⟨(Nat.le_of_ble_eq_true rfl), (Nat.le_of_ble_eq_true rfl)⟩ dX7_sheet_25 rfl rfl rfl (by decide) rfl (Nat.le_of_ble_eq_true rfl) (Nat.le_of_ble_eq_true rfl) (Nat.le_of_ble_eq_true rfl) (fun _ => rfl) (fun _ => rfl) (fun r3 => ?_)
    exact A_retI rfl dX7_sheet_28
  · subst hz
    try dsimp only
    refine A_aload (pc := 18) (i := 4) dX7_sheet_18 rfl ?_
    refine A_iload_n (pc := 20) (i := 2) dX7_sheet_20 rfl rfl ?_
    refine A_iload_n (pc := 21) (i := 3) dX7_sheet_21 rfl rfl ?_
    refine A_callV (pc := 22) (M' := mX6_begin) (As := [vi x2, vi x3]) (st := [vr 7 (some 0)]) (0, 0) (fun r4 => [vi r4.1, vr 7 (some 0)]) (fun r4 => r4.2) (a_X6_begin k2 x2 x3 h) kD_X6_begin kM_X7_195 kI_X6_begin kS_X6_begin kN_X6 ⟨(Nat.le_of_ble_eq_true rfl), (Nat.le_of_ble_eq_true rfl)⟩ dX7_sheet_22 rfl rfl rfl (by decide) rfl (Nat.le_of_ble_eq_true rfl) (Nat.le_of_ble_eq_true rfl) (Nat.le_of_ble_eq_true rfl) (fun _ => rfl) (fun _ => rfl) (fun r4 => ?_)
    refine A_callV (pc := 25) (M' := mX7_counted) (As := [vi r4.1]) (st := []) (0, 0) (fun r5 => [vi r5.1]) (fun r5 => r5.2) (a_X7_counted r4.1 r4.2) kD_X7_counted kM_X7_48 kI_X7_counted kS_X7_counted kN_X7 ⟨(Nat.le_of_ble_eq_true rfl), (Nat.le_of_ble_eq_true rfl)⟩ dX7_sheet_25 rfl rfl rfl (by decide) rfl (Nat.le_of_ble_eq_true rfl) (Nat.le_of_ble_eq_true rfl) (Nat.le_of_ble_eq_true rfl) (fun _ => rfl) (fun _ => rfl) (fun r5 => ?_)
    exact A_retI rfl dX7_sheet_28

abbrev mX7_write : MD := (yX7_write, cX7_write, 5, (some .int), { frames := 2, cells := 0, slots := 0, locals := 44 }, none)
theorem kD_X7_write : CodeIn mX7_write 3 := ⟨kC_X7_write, by decide +kernel⟩
def f_X7_write (x1 : Int32) (x2 : Int32) (x3 : Int32) (h : Hp) : Option (Int32 × Hp) := ((f_X7_sheetOf x1 h).bind fun r1 => (match r1 with | none => ((f_X7_counted (-1000001 : Int32) h).bind fun r3 => (some (r3.1, r3.2))) | some k2 => ((f_X6_isMissing k2 h).bind fun r4 => (if r4 = true then ((f_X7_counted (-1000006 : Int32) h).bind fun r8 => (some (r8.1, r8.2))) else ((f_X6_hasNumbers k2 x2 (1 : Int32) h).bind fun r5 => (if r5 = true then ((f_X6_replace k2 x2 x3 h).bind fun r7 => (some (r7.1, r7.2))) else ((f_X7_counted (-1000001 : Int32) h).bind fun r6 => (some (r6.1, r6.2)))))))))
set_option maxRecDepth 100000 in
set_option maxHeartbeats 4000000 in
theorem a_X7_write (x1 : Int32) (x2 : Int32) (x3 : Int32) (h : Hp) : CtA eI mX7_write U0 U0 [vr 7 (some 0), vi x1, vi x2, vi x3] h (f_X7_write x1 x2 x3 h) := by
  refine Ct.of (ls := [some (vr 7 (some 0)), some (vi x1), some (vi x2), some (vi x3), none]) (n := 1) (by decide +kernel) rfl rfl rfl ?_
  unfold f_X7_write
  refine A_aload_n (pc := 0) (i := 0) dX7_write_0 rfl rfl ?_
  refine A_iload_n (pc := 1) (i := 1) dX7_write_1 rfl rfl ?_
  refine A_callV (pc := 2) (M' := mX7_sheetOf) (As := [vi x1]) (st := []) (0, 0) (fun r1 => [vr 6 r1]) (fun _ => h) (a_X7_sheetOf x1 h) kD_X7_sheetOf kM_X7_191 kI_X7_sheetOf kS_X7_sheetOf kN_X7 ⟨(Nat.le_of_ble_eq_true rfl), (Nat.le_of_ble_eq_true rfl)⟩ dX7_write_2 rfl rfl rfl (by decide) rfl (Nat.le_of_ble_eq_true rfl) (Nat.le_of_ble_eq_true rfl) (Nat.le_of_ble_eq_true rfl) (fun _ => rfl) (fun _ => rfl) (fun r1 => ?_)
  refine A_astore (pc := 5) (i := 4) (ls2 := [some (vr 7 (some 0)), some (vi x1), some (vi x2), some (vi x3), some (vr 6 r1)]) dX7_write_5 (Nat.le_of_ble_eq_true rfl) rfl ?_
  refine A_aload (pc := 7) (i := 4) dX7_write_7 rfl ?_
  refine A_ifnonnull (pc := 9) (tgt := 19) dX7_write_9 (by decide) (fun hz => ?_) (fun k2 hz => ?_)
  · subst hz
    try dsimp only
    refine A_aload_n (pc := 12) (i := 0) dX7_write_12 rfl rfl ?_
    refine A_ldc (pc := 13) (v := (-1000001 : Int32)) dX7_write_13 kK_X7_60 ?_
    refine A_callV (pc := 15) (M' := mX7_counted) (As := [vi (-1000001 : Int32)]) (st := []) (0, 0) (fun r3 => [vi r3.1]) (fun r3 => r3.2) (a_X7_counted (-1000001 : Int32) h) kD_X7_counted kM_X7_48 kI_X7_counted kS_X7_counted kN_X7 ⟨(Nat.le_of_ble_eq_true rfl), (Nat.le_of_ble_eq_true rfl)⟩ dX7_write_15 rfl rfl rfl (by decide) rfl (Nat.le_of_ble_eq_true rfl) (Nat.le_of_ble_eq_true rfl) (Nat.le_of_ble_eq_true rfl) (fun _ => rfl) (fun _ => rfl) (fun r3 => ?_)
    exact A_retI rfl dX7_write_18
  · subst hz
    try dsimp only
    refine A_aload (pc := 19) (i := 4) dX7_write_19 rfl ?_
    refine A_callV (pc := 21) (M' := mX6_isMissing) (As := []) (st := []) (0, 0) (fun r4 => [vi (bi r4)]) (fun _ => h) (a_X6_isMissing k2 h) kD_X6_isMissing kM_X7_198 kI_X6_isMissing kS_X6_isMissing kN_X6 ⟨(Nat.le_of_ble_eq_true rfl), (Nat.le_of_ble_eq_true rfl)⟩ dX7_write_21 rfl rfl rfl (by decide) rfl (Nat.le_of_ble_eq_true rfl) (Nat.le_of_ble_eq_true rfl) (Nat.le_of_ble_eq_true rfl) (fun _ => rfl) (fun _ => rfl) (fun r4 => ?_)
    refine A_ifb_eq (pc := 24) (tgt := 34) dX7_write_24 (by decide) ?_ ?_
    · refine A_aload (pc := 34) (i := 4) dX7_write_34 rfl ?_
      refine A_iload_n (pc := 36) (i := 2) dX7_write_36 rfl rfl ?_
      refine A_iconst (pc := 37) (v := (1 : Int32)) dX7_write_37 (by decide) ?_
      refine A_callV (pc := 38) (M' := mX6_hasNumbers) (As := [vi x2, vi (1 : Int32)]) (st := []) (0, 0) (fun r5 => [vi (bi r5)]) (fun _ => h) (a_X6_hasNumbers k2 x2 (1 : Int32) h) kD_X6_hasNumbers kM_X7_202 kI_X6_hasNumbers kS_X6_hasNumbers kN_X6 ⟨(Nat.le_of_ble_eq_true rfl), (Nat.le_of_ble_eq_true rfl)⟩ dX7_write_38 rfl rfl rfl (by decide) rfl (Nat.le_of_ble_eq_true rfl) (Nat.le_of_ble_eq_true rfl) (Nat.le_of_ble_eq_true rfl) (fun _ => rfl) (fun _ => rfl) (fun r5 => ?_)
      refine A_ifb_eq (pc := 41) (tgt := 54) dX7_write_41 (by decide) ?_ ?_
      · refine A_aload_n (pc := 54) (i := 0) dX7_write_54 rfl rfl ?_
        refine A_ldc (pc := 55) (v := (-1000001 : Int32)) dX7_write_55 kK_X7_60 ?_
        refine A_callV (pc := 57) (M' := mX7_counted) (As := [vi (-1000001 : Int32)]) (st := []) (0, 0) (fun r6 => [vi r6.1]) (fun r6 => r6.2) (a_X7_counted (-1000001 : Int32) h) kD_X7_counted kM_X7_48 kI_X7_counted kS_X7_counted kN_X7 ⟨(Nat.le_of_ble_eq_true rfl), (Nat.le_of_ble_eq_true rfl)⟩ dX7_write_57 rfl rfl rfl (by decide) rfl (Nat.le_of_ble_eq_true rfl) (Nat.le_of_ble_eq_true rfl) (Nat.le_of_ble_eq_true rfl) (fun _ => rfl) (fun _ => rfl) (fun r6 => ?_)
        exact A_retI rfl dX7_write_60
      · refine A_aload (pc := 44) (i := 4) dX7_write_44 rfl ?_
        refine A_iload_n (pc := 46) (i := 2) dX7_write_46 rfl rfl ?_
        refine A_iload_n (pc := 47) (i := 3) dX7_write_47 rfl rfl ?_
        refine A_callV (pc := 48) (M' := mX6_replace) (As := [vi x2, vi x3]) (st := []) (0, 0) (fun r7 => [vi r7.1]) (fun r7 => r7.2) (a_X6_replace k2 x2 x3 h) kD_X6_replace kM_X7_205 kI_X6_replace kS_X6_replace kN_X6 ⟨(Nat.le_of_ble_eq_true rfl), (Nat.le_of_ble_eq_true rfl)⟩ dX7_write_48 rfl rfl rfl (by decide) rfl (Nat.le_of_ble_eq_true rfl) (Nat.le_of_ble_eq_true rfl) (Nat.le_of_ble_eq_true rfl) (fun _ => rfl) (fun _ => rfl) (fun r7 => ?_)
        refine A_goto (pc := 51) (tgt := 60) dX7_write_51 (by decide) ?_
        exact A_retI rfl dX7_write_60
    · refine A_aload_n (pc := 27) (i := 0) dX7_write_27 rfl rfl ?_
      refine A_ldc (pc := 28) (v := (-1000006 : Int32)) dX7_write_28 kK_X7_201 ?_
      refine A_callV (pc := 30) (M' := mX7_counted) (As := [vi (-1000006 : Int32)]) (st := []) (0, 0) (fun r8 => [vi r8.1]) (fun r8 => r8.2) (a_X7_counted (-1000006 : Int32) h) kD_X7_counted kM_X7_48 kI_X7_counted kS_X7_counted kN_X7 ⟨(Nat.le_of_ble_eq_true rfl), (Nat.le_of_ble_eq_true rfl)⟩ dX7_write_30 rfl rfl rfl (by decide) rfl (Nat.le_of_ble_eq_true rfl) (Nat.le_of_ble_eq_true rfl) (Nat.le_of_ble_eq_true rfl) (fun _ => rfl) (fun _ => rfl) (fun r8 => ?_)
      exact A_retI rfl dX7_write_33

abbrev mX7_copy : MD := (yX7_copy, cX7_copy, 8, (some .int), { frames := 1, cells := 0, slots := 0, locals := 40 }, none)
theorem kD_X7_copy : CodeIn mX7_copy 5 := ⟨kC_X7_copy, by decide +kernel⟩
def f_X7_copy (x1 : Int32) (x2 : Int32) (x3 : Int32) (x4 : Int32) (x5 : Int32) (h : Hp) : Option (Int32 × Hp) := ((f_X7_sheetOf x1 h).bind fun r1 => ((f_X7_sheetOf x3 h).bind fun r2 => (match r1 with | none => ((f_X7_counted (-1000001 : Int32) h).bind fun r4 => (some (r4.1, r4.2))) | some k3 => (match r2 with | none => ((f_X7_counted (-1000001 : Int32) h).bind fun r6 => (some (r6.1, r6.2))) | some k5 => ((f_X6_isMissing k3 h).bind fun r7 => (if r7 = true then ((f_X7_counted (-1000006 : Int32) h).bind fun r8 => (some (r8.1, r8.2))) else ((f_X6_isMissing k5 h).bind fun r9 => (if r9 = true then ((f_X7_counted (-1000006 : Int32) h).bind fun r15 => (some (r15.1, r15.2))) else (if (gI h 6 k3 1) = (gI h 6 k5 1) then ((f_X6_hasNumbers k3 x2 x5 h).bind fun r10 => (if r10 = true then ((f_X6_hasNumbers k5 x4 x5 h).bind fun r12 => (if r12 = true then (if 0 ≤ x2 ∧ 0 ≤ x4 ∧ 0 ≤ x5 ∧ Int32.toNatClampNeg x2 + Int32.toNatClampNeg x5 ≤ alen 23 ∧ Int32.toNatClampNeg x4 + Int32.toNatClampNeg x5 ≤ alen 23 then (some (x5, (wC h 23 k3 k5 (Int32.toNatClampNeg x2) (Int32.toNatClampNeg x4) (Int32.toNatClampNeg x5)))) else none) else ((f_X7_counted (-1000001 : Int32) h).bind fun r13 => (some (r13.1, r13.2))))) else ((f_X7_counted (-1000001 : Int32) h).bind fun r11 => (some (r11.1, r11.2))))) else ((f_X7_counted (-1000003 : Int32) h).bind fun r14 => (some (r14.1, r14.2))))))))))))
set_option maxRecDepth 100000 in
set_option maxHeartbeats 4000000 in
theorem a_X7_copy (x1 : Int32) (x2 : Int32) (x3 : Int32) (x4 : Int32) (x5 : Int32) (h : Hp) : CtA eI mX7_copy U0 U0 [vr 7 (some 0), vi x1, vi x2, vi x3, vi x4, vi x5] h (f_X7_copy x1 x2 x3 x4 x5 h) := by
  refine Ct.of (ls := [some (vr 7 (some 0)), some (vi x1), some (vi x2), some (vi x3), some (vi x4), some (vi x5), none, none]) (n := 2) (by decide +kernel) rfl rfl rfl ?_
  unfold f_X7_copy
  refine A_aload_n (pc := 0) (i := 0) dX7_copy_0 rfl rfl ?_
  refine A_iload_n (pc := 1) (i := 1) dX7_copy_1 rfl rfl ?_
  refine A_callV (pc := 2) (M' := mX7_sheetOf) (As := [vi x1]) (st := []) (0, 0) (fun r1 => [vr 6 r1]) (fun _ => h) (a_X7_sheetOf x1 h) kD_X7_sheetOf kM_X7_191 kI_X7_sheetOf kS_X7_sheetOf kN_X7 ⟨(Nat.le_of_ble_eq_true rfl), (Nat.le_of_ble_eq_true rfl)⟩ dX7_copy_2 rfl rfl rfl (by decide) rfl (Nat.le_of_ble_eq_true rfl) (Nat.le_of_ble_eq_true rfl) (Nat.le_of_ble_eq_true rfl) (fun _ => rfl) (fun _ => rfl) (fun r1 => ?_)
  refine A_astore (pc := 5) (i := 6) (ls2 := [some (vr 7 (some 0)), some (vi x1), some (vi x2), some (vi x3), some (vi x4), some (vi x5), some (vr 6 r1), none]) dX7_copy_5 (Nat.le_of_ble_eq_true rfl) rfl ?_
  refine A_aload_n (pc := 7) (i := 0) dX7_copy_7 rfl rfl ?_
  refine A_iload_n (pc := 8) (i := 3) dX7_copy_8 rfl rfl ?_
  refine A_callV (pc := 9) (M' := mX7_sheetOf) (As := [vi x3]) (st := []) (0, 0) (fun r2 => [vr 6 r2]) (fun _ => h) (a_X7_sheetOf x3 h) kD_X7_sheetOf kM_X7_191 kI_X7_sheetOf kS_X7_sheetOf kN_X7 ⟨(Nat.le_of_ble_eq_true rfl), (Nat.le_of_ble_eq_true rfl)⟩ dX7_copy_9 rfl rfl rfl (by decide) rfl (Nat.le_of_ble_eq_true rfl) (Nat.le_of_ble_eq_true rfl) (Nat.le_of_ble_eq_true rfl) (fun _ => rfl) (fun _ => rfl) (fun r2 => ?_)
  refine A_astore (pc := 12) (i := 7) (ls2 := [some (vr 7 (some 0)), some (vi x1), some (vi x2), some (vi x3), some (vi x4), some (vi x5), some (vr 6 r1), some (vr 6 r2)]) dX7_copy_12 (Nat.le_of_ble_eq_true rfl) rfl ?_
  refine A_aload (pc := 14) (i := 6) dX7_copy_14 rfl ?_
  refine A_ifnull (pc := 16) (tgt := 24) dX7_copy_16 (by decide) (fun hz => ?_) (fun k3 hz => ?_)
  · subst hz
    try dsimp only
    refine A_aload_n (pc := 24) (i := 0) dX7_copy_24 rfl rfl ?_
    refine A_ldc (pc := 25) (v := (-1000001 : Int32)) dX7_copy_25 kK_X7_60 ?_
    refine A_callV (pc := 27) (M' := mX7_counted) (As := [vi (-1000001 : Int32)]) (st := []) (0, 0) (fun r4 => [vi r4.1]) (fun r4 => r4.2) (a_X7_counted (-1000001 : Int32) h) kD_X7_counted kM_X7_48 kI_X7_counted kS_X7_counted kN_X7 ⟨(Nat.le_of_ble_eq_true rfl), (Nat.le_of_ble_eq_true rfl)⟩ dX7_copy_27 rfl rfl rfl (by decide) rfl (Nat.le_of_ble_eq_true rfl) (Nat.le_of_ble_eq_true rfl) (Nat.le_of_ble_eq_true rfl) (fun _ => rfl) (fun _ => rfl) (fun r4 => ?_)
    exact A_retI rfl dX7_copy_30
  · subst hz
    try dsimp only
    refine A_aload (pc := 19) (i := 7) dX7_copy_19 rfl ?_
    refine A_ifnonnull (pc := 21) (tgt := 31) dX7_copy_21 (by decide) (fun hz => ?_) (fun k5 hz => ?_)
    · subst hz
      try dsimp only
      refine A_aload_n (pc := 24) (i := 0) dX7_copy_24 rfl rfl ?_
      refine A_ldc (pc := 25) (v := (-1000001 : Int32)) dX7_copy_25 kK_X7_60 ?_
      refine A_callV (pc := 27) (M' := mX7_counted) (As := [vi (-1000001 : Int32)]) (st := []) (0, 0) (fun r6 => [vi r6.1]) (fun r6 => r6.2) (a_X7_counted (-1000001 : Int32) h) kD_X7_counted kM_X7_48 kI_X7_counted kS_X7_counted kN_X7 ⟨(Nat.le_of_ble_eq_true rfl), (Nat.le_of_ble_eq_true rfl)⟩ dX7_copy_27 rfl rfl rfl (by decide) rfl (Nat.le_of_ble_eq_true rfl) (Nat.le_of_ble_eq_true rfl) (Nat.le_of_ble_eq_true rfl) (fun _ => rfl) (fun _ => rfl) (fun r6 => ?_)
      exact A_retI rfl dX7_copy_30
    · subst hz
      try dsimp only
      refine A_aload (pc := 31) (i := 6) dX7_copy_31 rfl ?_
      refine A_callV (pc := 33) (M' := mX6_isMissing) (As := []) (st := []) (0, 0) (fun r7 => [vi (bi r7)]) (fun _ => h) (a_X6_isMissing k3 h) kD_X6_isMissing kM_X7_198 kI_X6_isMissing kS_X6_isMissing kN_X6 ⟨(Nat.le_of_ble_eq_true rfl), (Nat.le_of_ble_eq_true rfl)⟩ dX7_copy_33 rfl rfl rfl (by decide) rfl (Nat.le_of_ble_eq_true rfl) (Nat.le_of_ble_eq_true rfl) (Nat.le_of_ble_eq_true rfl) (fun _ => rfl) (fun _ => rfl) (fun r7 => ?_)
      refine A_ifb_ne (pc := 36) (tgt := 47) dX7_copy_36 (by decide) ?_ ?_
      · refine A_aload_n (pc := 47) (i := 0) dX7_copy_47 rfl rfl ?_
        refine A_ldc (pc := 48) (v := (-1000006 : Int32)) dX7_copy_48 kK_X7_201 ?_
        refine A_callV (pc := 50) (M' := mX7_counted) (As := [vi (-1000006 : Int32)]) (st := []) (0, 0) (fun r8 => [vi r8.1]) (fun r8 => r8.2) (a_X7_counted (-1000006 : Int32) h) kD_X7_counted kM_X7_48 kI_X7_counted kS_X7_counted kN_X7 ⟨(Nat.le_of_ble_eq_true rfl), (Nat.le_of_ble_eq_true rfl)⟩ dX7_copy_50 rfl rfl rfl (by decide) rfl (Nat.le_of_ble_eq_true rfl) (Nat.le_of_ble_eq_true rfl) (Nat.le_of_ble_eq_true rfl) (fun _ => rfl) (fun _ => rfl) (fun r8 => ?_)
        exact A_retI rfl dX7_copy_53
      · refine A_aload (pc := 39) (i := 7) dX7_copy_39 rfl ?_
        refine A_callV (pc := 41) (M' := mX6_isMissing) (As := []) (st := []) (0, 0) (fun r9 => [vi (bi r9)]) (fun _ => h) (a_X6_isMissing k5 h) kD_X6_isMissing kM_X7_198 kI_X6_isMissing kS_X6_isMissing kN_X6 ⟨(Nat.le_of_ble_eq_true rfl), (Nat.le_of_ble_eq_true rfl)⟩ dX7_copy_41 rfl rfl rfl (by decide) rfl (Nat.le_of_ble_eq_true rfl) (Nat.le_of_ble_eq_true rfl) (Nat.le_of_ble_eq_true rfl) (fun _ => rfl) (fun _ => rfl) (fun r9 => ?_)
        refine A_ifb_eq (pc := 44) (tgt := 54) dX7_copy_44 (by decide) ?_ ?_
        · refine A_aload (pc := 54) (i := 6) dX7_copy_54 rfl ?_
          refine A_getI (pc := 56) (k := 1) clX6 (Nat.le_of_ble_eq_true rfl) dX7_copy_56 kF_X7_208 rfl ?_
          refine A_aload (pc := 59) (i := 7) dX7_copy_59 rfl ?_
          refine A_getI (pc := 61) (k := 1) clX6 (Nat.le_of_ble_eq_true rfl) dX7_copy_61 kF_X7_208 rfl ?_
          refine A_icmp_eq (pc := 64) (tgt := 74) dX7_copy_64 (by decide) ?_ ?_
          · refine A_aload (pc := 74) (i := 6) dX7_copy_74 rfl ?_
            refine A_iload_n (pc := 76) (i := 2) dX7_copy_76 rfl rfl ?_
            refine A_iload (pc := 77) (i := 5) dX7_copy_77 rfl ?_
            refine A_callV (pc := 79) (M' := mX6_hasNumbers) (As := [vi x2, vi x5]) (st := []) (0, 0) (fun r10 => [vi (bi r10)]) (fun _ => h) (a_X6_hasNumbers k3 x2 x5 h) kD_X6_hasNumbers kM_X7_202 kI_X6_hasNumbers kS_X6_hasNumbers kN_X6 ⟨(Nat.le_of_ble_eq_true rfl), (Nat.le_of_ble_eq_true rfl)⟩ dX7_copy_79 rfl rfl rfl (by decide) rfl (Nat.le_of_ble_eq_true rfl) (Nat.le_of_ble_eq_true rfl) (Nat.le_of_ble_eq_true rfl) (fun _ => rfl) (fun _ => rfl) (fun r10 => ?_)
            refine A_ifb_eq (pc := 82) (tgt := 97) dX7_copy_82 (by decide) ?_ ?_
            · refine A_aload_n (pc := 97) (i := 0) dX7_copy_97 rfl rfl ?_
              refine A_ldc (pc := 98) (v := (-1000001 : Int32)) dX7_copy_98 kK_X7_60 ?_
              refine A_callV (pc := 100) (M' := mX7_counted) (As := [vi (-1000001 : Int32)]) (st := []) (0, 0) (fun r11 => [vi r11.1]) (fun r11 => r11.2) (a_X7_counted (-1000001 : Int32) h) kD_X7_counted kM_X7_48 kI_X7_counted kS_X7_counted kN_X7 ⟨(Nat.le_of_ble_eq_true rfl), (Nat.le_of_ble_eq_true rfl)⟩ dX7_copy_100 rfl rfl rfl (by decide) rfl (Nat.le_of_ble_eq_true rfl) (Nat.le_of_ble_eq_true rfl) (Nat.le_of_ble_eq_true rfl) (fun _ => rfl) (fun _ => rfl) (fun r11 => ?_)
              exact A_retI rfl dX7_copy_103
            · refine A_aload (pc := 85) (i := 7) dX7_copy_85 rfl ?_
              refine A_iload (pc := 87) (i := 4) dX7_copy_87 rfl ?_
              refine A_iload (pc := 89) (i := 5) dX7_copy_89 rfl ?_
              refine A_callV (pc := 91) (M' := mX6_hasNumbers) (As := [vi x4, vi x5]) (st := []) (0, 0) (fun r12 => [vi (bi r12)]) (fun _ => h) (a_X6_hasNumbers k5 x4 x5 h) kD_X6_hasNumbers kM_X7_202 kI_X6_hasNumbers kS_X6_hasNumbers kN_X6 ⟨(Nat.le_of_ble_eq_true rfl), (Nat.le_of_ble_eq_true rfl)⟩ dX7_copy_91 rfl rfl rfl (by decide) rfl (Nat.le_of_ble_eq_true rfl) (Nat.le_of_ble_eq_true rfl) (Nat.le_of_ble_eq_true rfl) (fun _ => rfl) (fun _ => rfl) (fun r12 => ?_)
              refine A_ifb_ne (pc := 94) (tgt := 104) dX7_copy_94 (by decide) ?_ ?_
              · refine A_aload (pc := 104) (i := 6) dX7_copy_104 rfl ?_
                refine A_getS (pc := 106) (k := 0) (tp := 23) clX6 (Nat.le_of_ble_eq_true rfl) dX7_copy_106 kF_X7_211 rfl rfl rfl ?_
                refine A_iload_n (pc := 109) (i := 2) dX7_copy_109 rfl rfl ?_
                refine A_aload (pc := 110) (i := 7) dX7_copy_110 rfl ?_
                refine A_getS (pc := 112) (k := 0) (tp := 23) clX6 (Nat.le_of_ble_eq_true rfl) dX7_copy_112 kF_X7_211 rfl rfl rfl ?_
                refine A_iload (pc := 115) (i := 4) dX7_copy_115 rfl ?_
                refine A_iload (pc := 117) (i := 5) dX7_copy_117 rfl ?_
                refine A_copy (pc := 119) (t := 23) (N := 8) (by decide) (by decide) rfl (by decide) dX7_copy_119 kM_acopy kV_acopy kT_acopy kN_J10 (Nat.le_of_ble_eq_true rfl) (Nat.le_of_ble_eq_true rfl) ?_
                refine A_iload (pc := 122) (i := 5) dX7_copy_122 rfl ?_
                exact A_retI rfl dX7_copy_124
              · refine A_aload_n (pc := 97) (i := 0) dX7_copy_97 rfl rfl ?_
                refine A_ldc (pc := 98) (v := (-1000001 : Int32)) dX7_copy_98 kK_X7_60 ?_
                refine A_callV (pc := 100) (M' := mX7_counted) (As := [vi (-1000001 : Int32)]) (st := []) (0, 0) (fun r13 => [vi r13.1]) (fun r13 => r13.2) (a_X7_counted (-1000001 : Int32) h) kD_X7_counted kM_X7_48 kI_X7_counted kS_X7_counted kN_X7 ⟨(Nat.le_of_ble_eq_true rfl), (Nat.le_of_ble_eq_true rfl)⟩ dX7_copy_100 rfl rfl rfl (by decide) rfl (Nat.le_of_ble_eq_true rfl) (Nat.le_of_ble_eq_true rfl) (Nat.le_of_ble_eq_true rfl) (fun _ => rfl) (fun _ => rfl) (fun r13 => ?_)
                exact A_retI rfl dX7_copy_103
          · refine A_aload_n (pc := 67) (i := 0) dX7_copy_67 rfl rfl ?_
            refine A_ldc (pc := 68) (v := (-1000003 : Int32)) dX7_copy_68 kK_X7_90 ?_
            refine A_callV (pc := 70) (M' := mX7_counted) (As := [vi (-1000003 : Int32)]) (st := []) (0, 0) (fun r14 => [vi r14.1]) (fun r14 => r14.2) (a_X7_counted (-1000003 : Int32) h) kD_X7_counted kM_X7_48 kI_X7_counted kS_X7_counted kN_X7 ⟨(Nat.le_of_ble_eq_true rfl), (Nat.le_of_ble_eq_true rfl)⟩ dX7_copy_70 rfl rfl rfl (by decide) rfl (Nat.le_of_ble_eq_true rfl) (Nat.le_of_ble_eq_true rfl) (Nat.le_of_ble_eq_true rfl) (fun _ => rfl) (fun _ => rfl) (fun r14 => ?_)
            exact A_retI rfl dX7_copy_73
        · refine A_aload_n (pc := 47) (i := 0) dX7_copy_47 rfl rfl ?_
          refine A_ldc (pc := 48) (v := (-1000006 : Int32)) dX7_copy_48 kK_X7_201 ?_
          refine A_callV (pc := 50) (M' := mX7_counted) (As := [vi (-1000006 : Int32)]) (st := []) (0, 0) (fun r15 => [vi r15.1]) (fun r15 => r15.2) (a_X7_counted (-1000006 : Int32) h) kD_X7_counted kM_X7_48 kI_X7_counted kS_X7_counted kN_X7 ⟨(Nat.le_of_ble_eq_true rfl), (Nat.le_of_ble_eq_true rfl)⟩ dX7_copy_50 rfl rfl rfl (by decide) rfl (Nat.le_of_ble_eq_true rfl) (Nat.le_of_ble_eq_true rfl) (Nat.le_of_ble_eq_true rfl) (fun _ => rfl) (fun _ => rfl) (fun r15 => ?_)
          exact A_retI rfl dX7_copy_53

abbrev mX7_read : MD := (yX7_read, cX7_read, 5, (some .int), { frames := 5, cells := 0, slots := 0, locals := 119 }, none)
theorem kD_X7_read : CodeIn mX7_read 2 := ⟨kC_X7_read, by decide +kernel⟩
def fL_X7_read_45 : Nat → Int32 → Nat → Int32 → Hp → Option (Int32 × Hp)
  | 0, _, _, _, _ => none
  | n + 1, x2, i3, x4, h => (if (gI h 6 i3 2) ≤ x4 then (some (x4, h)) else ((f_X6_numberAt i3 x4 h).bind fun r8 => ((f_X5_layOutermost r8 x2 h).bind fun r9 => (if r9.1 < 0 then (some (x4, r9.2)) else ((fL_X7_read_45 n) x2 i3 (x4 + 1) r9.2)))))
set_option maxRecDepth 100000 in
set_option maxHeartbeats 4000000 in
theorem aL_X7_read_45 : ∀ (n : Nat) (x2 : Int32) (i3 : Nat) (x4 : Int32) (h : Hp), Aw eI U0 mX7_read (0, 0) U0 45 [some (vr 7 (some 0)), none, some (vi x2), some (vr 6 (some i3)), some (vi x4)] [] h (fL_X7_read_45 n x2 i3 x4 h) := by
  intro n
  induction n with
  | zero =>
    intro x2 i3 x4 h
    exact Aw.none
  | succ n ih =>
    intro x2 i3 x4 h
    show Aw _ _ _ _ _ _ _ _ _ (fL_X7_read_45 (n + 1) x2 i3 x4 h)
    unfold fL_X7_read_45
    refine A_iload (pc := 45) (i := 4) dX7_read_45 rfl ?_
    refine A_aload_n (pc := 47) (i := 3) dX7_read_47 rfl rfl ?_
    refine A_getI (pc := 48) (k := 2) clX6 (Nat.le_of_ble_eq_true rfl) dX7_read_48 kF_X7_221 rfl ?_
    refine A_icmp_ge (pc := 51) (tgt := 77) dX7_read_51 (by decide) ?_ ?_
    · refine A_iload (pc := 77) (i := 4) dX7_read_77 rfl ?_
      exact A_retI rfl dX7_read_79
    · refine A_aload_n (pc := 54) (i := 0) dX7_read_54 rfl rfl ?_
      refine A_getS (pc := 55) (k := 0) (tp := 5) clX7 (Nat.le_of_ble_eq_true rfl) dX7_read_55 kF_X7_10 rfl rfl rfl ?_
      refine A_aload_n (pc := 58) (i := 3) dX7_read_58 rfl rfl ?_
      refine A_iload (pc := 59) (i := 4) dX7_read_59 rfl ?_
      refine A_callV (pc := 61) (M' := mX6_numberAt) (As := [vi x4]) (st := [vr 5 (some 0)]) (0, 0) (fun r8 => [vi r8, vr 5 (some 0)]) (fun _ => h) (a_X6_numberAt i3 x4 h) kD_X6_numberAt kM_X7_224 kI_X6_numberAt kS_X6_numberAt kN_X6 ⟨(Nat.le_of_ble_eq_true rfl), (Nat.le_of_ble_eq_true rfl)⟩ dX7_read_61 rfl rfl rfl (by decide) rfl (Nat.le_of_ble_eq_true rfl) (Nat.le_of_ble_eq_true rfl) (Nat.le_of_ble_eq_true rfl) (fun _ => rfl) (fun _ => rfl) (fun r8 => ?_)
      refine A_iload_n (pc := 64) (i := 2) dX7_read_64 rfl rfl ?_
      refine A_callV (pc := 65) (M' := mX5_layOutermost) (As := [vi r8, vi x2]) (st := []) (0, 0) (fun r9 => [vi r9.1]) (fun r9 => r9.2) (a_X5_layOutermost r8 x2 h) kD_X5_layOutermost kM_X7_106 kI_X5_layOutermost kS_X5_layOutermost kN_X5 ⟨(Nat.le_of_ble_eq_true rfl), (Nat.le_of_ble_eq_true rfl)⟩ dX7_read_65 rfl rfl rfl (by decide) rfl (Nat.le_of_ble_eq_true rfl) (Nat.le_of_ble_eq_true rfl) (Nat.le_of_ble_eq_true rfl) (fun _ => rfl) (fun _ => rfl) (fun r9 => ?_)
      refine A_if_lt (pc := 68) (tgt := 77) dX7_read_68 (by decide) ?_ ?_
      · refine A_iload (pc := 77) (i := 4) dX7_read_77 rfl ?_
        exact A_retI rfl dX7_read_79
      · refine A_iinc (pc := 71) (i := 4) (v := (x4 + 1)) (ls2 := [some (vr 7 (some 0)), none, some (vi x2), some (vr 6 (some i3)), some (vi (x4 + 1))]) dX7_read_71 rfl rfl (Nat.le_of_ble_eq_true rfl) rfl ?_
        refine A_goto (pc := 74) (tgt := 45) dX7_read_74 (by decide) ?_
        exact Aw.weak (ls' := [some (vr 7 (some 0)), none, some (vi x2), some (vr 6 (some i3)), some (vi (x4 + 1))]) ⟨rfl, ⟨rfl, ⟨rfl, ⟨rfl, trivial⟩⟩⟩⟩ (ih x2 i3 (x4 + 1) r9.2)
def f_X7_read (x1 : Int32) (x2 : Int32) (h : Hp) : Option (Int32 × Hp) := ((f_X7_sheetOf x1 h).bind fun r1 => (match r1 with | none => ((f_X7_counted (-1000001 : Int32) h).bind fun r3 => (some (r3.1, r3.2))) | some k2 => ((f_X5_berthOf x2 h).bind fun r4 => (match r4 with | none => ((f_X7_counted (-1000001 : Int32) h).bind fun r6 => (some (r6.1, r6.2))) | some k5 => ((f_X6_isMissing k2 h).bind fun r7 => (if r7 = true then ((f_X7_counted (-1000006 : Int32) h).bind fun r10 => (some (r10.1, r10.2))) else (fL_X7_read_45 FU x2 k2 (0 : Int32) h)))))))
set_option maxRecDepth 100000 in
set_option maxHeartbeats 4000000 in
theorem a_X7_read (x1 : Int32) (x2 : Int32) (h : Hp) : CtA eI mX7_read U0 U0 [vr 7 (some 0), vi x1, vi x2] h (f_X7_read x1 x2 h) := by
  refine Ct.of (ls := [some (vr 7 (some 0)), some (vi x1), some (vi x2), none, none]) (n := 2) (by decide +kernel) rfl rfl rfl ?_
  unfold f_X7_read
  refine A_aload_n (pc := 0) (i := 0) dX7_read_0 rfl rfl ?_
  refine A_iload_n (pc := 1) (i := 1) dX7_read_1 rfl rfl ?_
  refine A_callV (pc := 2) (M' := mX7_sheetOf) (As := [vi x1]) (st := []) (0, 0) (fun r1 => [vr 6 r1]) (fun _ => h) (a_X7_sheetOf x1 h) kD_X7_sheetOf kM_X7_191 kI_X7_sheetOf kS_X7_sheetOf kN_X7 ⟨(Nat.le_of_ble_eq_true rfl), (Nat.le_of_ble_eq_true rfl)⟩ dX7_read_2 rfl rfl rfl (by decide) rfl (Nat.le_of_ble_eq_true rfl) (Nat.le_of_ble_eq_true rfl) (Nat.le_of_ble_eq_true rfl) (fun _ => rfl) (fun _ => rfl) (fun r1 => ?_)
  refine A_astore_n (pc := 5) (i := 3) (ls2 := [some (vr 7 (some 0)), some (vi x1), some (vi x2), some (vr 6 r1), none]) dX7_read_5 rfl (Nat.le_of_ble_eq_true rfl) rfl ?_
  refine A_aload_n (pc := 6) (i := 3) dX7_read_6 rfl rfl ?_
  refine A_ifnull (pc := 7) (tgt := 21) dX7_read_7 (by decide) (fun hz => ?_) (fun k2 hz => ?_)
  · subst hz
    try dsimp only
    refine A_aload_n (pc := 21) (i := 0) dX7_read_21 rfl rfl ?_
    refine A_ldc (pc := 22) (v := (-1000001 : Int32)) dX7_read_22 kK_X7_60 ?_
    refine A_callV (pc := 24) (M' := mX7_counted) (As := [vi (-1000001 : Int32)]) (st := []) (0, 0) (fun r3 => [vi r3.1]) (fun r3 => r3.2) (a_X7_counted (-1000001 : Int32) h) kD_X7_counted kM_X7_48 kI_X7_counted kS_X7_counted kN_X7 ⟨(Nat.le_of_ble_eq_true rfl), (Nat.le_of_ble_eq_true rfl)⟩ dX7_read_24 rfl rfl rfl (by decide) rfl (Nat.le_of_ble_eq_true rfl) (Nat.le_of_ble_eq_true rfl) (Nat.le_of_ble_eq_true rfl) (fun _ => rfl) (fun _ => rfl) (fun r3 => ?_)
    exact A_retI rfl dX7_read_27
  · subst hz
    try dsimp only
    refine A_aload_n (pc := 10) (i := 0) dX7_read_10 rfl rfl ?_
    refine A_getS (pc := 11) (k := 0) (tp := 5) clX7 (Nat.le_of_ble_eq_true rfl) dX7_read_11 kF_X7_10 rfl rfl rfl ?_
    refine A_iload_n (pc := 14) (i := 2) dX7_read_14 rfl rfl ?_
    refine A_callV (pc := 15) (M' := mX5_berthOf) (As := [vi x2]) (st := []) (0, 0) (fun r4 => [vr 0 r4]) (fun _ => h) (a_X5_berthOf x2 h) kD_X5_berthOf kM_X7_94 kI_X5_berthOf kS_X5_berthOf kN_X5 ⟨(Nat.le_of_ble_eq_true rfl), (Nat.le_of_ble_eq_true rfl)⟩ dX7_read_15 rfl rfl rfl (by decide) rfl (Nat.le_of_ble_eq_true rfl) (Nat.le_of_ble_eq_true rfl) (Nat.le_of_ble_eq_true rfl) (fun _ => rfl) (fun _ => rfl) (fun r4 => ?_)
    refine A_ifnonnull (pc := 18) (tgt := 28) dX7_read_18 (by decide) (fun hz => ?_) (fun k5 hz => ?_)
    · subst hz
      try dsimp only
      refine A_aload_n (pc := 21) (i := 0) dX7_read_21 rfl rfl ?_
      refine A_ldc (pc := 22) (v := (-1000001 : Int32)) dX7_read_22 kK_X7_60 ?_
      refine A_callV (pc := 24) (M' := mX7_counted) (As := [vi (-1000001 : Int32)]) (st := []) (0, 0) (fun r6 => [vi r6.1]) (fun r6 => r6.2) (a_X7_counted (-1000001 : Int32) h) kD_X7_counted kM_X7_48 kI_X7_counted kS_X7_counted kN_X7 ⟨(Nat.le_of_ble_eq_true rfl), (Nat.le_of_ble_eq_true rfl)⟩ dX7_read_24 rfl rfl rfl (by decide) rfl (Nat.le_of_ble_eq_true rfl) (Nat.le_of_ble_eq_true rfl) (Nat.le_of_ble_eq_true rfl) (fun _ => rfl) (fun _ => rfl) (fun r6 => ?_)
      exact A_retI rfl dX7_read_27
    · subst hz
      try dsimp only
      refine A_aload_n (pc := 28) (i := 3) dX7_read_28 rfl rfl ?_
      refine A_callV (pc := 29) (M' := mX6_isMissing) (As := []) (st := []) (0, 0) (fun r7 => [vi (bi r7)]) (fun _ => h) (a_X6_isMissing k2 h) kD_X6_isMissing kM_X7_198 kI_X6_isMissing kS_X6_isMissing kN_X6 ⟨(Nat.le_of_ble_eq_true rfl), (Nat.le_of_ble_eq_true rfl)⟩ dX7_read_29 rfl rfl rfl (by decide) rfl (Nat.le_of_ble_eq_true rfl) (Nat.le_of_ble_eq_true rfl) (Nat.le_of_ble_eq_true rfl) (fun _ => rfl) (fun _ => rfl) (fun r7 => ?_)
      refine A_ifb_eq (pc := 32) (tgt := 42) dX7_read_32 (by decide) ?_ ?_
      · refine A_iconst (pc := 42) (v := (0 : Int32)) dX7_read_42 (by decide) ?_
        refine A_istore (pc := 43) (i := 4) (ls2 := [some (vr 7 (some 0)), some (vi x1), some (vi x2), some (vr 6 (some k2)), some (vi (0 : Int32))]) dX7_read_43 (Nat.le_of_ble_eq_true rfl) rfl ?_
        exact Aw.weak (ls' := [some (vr 7 (some 0)), none, some (vi x2), some (vr 6 (some k2)), some (vi (0 : Int32))]) ⟨rfl, ⟨rfl, ⟨rfl, ⟨rfl, trivial⟩⟩⟩⟩ (aL_X7_read_45 FU x2 k2 (0 : Int32) h)
      · refine A_aload_n (pc := 35) (i := 0) dX7_read_35 rfl rfl ?_
        refine A_ldc (pc := 36) (v := (-1000006 : Int32)) dX7_read_36 kK_X7_201 ?_
        refine A_callV (pc := 38) (M' := mX7_counted) (As := [vi (-1000006 : Int32)]) (st := []) (0, 0) (fun r10 => [vi r10.1]) (fun r10 => r10.2) (a_X7_counted (-1000006 : Int32) h) kD_X7_counted kM_X7_48 kI_X7_counted kS_X7_counted kN_X7 ⟨(Nat.le_of_ble_eq_true rfl), (Nat.le_of_ble_eq_true rfl)⟩ dX7_read_38 rfl rfl rfl (by decide) rfl (Nat.le_of_ble_eq_true rfl) (Nat.le_of_ble_eq_true rfl) (Nat.le_of_ble_eq_true rfl) (fun _ => rfl) (fun _ => rfl) (fun r10 => ?_)
        exact A_retI rfl dX7_read_41

abbrev mX7_told : MD := (yX7_told, cX7_told, 2, (some .int), { frames := 2, cells := 0, slots := 0, locals := 45 }, none)
theorem kD_X7_told : CodeIn mX7_told 1 := ⟨kC_X7_told, by decide +kernel⟩
def f_X7_told (x1 : Int32) (h : Hp) : Option (Int32 × Hp) := (nif x1 0 [(some ((gI h 5 0 2), h)), (some ((gI h 5 0 3), h)), ((f_X5_countLying h).bind fun r2 => (some (r2, h))), (some ((gI h 2 0 0), h)), (some ((gI h 3 0 5), h)), (some ((gI h 3 0 4), h)), (some ((gI h 5 0 5), h)), (some ((gI h 7 0 5), h))] ((f_X7_counted (-1000001 : Int32) h).bind fun r1 => (some (r1.1, r1.2))))
set_option maxRecDepth 100000 in
set_option maxHeartbeats 4000000 in
theorem a_X7_told (x1 : Int32) (h : Hp) : CtA eI mX7_told U0 U0 [vr 7 (some 0), vi x1] h (f_X7_told x1 h) := by
  refine Ct.of (ls := [some (vr 7 (some 0)), some (vi x1)]) (n := 0) (by decide +kernel) rfl rfl rfl ?_
  unfold f_X7_told
  refine A_iload_n (pc := 0) (i := 1) dX7_told_0 rfl rfl ?_
  refine A_table (pc := 1) (tgt := 109) dX7_told_1 (by simp) (by simp) (by decide) ?_ (AwL_c 48 (by decide) ?_ (AwL_c 56 (by decide) ?_ (AwL_c 64 (by decide) ?_ (AwL_c 72 (by decide) ?_ (AwL_c 80 (by decide) ?_ (AwL_c 88 (by decide) ?_ (AwL_c 96 (by decide) ?_ (AwL_c 104 (by decide) ?_ AwL_n))))))))
  · refine A_aload_n (pc := 109) (i := 0) dX7_told_109 rfl rfl ?_
    refine A_ldc (pc := 110) (v := (-1000001 : Int32)) dX7_told_110 kK_X7_60 ?_
    refine A_callV (pc := 112) (M' := mX7_counted) (As := [vi (-1000001 : Int32)]) (st := []) (0, 0) (fun r1 => [vi r1.1]) (fun r1 => r1.2) (a_X7_counted (-1000001 : Int32) h) kD_X7_counted kM_X7_48 kI_X7_counted kS_X7_counted kN_X7 ⟨(Nat.le_of_ble_eq_true rfl), (Nat.le_of_ble_eq_true rfl)⟩ dX7_told_112 rfl rfl rfl (by decide) rfl (Nat.le_of_ble_eq_true rfl) (Nat.le_of_ble_eq_true rfl) (Nat.le_of_ble_eq_true rfl) (fun _ => rfl) (fun _ => rfl) (fun r1 => ?_)
    exact A_retI rfl dX7_told_115
  · refine A_aload_n (pc := 48) (i := 0) dX7_told_48 rfl rfl ?_
    refine A_getS (pc := 49) (k := 0) (tp := 5) clX7 (Nat.le_of_ble_eq_true rfl) dX7_told_49 kF_X7_10 rfl rfl rfl ?_
    refine A_getI (pc := 52) (k := 2) clX5 (Nat.le_of_ble_eq_true rfl) dX7_told_52 kF_X7_227 rfl ?_
    exact A_retI rfl dX7_told_55
  · refine A_aload_n (pc := 56) (i := 0) dX7_told_56 rfl rfl ?_
    refine A_getS (pc := 57) (k := 0) (tp := 5) clX7 (Nat.le_of_ble_eq_true rfl) dX7_told_57 kF_X7_10 rfl rfl rfl ?_
    refine A_getI (pc := 60) (k := 3) clX5 (Nat.le_of_ble_eq_true rfl) dX7_told_60 kF_X7_230 rfl ?_
    exact A_retI rfl dX7_told_63
  · refine A_aload_n (pc := 64) (i := 0) dX7_told_64 rfl rfl ?_
    refine A_getS (pc := 65) (k := 0) (tp := 5) clX7 (Nat.le_of_ble_eq_true rfl) dX7_told_65 kF_X7_10 rfl rfl rfl ?_
    refine A_callV (pc := 68) (M' := mX5_countLying) (As := []) (st := []) (0, 0) (fun r2 => [vi r2]) (fun _ => h) (a_X5_countLying h) kD_X5_countLying kM_X7_233 kI_X5_countLying kS_X5_countLying kN_X5 ⟨(Nat.le_of_ble_eq_true rfl), (Nat.le_of_ble_eq_true rfl)⟩ dX7_told_68 rfl rfl rfl (by decide) rfl (Nat.le_of_ble_eq_true rfl) (Nat.le_of_ble_eq_true rfl) (Nat.le_of_ble_eq_true rfl) (fun _ => rfl) (fun _ => rfl) (fun r2 => ?_)
    exact A_retI rfl dX7_told_71
  · refine A_aload_n (pc := 72) (i := 0) dX7_told_72 rfl rfl ?_
    refine A_getS (pc := 73) (k := 1) (tp := 2) clX7 (Nat.le_of_ble_eq_true rfl) dX7_told_73 kF_X7_19 rfl rfl rfl ?_
    refine A_getI (pc := 76) (k := 0) clX2 (Nat.le_of_ble_eq_true rfl) dX7_told_76 kF_X7_170 rfl ?_
    exact A_retI rfl dX7_told_79
  · refine A_aload_n (pc := 80) (i := 0) dX7_told_80 rfl rfl ?_
    refine A_getS (pc := 81) (k := 3) (tp := 3) clX7 (Nat.le_of_ble_eq_true rfl) dX7_told_81 kF_X7_33 rfl rfl rfl ?_
    refine A_getI (pc := 84) (k := 5) clX3 (Nat.le_of_ble_eq_true rfl) dX7_told_84 kF_X7_236 rfl ?_
    exact A_retI rfl dX7_told_87
  · refine A_aload_n (pc := 88) (i := 0) dX7_told_88 rfl rfl ?_
    refine A_getS (pc := 89) (k := 3) (tp := 3) clX7 (Nat.le_of_ble_eq_true rfl) dX7_told_89 kF_X7_33 rfl rfl rfl ?_
    refine A_getI (pc := 92) (k := 4) clX3 (Nat.le_of_ble_eq_true rfl) dX7_told_92 kF_X7_239 rfl ?_
    exact A_retI rfl dX7_told_95
  · refine A_aload_n (pc := 96) (i := 0) dX7_told_96 rfl rfl ?_
    refine A_getS (pc := 97) (k := 0) (tp := 5) clX7 (Nat.le_of_ble_eq_true rfl) dX7_told_97 kF_X7_10 rfl rfl rfl ?_
    refine A_getI (pc := 100) (k := 5) clX5 (Nat.le_of_ble_eq_true rfl) dX7_told_100 kF_X7_242 rfl ?_
    exact A_retI rfl dX7_told_103
  · refine A_aload_n (pc := 104) (i := 0) dX7_told_104 rfl rfl ?_
    refine A_getI (pc := 105) (k := 5) clX7 (Nat.le_of_ble_eq_true rfl) dX7_told_105 kF_X7_245 rfl ?_
    exact A_retI rfl dX7_told_108

abbrev mX8_init : MD := (yX8_init, cX8_init, 1, none, { frames := 1, cells := 32, slots := 348, locals := 20 }, none)
theorem kD_X8_init : CodeIn mX8_init 0 := ⟨kC_X8_init, by decide +kernel⟩
def f_X8_init (h : Hp) : Option Hp := (if gN h 30 = 0 then (if gN (wN h 30) 31 = 0 then (if gN (wN (wN h 30) 31) 32 = 0 then (if gN (wN (wN (wN h 30) 31) 32) 33 = 0 then (if gN (wN (wN (wN (wN h 30) 31) 32) 33) 34 = 0 then (if gN (wN (wN (wN (wN (wN h 30) 31) 32) 33) 34) 35 = 0 then (if gN (wN (wN (wN (wN (wN (wN h 30) 31) 32) 33) 34) 35) 36 = 0 then (if gN (wN (wN (wN (wN (wN (wN (wN h 30) 31) 32) 33) 34) 35) 36) 37 = 0 then (if gN (wN (wN (wN (wN (wN (wN (wN (wN h 30) 31) 32) 33) 34) 35) 36) 37) 38 = 0 then (if gN (wN (wN (wN (wN (wN (wN (wN (wN (wN h 30) 31) 32) 33) 34) 35) 36) 37) 38) 39 = 0 then (if gN (wN (wN (wN (wN (wN (wN (wN (wN (wN (wN h 30) 31) 32) 33) 34) 35) 36) 37) 38) 39) 40 = 0 then (if gN (wN (wN (wN (wN (wN (wN (wN (wN (wN (wN (wN h 30) 31) 32) 33) 34) 35) 36) 37) 38) 39) 40) 41 = 0 then (if gN (wN (wN (wN (wN (wN (wN (wN (wN (wN (wN (wN (wN h 30) 31) 32) 33) 34) 35) 36) 37) 38) 39) 40) 41) 42 = 0 then (if gN (wN (wN (wN (wN (wN (wN (wN (wN (wN (wN (wN (wN (wN h 30) 31) 32) 33) 34) 35) 36) 37) 38) 39) 40) 41) 42) 43 = 0 then (if gN (wN (wN (wN (wN (wN (wN (wN (wN (wN (wN (wN (wN (wN (wN h 30) 31) 32) 33) 34) 35) 36) 37) 38) 39) 40) 41) 42) 43) 44 = 0 then (if gN (wI (wN (wN (wN (wN (wN (wN (wN (wN (wN (wN (wN (wN (wN (wN (wN h 30) 31) 32) 33) 34) 35) 36) 37) 38) 39) 40) 41) 42) 43) 44) 8 0 20 (16777215 : Int32)) 45 = 0 then (if gN (wN (wI (wN (wN (wN (wN (wN (wN (wN (wN (wN (wN (wN (wN (wN (wN (wN h 30) 31) 32) 33) 34) 35) 36) 37) 38) 39) 40) 41) 42) 43) 44) 8 0 20 (16777215 : Int32)) 45) 46 = 0 then (if gN (wN (wN (wI (wN (wN (wN (wN (wN (wN (wN (wN (wN (wN (wN (wN (wN (wN (wN h 30) 31) 32) 33) 34) 35) 36) 37) 38) 39) 40) 41) 42) 43) 44) 8 0 20 (16777215 : Int32)) 45) 46) 47 = 0 then (if gN (wN (wN (wN (wI (wN (wN (wN (wN (wN (wN (wN (wN (wN (wN (wN (wN (wN (wN (wN h 30) 31) 32) 33) 34) 35) 36) 37) 38) 39) 40) 41) 42) 43) 44) 8 0 20 (16777215 : Int32)) 45) 46) 47) 48 = 0 then (if gN (wN (wN (wN (wN (wI (wN (wN (wN (wN (wN (wN (wN (wN (wN (wN (wN (wN (wN (wN (wN h 30) 31) 32) 33) 34) 35) 36) 37) 38) 39) 40) 41) 42) 43) 44) 8 0 20 (16777215 : Int32)) 45) 46) 47) 48) 49 = 0 then (if gN (wN (wN (wN (wN (wN (wI (wN (wN (wN (wN (wN (wN (wN (wN (wN (wN (wN (wN (wN (wN (wN h 30) 31) 32) 33) 34) 35) 36) 37) 38) 39) 40) 41) 42) 43) 44) 8 0 20 (16777215 : Int32)) 45) 46) 47) 48) 49) 50 = 0 then (if gN (wN (wN (wN (wN (wN (wN (wI (wN (wN (wN (wN (wN (wN (wN (wN (wN (wN (wN (wN (wN (wN (wN h 30) 31) 32) 33) 34) 35) 36) 37) 38) 39) 40) 41) 42) 43) 44) 8 0 20 (16777215 : Int32)) 45) 46) 47) 48) 49) 50) 51 = 0 then (if gN (wN (wN (wN (wN (wN (wN (wN (wI (wN (wN (wN (wN (wN (wN (wN (wN (wN (wN (wN (wN (wN (wN (wN h 30) 31) 32) 33) 34) 35) 36) 37) 38) 39) 40) 41) 42) 43) 44) 8 0 20 (16777215 : Int32)) 45) 46) 47) 48) 49) 50) 51) 52 = 0 then (if gN (wN (wN (wN (wN (wN (wN (wN (wN (wI (wN (wN (wN (wN (wN (wN (wN (wN (wN (wN (wN (wN (wN (wN (wN h 30) 31) 32) 33) 34) 35) 36) 37) 38) 39) 40) 41) 42) 43) 44) 8 0 20 (16777215 : Int32)) 45) 46) 47) 48) 49) 50) 51) 52) 53 = 0 then (if gN (wN (wN (wN (wN (wN (wN (wN (wN (wN (wI (wN (wN (wN (wN (wN (wN (wN (wN (wN (wN (wN (wN (wN (wN (wN h 30) 31) 32) 33) 34) 35) 36) 37) 38) 39) 40) 41) 42) 43) 44) 8 0 20 (16777215 : Int32)) 45) 46) 47) 48) 49) 50) 51) 52) 53) 54 = 0 then (if gN (wN (wN (wN (wN (wN (wN (wN (wN (wN (wN (wI (wN (wN (wN (wN (wN (wN (wN (wN (wN (wN (wN (wN (wN (wN (wN h 30) 31) 32) 33) 34) 35) 36) 37) 38) 39) 40) 41) 42) 43) 44) 8 0 20 (16777215 : Int32)) 45) 46) 47) 48) 49) 50) 51) 52) 53) 54) 55 = 0 then (if gN (wN (wN (wN (wN (wN (wN (wN (wN (wN (wN (wN (wI (wN (wN (wN (wN (wN (wN (wN (wN (wN (wN (wN (wN (wN (wN (wN h 30) 31) 32) 33) 34) 35) 36) 37) 38) 39) 40) 41) 42) 43) 44) 8 0 20 (16777215 : Int32)) 45) 46) 47) 48) 49) 50) 51) 52) 53) 54) 55) 56 = 0 then (if gN (wN (wN (wN (wN (wN (wN (wN (wN (wN (wN (wN (wN (wI (wN (wN (wN (wN (wN (wN (wN (wN (wN (wN (wN (wN (wN (wN (wN h 30) 31) 32) 33) 34) 35) 36) 37) 38) 39) 40) 41) 42) 43) 44) 8 0 20 (16777215 : Int32)) 45) 46) 47) 48) 49) 50) 51) 52) 53) 54) 55) 56) 57 = 0 then (if gN (wN (wN (wN (wN (wN (wN (wN (wN (wN (wN (wN (wN (wN (wI (wN (wN (wN (wN (wN (wN (wN (wN (wN (wN (wN (wN (wN (wN (wN h 30) 31) 32) 33) 34) 35) 36) 37) 38) 39) 40) 41) 42) 43) 44) 8 0 20 (16777215 : Int32)) 45) 46) 47) 48) 49) 50) 51) 52) 53) 54) 55) 56) 57) 58 = 0 then (if gN (wN (wN (wN (wN (wN (wN (wN (wN (wN (wN (wN (wN (wN (wN (wI (wN (wN (wN (wN (wN (wN (wN (wN (wN (wN (wN (wN (wN (wN (wN h 30) 31) 32) 33) 34) 35) 36) 37) 38) 39) 40) 41) 42) 43) 44) 8 0 20 (16777215 : Int32)) 45) 46) 47) 48) 49) 50) 51) 52) 53) 54) 55) 56) 57) 58) 59 = 0 then (if gN (wN (wN (wN (wN (wN (wN (wN (wN (wN (wN (wN (wN (wN (wN (wN (wI (wN (wN (wN (wN (wN (wN (wN (wN (wN (wN (wN (wN (wN (wN (wN h 30) 31) 32) 33) 34) 35) 36) 37) 38) 39) 40) 41) 42) 43) 44) 8 0 20 (16777215 : Int32)) 45) 46) 47) 48) 49) 50) 51) 52) 53) 54) 55) 56) 57) 58) 59) 60 = 0 then (if gN (wN (wN (wN (wN (wN (wN (wN (wN (wN (wN (wN (wN (wN (wN (wN (wN (wI (wN (wN (wN (wN (wN (wN (wN (wN (wN (wN (wN (wN (wN (wN (wN h 30) 31) 32) 33) 34) 35) 36) 37) 38) 39) 40) 41) 42) 43) 44) 8 0 20 (16777215 : Int32)) 45) 46) 47) 48) 49) 50) 51) 52) 53) 54) 55) 56) 57) 58) 59) 60) 61 = 0 then (some (wN (wN (wN (wN (wN (wN (wN (wN (wN (wN (wN (wN (wN (wN (wN (wN (wN (wI (wN (wN (wN (wN (wN (wN (wN (wN (wN (wN (wN (wN (wN (wN (wN h 30) 31) 32) 33) 34) 35) 36) 37) 38) 39) 40) 41) 42) 43) 44) 8 0 20 (16777215 : Int32)) 45) 46) 47) 48) 49) 50) 51) 52) 53) 54) 55) 56) 57) 58) 59) 60) 61)) else none) else none) else none) else none) else none) else none) else none) else none) else none) else none) else none) else none) else none) else none) else none) else none) else none) else none) else none) else none) else none) else none) else none) else none) else none) else none) else none) else none) else none) else none) else none) else none)
set_option maxRecDepth 100000 in
set_option maxHeartbeats 4000000 in
theorem a_X8_init (U : US) (h : Hp) : CtA eV mX8_init U (uS (uS (uS (uS (uS (uS (uS (uS (uS (uS (uS (uS (uS (uS (uS (uS (uS (uS (uS (uS (uS (uS (uS (uS (uS (uS (uS (uS (uS (uS (uS (uS U 8 0 1) 8 0 2) 8 0 3) 8 0 4) 8 0 7) 8 0 8) 8 0 9) 8 0 10) 8 0 11) 8 0 12) 8 0 13) 8 0 14) 8 0 15) 8 0 17) 8 0 18) 8 0 22) 8 0 23) 8 0 24) 8 0 25) 8 0 27) 8 0 28) 8 0 29) 8 0 32) 8 0 33) 8 0 34) 8 0 35) 8 0 36) 8 0 37) 8 0 41) 8 0 42) 8 0 43) 8 0 44) [vr 8 (some 0)] h (f_X8_init h) := by
  refine Ct.of (ls := [some (vr 8 (some 0))]) (n := 0) (by decide +kernel) rfl rfl rfl ?_
  unfold f_X8_init
  refine A_aload_n (pc := 0) (i := 0) dX8_init_0 rfl rfl ?_
  refine A_objInit (pc := 1) dX8_init_1 kM_X8_1 kI_obj kC_obj (Nat.le_of_ble_eq_true rfl) (Nat.le_of_ble_eq_true rfl) ?_
  refine A_aload_n (pc := 4) (i := 0) dX8_init_4 rfl rfl ?_
  refine A_iconst (pc := 5) (v := (4 : Int32)) dX8_init_5 (by decide) ?_
  refine A_newI (pc := 6) (t := 30) (i := 0) (ty := .int) (31, 344) (by decide) (by decide) dX8_init_6 rfl kA_int rfl (by decide) (by decide) (by decide) (fun _ => rfl) (by decide) (by decide) rfl (Nat.le_of_ble_eq_true rfl) (Nat.le_of_ble_eq_true rfl) ?_
  refine A_putS (pc := 8) (k := 1) (tp := 30) clX8 (Nat.le_of_ble_eq_true rfl) dX8_init_8 kF_X8_9 rfl rfl (by decide) (Or.inr ⟨rfl, rfl⟩) (fun _ => ⟨rfl, rfl⟩) ?_
  refine A_aload_n (pc := 11) (i := 0) dX8_init_11 rfl rfl ?_
  refine A_iconst (pc := 12) (v := (4 : Int32)) dX8_init_12 (by decide) ?_
  refine A_newI (pc := 13) (t := 31) (i := 0) (ty := .int) (30, 340) (by decide) (by decide) dX8_init_13 rfl kA_int rfl (by decide) (by decide) (by decide) (fun _ => rfl) (by decide) (by decide) rfl (Nat.le_of_ble_eq_true rfl) (Nat.le_of_ble_eq_true rfl) ?_
  refine A_putS (pc := 15) (k := 2) (tp := 31) clX8 (Nat.le_of_ble_eq_true rfl) dX8_init_15 kF_X8_13 rfl rfl (by decide) (Or.inr ⟨rfl, rfl⟩) (fun _ => ⟨rfl, rfl⟩) ?_
  refine A_aload_n (pc := 18) (i := 0) dX8_init_18 rfl rfl ?_
  refine A_iconst (pc := 19) (v := (4 : Int32)) dX8_init_19 (by decide) ?_
  refine A_newI (pc := 20) (t := 32) (i := 0) (ty := .int) (29, 336) (by decide) (by decide) dX8_init_20 rfl kA_int rfl (by decide) (by decide) (by decide) (fun _ => rfl) (by decide) (by decide) rfl (Nat.le_of_ble_eq_true rfl) (Nat.le_of_ble_eq_true rfl) ?_
  refine A_putS (pc := 22) (k := 3) (tp := 32) clX8 (Nat.le_of_ble_eq_true rfl) dX8_init_22 kF_X8_16 rfl rfl (by decide) (Or.inr ⟨rfl, rfl⟩) (fun _ => ⟨rfl, rfl⟩) ?_
  refine A_aload_n (pc := 25) (i := 0) dX8_init_25 rfl rfl ?_
  refine A_iconst (pc := 26) (v := (4 : Int32)) dX8_init_26 (by decide) ?_
  refine A_newI (pc := 27) (t := 33) (i := 0) (ty := .int) (28, 332) (by decide) (by decide) dX8_init_27 rfl kA_int rfl (by decide) (by decide) (by decide) (fun _ => rfl) (by decide) (by decide) rfl (Nat.le_of_ble_eq_true rfl) (Nat.le_of_ble_eq_true rfl) ?_
  refine A_putS (pc := 29) (k := 4) (tp := 33) clX8 (Nat.le_of_ble_eq_true rfl) dX8_init_29 kF_X8_19 rfl rfl (by decide) (Or.inr ⟨rfl, rfl⟩) (fun _ => ⟨rfl, rfl⟩) ?_
  refine A_aload_n (pc := 32) (i := 0) dX8_init_32 rfl rfl ?_
  refine A_bipush (pc := 33) (v := (8 : Int32)) dX8_init_33 (by decide) ?_
  refine A_newI (pc := 35) (t := 34) (i := 0) (ty := .int) (27, 324) (by decide) (by decide) dX8_init_35 rfl kA_int rfl (by decide) (by decide) (by decide) (fun _ => rfl) (by decide) (by decide) rfl (Nat.le_of_ble_eq_true rfl) (Nat.le_of_ble_eq_true rfl) ?_
  refine A_putS (pc := 37) (k := 7) (tp := 34) clX8 (Nat.le_of_ble_eq_true rfl) dX8_init_37 kF_X8_22 rfl rfl (by decide) (Or.inr ⟨rfl, rfl⟩) (fun _ => ⟨rfl, rfl⟩) ?_
  refine A_aload_n (pc := 40) (i := 0) dX8_init_40 rfl rfl ?_
  refine A_bipush (pc := 41) (v := (8 : Int32)) dX8_init_41 (by decide) ?_
  refine A_newI (pc := 43) (t := 35) (i := 0) (ty := .int) (26, 316) (by decide) (by decide) dX8_init_43 rfl kA_int rfl (by decide) (by decide) (by decide) (fun _ => rfl) (by decide) (by decide) rfl (Nat.le_of_ble_eq_true rfl) (Nat.le_of_ble_eq_true rfl) ?_
  refine A_putS (pc := 45) (k := 8) (tp := 35) clX8 (Nat.le_of_ble_eq_true rfl) dX8_init_45 kF_X8_25 rfl rfl (by decide) (Or.inr ⟨rfl, rfl⟩) (fun _ => ⟨rfl, rfl⟩) ?_
  refine A_aload_n (pc := 48) (i := 0) dX8_init_48 rfl rfl ?_
  refine A_bipush (pc := 49) (v := (8 : Int32)) dX8_init_49 (by decide) ?_
  refine A_newI (pc := 51) (t := 36) (i := 0) (ty := .int) (25, 308) (by decide) (by decide) dX8_init_51 rfl kA_int rfl (by decide) (by decide) (by decide) (fun _ => rfl) (by decide) (by decide) rfl (Nat.le_of_ble_eq_true rfl) (Nat.le_of_ble_eq_true rfl) ?_
  refine A_putS (pc := 53) (k := 9) (tp := 36) clX8 (Nat.le_of_ble_eq_true rfl) dX8_init_53 kF_X8_28 rfl rfl (by decide) (Or.inr ⟨rfl, rfl⟩) (fun _ => ⟨rfl, rfl⟩) ?_
  refine A_aload_n (pc := 56) (i := 0) dX8_init_56 rfl rfl ?_
  refine A_bipush (pc := 57) (v := (8 : Int32)) dX8_init_57 (by decide) ?_
  refine A_newI (pc := 59) (t := 37) (i := 0) (ty := .boolean) (24, 300) (by decide) (by decide) dX8_init_59 rfl kA_boolean rfl (by decide) (by decide) (by decide) (fun _ => rfl) (by decide) (by decide) rfl (Nat.le_of_ble_eq_true rfl) (Nat.le_of_ble_eq_true rfl) ?_
  refine A_putS (pc := 61) (k := 10) (tp := 37) clX8 (Nat.le_of_ble_eq_true rfl) dX8_init_61 kF_X8_31 rfl rfl (by decide) (Or.inr ⟨rfl, rfl⟩) (fun _ => ⟨rfl, rfl⟩) ?_
  refine A_aload_n (pc := 64) (i := 0) dX8_init_64 rfl rfl ?_
  refine A_bipush (pc := 65) (v := (8 : Int32)) dX8_init_65 (by decide) ?_
  refine A_newI (pc := 67) (t := 38) (i := 0) (ty := .int) (23, 292) (by decide) (by decide) dX8_init_67 rfl kA_int rfl (by decide) (by decide) (by decide) (fun _ => rfl) (by decide) (by decide) rfl (Nat.le_of_ble_eq_true rfl) (Nat.le_of_ble_eq_true rfl) ?_
  refine A_putS (pc := 69) (k := 11) (tp := 38) clX8 (Nat.le_of_ble_eq_true rfl) dX8_init_69 kF_X8_35 rfl rfl (by decide) (Or.inr ⟨rfl, rfl⟩) (fun _ => ⟨rfl, rfl⟩) ?_
  refine A_aload_n (pc := 72) (i := 0) dX8_init_72 rfl rfl ?_
  refine A_bipush (pc := 73) (v := (8 : Int32)) dX8_init_73 (by decide) ?_
  refine A_newI (pc := 75) (t := 39) (i := 0) (ty := .int) (22, 284) (by decide) (by decide) dX8_init_75 rfl kA_int rfl (by decide) (by decide) (by decide) (fun _ => rfl) (by decide) (by decide) rfl (Nat.le_of_ble_eq_true rfl) (Nat.le_of_ble_eq_true rfl) ?_
  refine A_putS (pc := 77) (k := 12) (tp := 39) clX8 (Nat.le_of_ble_eq_true rfl) dX8_init_77 kF_X8_38 rfl rfl (by decide) (Or.inr ⟨rfl, rfl⟩) (fun _ => ⟨rfl, rfl⟩) ?_
  refine A_aload_n (pc := 80) (i := 0) dX8_init_80 rfl rfl ?_
  refine A_bipush (pc := 81) (v := (8 : Int32)) dX8_init_81 (by decide) ?_
  refine A_newI (pc := 83) (t := 40) (i := 0) (ty := .int) (21, 276) (by decide) (by decide) dX8_init_83 rfl kA_int rfl (by decide) (by decide) (by decide) (fun _ => rfl) (by decide) (by decide) rfl (Nat.le_of_ble_eq_true rfl) (Nat.le_of_ble_eq_true rfl) ?_
  refine A_putS (pc := 85) (k := 13) (tp := 40) clX8 (Nat.le_of_ble_eq_true rfl) dX8_init_85 kF_X8_41 rfl rfl (by decide) (Or.inr ⟨rfl, rfl⟩) (fun _ => ⟨rfl, rfl⟩) ?_
  refine A_aload_n (pc := 88) (i := 0) dX8_init_88 rfl rfl ?_
  refine A_bipush (pc := 89) (v := (8 : Int32)) dX8_init_89 (by decide) ?_
  refine A_newI (pc := 91) (t := 41) (i := 0) (ty := .int) (20, 268) (by decide) (by decide) dX8_init_91 rfl kA_int rfl (by decide) (by decide) (by decide) (fun _ => rfl) (by decide) (by decide) rfl (Nat.le_of_ble_eq_true rfl) (Nat.le_of_ble_eq_true rfl) ?_
  refine A_putS (pc := 93) (k := 14) (tp := 41) clX8 (Nat.le_of_ble_eq_true rfl) dX8_init_93 kF_X8_44 rfl rfl (by decide) (Or.inr ⟨rfl, rfl⟩) (fun _ => ⟨rfl, rfl⟩) ?_
  refine A_aload_n (pc := 96) (i := 0) dX8_init_96 rfl rfl ?_
  refine A_bipush (pc := 97) (v := (8 : Int32)) dX8_init_97 (by decide) ?_
  refine A_newI (pc := 99) (t := 42) (i := 0) (ty := .int) (19, 260) (by decide) (by decide) dX8_init_99 rfl kA_int rfl (by decide) (by decide) (by decide) (fun _ => rfl) (by decide) (by decide) rfl (Nat.le_of_ble_eq_true rfl) (Nat.le_of_ble_eq_true rfl) ?_
  refine A_putS (pc := 101) (k := 15) (tp := 42) clX8 (Nat.le_of_ble_eq_true rfl) dX8_init_101 kF_X8_47 rfl rfl (by decide) (Or.inr ⟨rfl, rfl⟩) (fun _ => ⟨rfl, rfl⟩) ?_
  refine A_aload_n (pc := 104) (i := 0) dX8_init_104 rfl rfl ?_
  refine A_iconst (pc := 105) (v := (4 : Int32)) dX8_init_105 (by decide) ?_
  refine A_newI (pc := 106) (t := 43) (i := 0) (ty := .int) (18, 256) (by decide) (by decide) dX8_init_106 rfl kA_int rfl (by decide) (by decide) (by decide) (fun _ => rfl) (by decide) (by decide) rfl (Nat.le_of_ble_eq_true rfl) (Nat.le_of_ble_eq_true rfl) ?_
  refine A_putS (pc := 108) (k := 17) (tp := 43) clX8 (Nat.le_of_ble_eq_true rfl) dX8_init_108 kF_X8_50 rfl rfl (by decide) (Or.inr ⟨rfl, rfl⟩) (fun _ => ⟨rfl, rfl⟩) ?_
  refine A_aload_n (pc := 111) (i := 0) dX8_init_111 rfl rfl ?_
  refine A_bipush (pc := 112) (v := (24 : Int32)) dX8_init_112 (by decide) ?_
  refine A_newI (pc := 114) (t := 44) (i := 0) (ty := .int) (17, 232) (by decide) (by decide) dX8_init_114 rfl kA_int rfl (by decide) (by decide) (by decide) (fun _ => rfl) (by decide) (by decide) rfl (Nat.le_of_ble_eq_true rfl) (Nat.le_of_ble_eq_true rfl) ?_
  refine A_putS (pc := 116) (k := 18) (tp := 44) clX8 (Nat.le_of_ble_eq_true rfl) dX8_init_116 kF_X8_53 rfl rfl (by decide) (Or.inr ⟨rfl, rfl⟩) (fun _ => ⟨rfl, rfl⟩) ?_
  refine A_aload_n (pc := 119) (i := 0) dX8_init_119 rfl rfl ?_
  refine A_ldc (pc := 120) (v := (16777215 : Int32)) dX8_init_120 kK_X8_56 ?_
  refine A_putI (pc := 122) (k := 20) clX8 (Nat.le_of_ble_eq_true rfl) dX8_init_122 kF_X8_57 rfl (Or.inl rfl) ⟨rfl, rfl⟩ ?_
  refine A_aload_n (pc := 125) (i := 0) dX8_init_125 rfl rfl ?_
  refine A_bipush (pc := 126) (v := (8 : Int32)) dX8_init_126 (by decide) ?_
  refine A_newI (pc := 128) (t := 45) (i := 0) (ty := .int) (16, 224) (by decide) (by decide) dX8_init_128 rfl kA_int rfl (by decide) (by decide) (by decide) (fun _ => rfl) (by decide) (by decide) rfl (Nat.le_of_ble_eq_true rfl) (Nat.le_of_ble_eq_true rfl) ?_
  refine A_putS (pc := 130) (k := 22) (tp := 45) clX8 (Nat.le_of_ble_eq_true rfl) dX8_init_130 kF_X8_61 rfl rfl (by decide) (Or.inr ⟨rfl, rfl⟩) (fun _ => ⟨rfl, rfl⟩) ?_
  refine A_aload_n (pc := 133) (i := 0) dX8_init_133 rfl rfl ?_
  refine A_bipush (pc := 134) (v := (8 : Int32)) dX8_init_134 (by decide) ?_
  refine A_newI (pc := 136) (t := 46) (i := 0) (ty := .int) (15, 216) (by decide) (by decide) dX8_init_136 rfl kA_int rfl (by decide) (by decide) (by decide) (fun _ => rfl) (by decide) (by decide) rfl (Nat.le_of_ble_eq_true rfl) (Nat.le_of_ble_eq_true rfl) ?_
  refine A_putS (pc := 138) (k := 23) (tp := 46) clX8 (Nat.le_of_ble_eq_true rfl) dX8_init_138 kF_X8_64 rfl rfl (by decide) (Or.inr ⟨rfl, rfl⟩) (fun _ => ⟨rfl, rfl⟩) ?_
  refine A_aload_n (pc := 141) (i := 0) dX8_init_141 rfl rfl ?_
  refine A_bipush (pc := 142) (v := (8 : Int32)) dX8_init_142 (by decide) ?_
  refine A_newI (pc := 144) (t := 47) (i := 0) (ty := .int) (14, 208) (by decide) (by decide) dX8_init_144 rfl kA_int rfl (by decide) (by decide) (by decide) (fun _ => rfl) (by decide) (by decide) rfl (Nat.le_of_ble_eq_true rfl) (Nat.le_of_ble_eq_true rfl) ?_
  refine A_putS (pc := 146) (k := 24) (tp := 47) clX8 (Nat.le_of_ble_eq_true rfl) dX8_init_146 kF_X8_67 rfl rfl (by decide) (Or.inr ⟨rfl, rfl⟩) (fun _ => ⟨rfl, rfl⟩) ?_
  refine A_aload_n (pc := 149) (i := 0) dX8_init_149 rfl rfl ?_
  refine A_bipush (pc := 150) (v := (80 : Int32)) dX8_init_150 (by decide) ?_
  refine A_newI (pc := 152) (t := 48) (i := 0) (ty := .int) (13, 128) (by decide) (by decide) dX8_init_152 rfl kA_int rfl (by decide) (by decide) (by decide) (fun _ => rfl) (by decide) (by decide) rfl (Nat.le_of_ble_eq_true rfl) (Nat.le_of_ble_eq_true rfl) ?_
  refine A_putS (pc := 154) (k := 25) (tp := 48) clX8 (Nat.le_of_ble_eq_true rfl) dX8_init_154 kF_X8_70 rfl rfl (by decide) (Or.inr ⟨rfl, rfl⟩) (fun _ => ⟨rfl, rfl⟩) ?_
  refine A_aload_n (pc := 157) (i := 0) dX8_init_157 rfl rfl ?_
  refine A_iconst (pc := 158) (v := (4 : Int32)) dX8_init_158 (by decide) ?_
  refine A_newI (pc := 159) (t := 49) (i := 0) (ty := .int) (12, 124) (by decide) (by decide) dX8_init_159 rfl kA_int rfl (by decide) (by decide) (by decide) (fun _ => rfl) (by decide) (by decide) rfl (Nat.le_of_ble_eq_true rfl) (Nat.le_of_ble_eq_true rfl) ?_
  refine A_putS (pc := 161) (k := 27) (tp := 49) clX8 (Nat.le_of_ble_eq_true rfl) dX8_init_161 kF_X8_73 rfl rfl (by decide) (Or.inr ⟨rfl, rfl⟩) (fun _ => ⟨rfl, rfl⟩) ?_
  refine A_aload_n (pc := 164) (i := 0) dX8_init_164 rfl rfl ?_
  refine A_iconst (pc := 165) (v := (4 : Int32)) dX8_init_165 (by decide) ?_
  refine A_newI (pc := 166) (t := 50) (i := 0) (ty := .int) (11, 120) (by decide) (by decide) dX8_init_166 rfl kA_int rfl (by decide) (by decide) (by decide) (fun _ => rfl) (by decide) (by decide) rfl (Nat.le_of_ble_eq_true rfl) (Nat.le_of_ble_eq_true rfl) ?_
  refine A_putS (pc := 168) (k := 28) (tp := 50) clX8 (Nat.le_of_ble_eq_true rfl) dX8_init_168 kF_X8_76 rfl rfl (by decide) (Or.inr ⟨rfl, rfl⟩) (fun _ => ⟨rfl, rfl⟩) ?_
  refine A_aload_n (pc := 171) (i := 0) dX8_init_171 rfl rfl ?_
  refine A_bipush (pc := 172) (v := (32 : Int32)) dX8_init_172 (by decide) ?_
  refine A_newI (pc := 174) (t := 51) (i := 0) (ty := .int) (10, 88) (by decide) (by decide) dX8_init_174 rfl kA_int rfl (by decide) (by decide) (by decide) (fun _ => rfl) (by decide) (by decide) rfl (Nat.le_of_ble_eq_true rfl) (Nat.le_of_ble_eq_true rfl) ?_
  refine A_putS (pc := 176) (k := 29) (tp := 51) clX8 (Nat.le_of_ble_eq_true rfl) dX8_init_176 kF_X8_79 rfl rfl (by decide) (Or.inr ⟨rfl, rfl⟩) (fun _ => ⟨rfl, rfl⟩) ?_
  refine A_aload_n (pc := 179) (i := 0) dX8_init_179 rfl rfl ?_
  refine A_bipush (pc := 180) (v := (6 : Int32)) dX8_init_180 (by decide) ?_
  refine A_newI (pc := 182) (t := 52) (i := 0) (ty := .int) (9, 82) (by decide) (by decide) dX8_init_182 rfl kA_int rfl (by decide) (by decide) (by decide) (fun _ => rfl) (by decide) (by decide) rfl (Nat.le_of_ble_eq_true rfl) (Nat.le_of_ble_eq_true rfl) ?_
  refine A_putS (pc := 184) (k := 32) (tp := 52) clX8 (Nat.le_of_ble_eq_true rfl) dX8_init_184 kF_X8_82 rfl rfl (by decide) (Or.inr ⟨rfl, rfl⟩) (fun _ => ⟨rfl, rfl⟩) ?_
  refine A_aload_n (pc := 187) (i := 0) dX8_init_187 rfl rfl ?_
  refine A_bipush (pc := 188) (v := (10 : Int32)) dX8_init_188 (by decide) ?_
  refine A_newI (pc := 190) (t := 53) (i := 0) (ty := .int) (8, 72) (by decide) (by decide) dX8_init_190 rfl kA_int rfl (by decide) (by decide) (by decide) (fun _ => rfl) (by decide) (by decide) rfl (Nat.le_of_ble_eq_true rfl) (Nat.le_of_ble_eq_true rfl) ?_
  refine A_putS (pc := 192) (k := 33) (tp := 53) clX8 (Nat.le_of_ble_eq_true rfl) dX8_init_192 kF_X8_85 rfl rfl (by decide) (Or.inr ⟨rfl, rfl⟩) (fun _ => ⟨rfl, rfl⟩) ?_
  refine A_aload_n (pc := 195) (i := 0) dX8_init_195 rfl rfl ?_
  refine A_bipush (pc := 196) (v := (11 : Int32)) dX8_init_196 (by decide) ?_
  refine A_newI (pc := 198) (t := 54) (i := 0) (ty := .int) (7, 61) (by decide) (by decide) dX8_init_198 rfl kA_int rfl (by decide) (by decide) (by decide) (fun _ => rfl) (by decide) (by decide) rfl (Nat.le_of_ble_eq_true rfl) (Nat.le_of_ble_eq_true rfl) ?_
  refine A_putS (pc := 200) (k := 34) (tp := 54) clX8 (Nat.le_of_ble_eq_true rfl) dX8_init_200 kF_X8_88 rfl rfl (by decide) (Or.inr ⟨rfl, rfl⟩) (fun _ => ⟨rfl, rfl⟩) ?_
  refine A_aload_n (pc := 203) (i := 0) dX8_init_203 rfl rfl ?_
  refine A_bipush (pc := 204) (v := (11 : Int32)) dX8_init_204 (by decide) ?_
  refine A_newI (pc := 206) (t := 55) (i := 0) (ty := .int) (6, 50) (by decide) (by decide) dX8_init_206 rfl kA_int rfl (by decide) (by decide) (by decide) (fun _ => rfl) (by decide) (by decide) rfl (Nat.le_of_ble_eq_true rfl) (Nat.le_of_ble_eq_true rfl) ?_
  refine A_putS (pc := 208) (k := 35) (tp := 55) clX8 (Nat.le_of_ble_eq_true rfl) dX8_init_208 kF_X8_91 rfl rfl (by decide) (Or.inr ⟨rfl, rfl⟩) (fun _ => ⟨rfl, rfl⟩) ?_
  refine A_aload_n (pc := 211) (i := 0) dX8_init_211 rfl rfl ?_
  refine A_bipush (pc := 212) (v := (11 : Int32)) dX8_init_212 (by decide) ?_
  refine A_newI (pc := 214) (t := 56) (i := 0) (ty := .int) (5, 39) (by decide) (by decide) dX8_init_214 rfl kA_int rfl (by decide) (by decide) (by decide) (fun _ => rfl) (by decide) (by decide) rfl (Nat.le_of_ble_eq_true rfl) (Nat.le_of_ble_eq_true rfl) ?_
  refine A_putS (pc := 216) (k := 36) (tp := 56) clX8 (Nat.le_of_ble_eq_true rfl) dX8_init_216 kF_X8_94 rfl rfl (by decide) (Or.inr ⟨rfl, rfl⟩) (fun _ => ⟨rfl, rfl⟩) ?_
  refine A_aload_n (pc := 219) (i := 0) dX8_init_219 rfl rfl ?_
  refine A_bipush (pc := 220) (v := (11 : Int32)) dX8_init_220 (by decide) ?_
  refine A_newI (pc := 222) (t := 57) (i := 0) (ty := .int) (4, 28) (by decide) (by decide) dX8_init_222 rfl kA_int rfl (by decide) (by decide) (by decide) (fun _ => rfl) (by decide) (by decide) rfl (Nat.le_of_ble_eq_true rfl) (Nat.le_of_ble_eq_true rfl) ?_
  refine A_putS (pc := 224) (k := 37) (tp := 57) clX8 (Nat.le_of_ble_eq_true rfl) dX8_init_224 kF_X8_97 rfl rfl (by decide) (Or.inr ⟨rfl, rfl⟩) (fun _ => ⟨rfl, rfl⟩) ?_
  refine A_aload_n (pc := 227) (i := 0) dX8_init_227 rfl rfl ?_
  refine A_bipush (pc := 228) (v := (6 : Int32)) dX8_init_228 (by decide) ?_
  refine A_newI (pc := 230) (t := 58) (i := 0) (ty := .int) (3, 22) (by decide) (by decide) dX8_init_230 rfl kA_int rfl (by decide) (by decide) (by decide) (fun _ => rfl) (by decide) (by decide) rfl (Nat.le_of_ble_eq_true rfl) (Nat.le_of_ble_eq_true rfl) ?_
  refine A_putS (pc := 232) (k := 41) (tp := 58) clX8 (Nat.le_of_ble_eq_true rfl) dX8_init_232 kF_X8_100 rfl rfl (by decide) (Or.inr ⟨rfl, rfl⟩) (fun _ => ⟨rfl, rfl⟩) ?_
  refine A_aload_n (pc := 235) (i := 0) dX8_init_235 rfl rfl ?_
  refine A_bipush (pc := 236) (v := (6 : Int32)) dX8_init_236 (by decide) ?_
  refine A_newI (pc := 238) (t := 59) (i := 0) (ty := .int) (2, 16) (by decide) (by decide) dX8_init_238 rfl kA_int rfl (by decide) (by decide) (by decide) (fun _ => rfl) (by decide) (by decide) rfl (Nat.le_of_ble_eq_true rfl) (Nat.le_of_ble_eq_true rfl) ?_
  refine A_putS (pc := 240) (k := 42) (tp := 59) clX8 (Nat.le_of_ble_eq_true rfl) dX8_init_240 kF_X8_103 rfl rfl (by decide) (Or.inr ⟨rfl, rfl⟩) (fun _ => ⟨rfl, rfl⟩) ?_
  refine A_aload_n (pc := 243) (i := 0) dX8_init_243 rfl rfl ?_
  refine A_bipush (pc := 244) (v := (8 : Int32)) dX8_init_244 (by decide) ?_
  refine A_newI (pc := 246) (t := 60) (i := 0) (ty := .int) (1, 8) (by decide) (by decide) dX8_init_246 rfl kA_int rfl (by decide) (by decide) (by decide) (fun _ => rfl) (by decide) (by decide) rfl (Nat.le_of_ble_eq_true rfl) (Nat.le_of_ble_eq_true rfl) ?_
  refine A_putS (pc := 248) (k := 43) (tp := 60) clX8 (Nat.le_of_ble_eq_true rfl) dX8_init_248 kF_X8_106 rfl rfl (by decide) (Or.inr ⟨rfl, rfl⟩) (fun _ => ⟨rfl, rfl⟩) ?_
  refine A_aload_n (pc := 251) (i := 0) dX8_init_251 rfl rfl ?_
  refine A_bipush (pc := 252) (v := (8 : Int32)) dX8_init_252 (by decide) ?_
  refine A_newI (pc := 254) (t := 61) (i := 0) (ty := .int) (0, 0) (by decide) (by decide) dX8_init_254 rfl kA_int rfl (by decide) (by decide) (by decide) (fun _ => rfl) (by decide) (by decide) rfl (Nat.le_of_ble_eq_true rfl) (Nat.le_of_ble_eq_true rfl) ?_
  refine A_putS (pc := 256) (k := 44) (tp := 61) clX8 (Nat.le_of_ble_eq_true rfl) dX8_init_256 kF_X8_109 rfl rfl (by decide) (Or.inr ⟨rfl, rfl⟩) (fun _ => ⟨rfl, rfl⟩) ?_
  exact A_retV rfl dX8_init_259

abbrev mX8_finding : MD := (yX8_finding, cX8_finding, 2, (some .int), { frames := 0, cells := 0, slots := 0, locals := 0 }, none)
theorem kD_X8_finding : CodeIn mX8_finding 1 := ⟨kC_X8_finding, by decide +kernel⟩
def f_X8_finding (x1 : Int32) (h : Hp) : Option (Int32 × Hp) := (some (x1, (wI h 8 0 30 ((gI h 8 0 30) + (1 : Int32)))))
set_option maxRecDepth 100000 in
set_option maxHeartbeats 4000000 in
theorem a_X8_finding (x1 : Int32) (h : Hp) : CtA eI mX8_finding U0 U0 [vr 8 (some 0), vi x1] h (f_X8_finding x1 h) := by
  refine Ct.of (ls := [some (vr 8 (some 0)), some (vi x1)]) (n := 0) (by decide +kernel) rfl rfl rfl ?_
  unfold f_X8_finding
  refine A_aload_n (pc := 0) (i := 0) dX8_finding_0 rfl rfl ?_
  refine A_dup (pc := 1) dX8_finding_1 (fun _ => cv_catr _ _) ?_
  refine A_getI (pc := 2) (k := 30) clX8 (Nat.le_of_ble_eq_true rfl) dX8_finding_2 kF_X8_112 rfl ?_
  refine A_iconst (pc := 5) (v := (1 : Int32)) dX8_finding_5 (by decide) ?_
  refine A_iadd (pc := 6) dX8_finding_6 ?_
  refine A_putI (pc := 7) (k := 30) clX8 (Nat.le_of_ble_eq_true rfl) dX8_finding_7 kF_X8_112 rfl (Or.inl rfl) ⟨rfl, rfl⟩ ?_
  refine A_iload_n (pc := 10) (i := 1) dX8_finding_10 rfl rfl ?_
  exact A_retI rfl dX8_finding_11

abbrev mX8_within : MD := (yX8_within, cX8_within, 3, (some .boolean), { frames := 0, cells := 0, slots := 0, locals := 0 }, none)
theorem kD_X8_within : CodeIn mX8_within 3 := ⟨kC_X8_within, by decide +kernel⟩
def f_X8_within (x0 : Int32) (x1 : Int32) (x2 : Int32) (h : Hp) : Option Bool := (if x0 < x1 then (some false) else (if x2 < x0 then (some false) else (some true)))
set_option maxRecDepth 100000 in
set_option maxHeartbeats 4000000 in
theorem a_X8_within (x0 : Int32) (x1 : Int32) (x2 : Int32) (h : Hp) : CtA (eBr h) mX8_within U0 U0 [vi x0, vi x1, vi x2] h (f_X8_within x0 x1 x2 h) := by
  refine Ct.of (ls := [some (vi x0), some (vi x1), some (vi x2)]) (n := 0) (by decide +kernel) rfl rfl rfl ?_
  unfold f_X8_within
  refine A_iload_n (pc := 0) (i := 0) dX8_within_0 rfl rfl ?_
  refine A_iload_n (pc := 1) (i := 1) dX8_within_1 rfl rfl ?_
  refine A_icmp_lt (pc := 2) (tgt := 14) dX8_within_2 (by decide) ?_ ?_
  · refine A_iconst (pc := 14) (v := (0 : Int32)) dX8_within_14 (by decide) ?_
    exact A_retBr rfl rfl dX8_within_15
  · refine A_iload_n (pc := 5) (i := 0) dX8_within_5 rfl rfl ?_
    refine A_iload_n (pc := 6) (i := 2) dX8_within_6 rfl rfl ?_
    refine A_icmp_gt (pc := 7) (tgt := 14) dX8_within_7 (by decide) ?_ ?_
    · refine A_iconst (pc := 14) (v := (0 : Int32)) dX8_within_14 (by decide) ?_
      exact A_retBr rfl rfl dX8_within_15
    · refine A_iconst (pc := 10) (v := (1 : Int32)) dX8_within_10 (by decide) ?_
      refine A_goto (pc := 11) (tgt := 15) dX8_within_11 (by decide) ?_
      exact A_retBr rfl rfl dX8_within_15

abbrev mX8_isBerth : MD := (yX8_isBerth, cX8_isBerth, 2, (some .boolean), { frames := 1, cells := 0, slots := 0, locals := 22 }, none)
theorem kD_X8_isBerth : CodeIn mX8_isBerth 1 := ⟨kC_X8_isBerth, by decide +kernel⟩
def f_X8_isBerth (x1 : Int32) (h : Hp) : Option Bool := ((f_X8_within x1 (0 : Int32) ((gI h 8 0 0) - (1 : Int32)) h).bind fun r1 => (some r1))
set_option maxRecDepth 100000 in
set_option maxHeartbeats 4000000 in
theorem a_X8_isBerth (x1 : Int32) (h : Hp) : CtA (eBr h) mX8_isBerth U0 U0 [vr 8 (some 0), vi x1] h (f_X8_isBerth x1 h) := by
  refine Ct.of (ls := [some (vr 8 (some 0)), some (vi x1)]) (n := 0) (by decide +kernel) rfl rfl rfl ?_
  unfold f_X8_isBerth
  refine A_iload_n (pc := 0) (i := 1) dX8_isBerth_0 rfl rfl ?_
  refine A_iconst (pc := 1) (v := (0 : Int32)) dX8_isBerth_1 (by decide) ?_
  refine A_aload_n (pc := 2) (i := 0) dX8_isBerth_2 rfl rfl ?_
  refine A_getI (pc := 3) (k := 0) clX8 (Nat.le_of_ble_eq_true rfl) dX8_isBerth_3 kF_X8_115 rfl ?_
  refine A_iconst (pc := 6) (v := (1 : Int32)) dX8_isBerth_6 (by decide) ?_
  refine A_isub (pc := 7) dX8_isBerth_7 ?_
  refine A_callS (pc := 8) (M' := mX8_within) (As := [vi x1, vi (0 : Int32), vi ((gI h 8 0 0) - (1 : Int32))]) (st := []) (0, 0) (fun r1 => [vi (bi r1)]) (fun _ => h) (a_X8_within x1 (0 : Int32) ((gI h 8 0 0) - (1 : Int32)) h) kD_X8_within kM_X8_118 kT_X8_within kN_X8 ⟨(Nat.le_of_ble_eq_true rfl), (Nat.le_of_ble_eq_true rfl)⟩ dX8_isBerth_8 rfl rfl (Nat.le_of_ble_eq_true rfl) (Nat.le_of_ble_eq_true rfl) (Nat.le_of_ble_eq_true rfl) (fun _ => rfl) (fun _ => rfl) (fun r1 => ?_)
  exact A_retBr rfl rfl dX8_isBerth_11

abbrev mX8_isBoat : MD := (yX8_isBoat, cX8_isBoat, 2, (some .boolean), { frames := 1, cells := 0, slots := 0, locals := 22 }, none)
theorem kD_X8_isBoat : CodeIn mX8_isBoat 1 := ⟨kC_X8_isBoat, by decide +kernel⟩
def f_X8_isBoat (x1 : Int32) (h : Hp) : Option Bool := ((f_X8_within x1 (0 : Int32) ((gI h 8 0 6) - (1 : Int32)) h).bind fun r1 => (some r1))
set_option maxRecDepth 100000 in
set_option maxHeartbeats 4000000 in
theorem a_X8_isBoat (x1 : Int32) (h : Hp) : CtA (eBr h) mX8_isBoat U0 U0 [vr 8 (some 0), vi x1] h (f_X8_isBoat x1 h) := by
  refine Ct.of (ls := [some (vr 8 (some 0)), some (vi x1)]) (n := 0) (by decide +kernel) rfl rfl rfl ?_
  unfold f_X8_isBoat
  refine A_iload_n (pc := 0) (i := 1) dX8_isBoat_0 rfl rfl ?_
  refine A_iconst (pc := 1) (v := (0 : Int32)) dX8_isBoat_1 (by decide) ?_
  refine A_aload_n (pc := 2) (i := 0) dX8_isBoat_2 rfl rfl ?_
  refine A_getI (pc := 3) (k := 6) clX8 (Nat.le_of_ble_eq_true rfl) dX8_isBoat_3 kF_X8_122 rfl ?_
  refine A_iconst (pc := 6) (v := (1 : Int32)) dX8_isBoat_6 (by decide) ?_
  refine A_isub (pc := 7) dX8_isBoat_7 ?_
  refine A_callS (pc := 8) (M' := mX8_within) (As := [vi x1, vi (0 : Int32), vi ((gI h 8 0 6) - (1 : Int32))]) (st := []) (0, 0) (fun r1 => [vi (bi r1)]) (fun _ => h) (a_X8_within x1 (0 : Int32) ((gI h 8 0 6) - (1 : Int32)) h) kD_X8_within kM_X8_118 kT_X8_within kN_X8 ⟨(Nat.le_of_ble_eq_true rfl), (Nat.le_of_ble_eq_true rfl)⟩ dX8_isBoat_8 rfl rfl (Nat.le_of_ble_eq_true rfl) (Nat.le_of_ble_eq_true rfl) (Nat.le_of_ble_eq_true rfl) (fun _ => rfl) (fun _ => rfl) (fun r1 => ?_)
  exact A_retBr rfl rfl dX8_isBoat_11

abbrev mX8_isHour : MD := (yX8_isHour, cX8_isHour, 1, (some .boolean), { frames := 1, cells := 0, slots := 0, locals := 22 }, none)
theorem kD_X8_isHour : CodeIn mX8_isHour 1 := ⟨kC_X8_isHour, by decide +kernel⟩
def f_X8_isHour (x0 : Int32) (h : Hp) : Option Bool := ((f_X8_within x0 (0 : Int32) (23 : Int32) h).bind fun r1 => (some r1))
set_option maxRecDepth 100000 in
set_option maxHeartbeats 4000000 in
theorem a_X8_isHour (x0 : Int32) (h : Hp) : CtA (eBr h) mX8_isHour U0 U0 [vi x0] h (f_X8_isHour x0 h) := by
  refine Ct.of (ls := [some (vi x0)]) (n := 0) (by decide +kernel) rfl rfl rfl ?_
  unfold f_X8_isHour
  refine A_iload_n (pc := 0) (i := 0) dX8_isHour_0 rfl rfl ?_
  refine A_iconst (pc := 1) (v := (0 : Int32)) dX8_isHour_1 (by decide) ?_
  refine A_bipush (pc := 2) (v := (23 : Int32)) dX8_isHour_2 (by decide) ?_
  refine A_callS (pc := 4) (M' := mX8_within) (As := [vi x0, vi (0 : Int32), vi (23 : Int32)]) (st := []) (0, 0) (fun r1 => [vi (bi r1)]) (fun _ => h) (a_X8_within x0 (0 : Int32) (23 : Int32) h) kD_X8_within kM_X8_118 kT_X8_within kN_X8 ⟨(Nat.le_of_ble_eq_true rfl), (Nat.le_of_ble_eq_true rfl)⟩ dX8_isHour_4 rfl rfl (Nat.le_of_ble_eq_true rfl) (Nat.le_of_ble_eq_true rfl) (Nat.le_of_ble_eq_true rfl) (fun _ => rfl) (fun _ => rfl) (fun r1 => ?_)
  exact A_retBr rfl rfl dX8_isHour_7

abbrev mX8_berth : MD := (yX8_berth, cX8_berth, 5, (some .int), { frames := 1, cells := 0, slots := 0, locals := 22 }, none)
theorem kD_X8_berth : CodeIn mX8_berth 4 := ⟨kC_X8_berth, by decide +kernel⟩
def f_X8_berth (x1 : Int32) (x2 : Int32) (x3 : Int32) (x4 : Int32) (h : Hp) : Option (Int32 × Hp) := ((f_X8_within x1 (0 : Int32) (90 : Int32) h).bind fun r1 => (if r1 = true then ((f_X8_within x2 (0 : Int32) (9 : Int32) h).bind fun r3 => (if r3 = true then ((f_X8_within x3 (1 : Int32) (6 : Int32) h).bind fun r5 => (if r5 = true then ((f_X8_within x4 (0 : Int32) (6 : Int32) h).bind fun r7 => (if r7 = true then (if (gI h 8 0 0) = (4 : Int32) then ((f_X8_finding (-1000002 : Int32) h).bind fun r13 => (some (r13.1, r13.2))) else (if 0 ≤ (gI h 8 0 0) ∧ (gI h 8 0 0) < 4 then (hb (wI h 30 0 (Int32.toNatClampNeg (gI h 8 0 0)) x1) fun h8 => (if 0 ≤ (gI h8 8 0 0) ∧ (gI h8 8 0 0) < 4 then (hb (wI h8 31 0 (Int32.toNatClampNeg (gI h8 8 0 0)) x2) fun h9 => (if 0 ≤ (gI h9 8 0 0) ∧ (gI h9 8 0 0) < 4 then (hb (wI h9 32 0 (Int32.toNatClampNeg (gI h9 8 0 0)) x3) fun h10 => (if 0 ≤ (gI h10 8 0 0) ∧ (gI h10 8 0 0) < 4 then (hb (wI h10 33 0 (Int32.toNatClampNeg (gI h10 8 0 0)) x4) fun h11 => (hb (wI h11 8 0 0 ((gI h11 8 0 0) + (1 : Int32))) fun h12 => (some (((gI h12 8 0 0) - (1 : Int32)), h12)))) else none)) else none)) else none)) else none)) else ((f_X8_finding (-1000001 : Int32) h).bind fun r14 => (some (r14.1, r14.2))))) else ((f_X8_finding (-1000001 : Int32) h).bind fun r6 => (some (r6.1, r6.2))))) else ((f_X8_finding (-1000001 : Int32) h).bind fun r4 => (some (r4.1, r4.2))))) else ((f_X8_finding (-1000001 : Int32) h).bind fun r2 => (some (r2.1, r2.2)))))
set_option maxRecDepth 100000 in
set_option maxHeartbeats 4000000 in
theorem a_X8_berth (x1 : Int32) (x2 : Int32) (x3 : Int32) (x4 : Int32) (h : Hp) : CtA eI mX8_berth U0 U0 [vr 8 (some 0), vi x1, vi x2, vi x3, vi x4] h (f_X8_berth x1 x2 x3 x4 h) := by
  refine Ct.of (ls := [some (vr 8 (some 0)), some (vi x1), some (vi x2), some (vi x3), some (vi x4)]) (n := 0) (by decide +kernel) rfl rfl rfl ?_
  unfold f_X8_berth
  refine A_iload_n (pc := 0) (i := 1) dX8_berth_0 rfl rfl ?_
  refine A_iconst (pc := 1) (v := (0 : Int32)) dX8_berth_1 (by decide) ?_
  refine A_bipush (pc := 2) (v := (90 : Int32)) dX8_berth_2 (by decide) ?_
  refine A_callS (pc := 4) (M' := mX8_within) (As := [vi x1, vi (0 : Int32), vi (90 : Int32)]) (st := []) (0, 0) (fun r1 => [vi (bi r1)]) (fun _ => h) (a_X8_within x1 (0 : Int32) (90 : Int32) h) kD_X8_within kM_X8_118 kT_X8_within kN_X8 ⟨(Nat.le_of_ble_eq_true rfl), (Nat.le_of_ble_eq_true rfl)⟩ dX8_berth_4 rfl rfl (Nat.le_of_ble_eq_true rfl) (Nat.le_of_ble_eq_true rfl) (Nat.le_of_ble_eq_true rfl) (fun _ => rfl) (fun _ => rfl) (fun r1 => ?_)
  refine A_ifb_eq (pc := 7) (tgt := 41) dX8_berth_7 (by decide) ?_ ?_
  · refine A_aload_n (pc := 41) (i := 0) dX8_berth_41 rfl rfl ?_
    refine A_ldc (pc := 42) (v := (-1000001 : Int32)) dX8_berth_42 kK_X8_125 ?_
    refine A_callV (pc := 44) (M' := mX8_finding) (As := [vi (-1000001 : Int32)]) (st := []) (0, 0) (fun r2 => [vi r2.1]) (fun r2 => r2.2) (a_X8_finding (-1000001 : Int32) h) kD_X8_finding kM_X8_126 kI_X8_finding kS_X8_finding kN_X8 ⟨(Nat.le_of_ble_eq_true rfl), (Nat.le_of_ble_eq_true rfl)⟩ dX8_berth_44 rfl rfl rfl (by decide) rfl (Nat.le_of_ble_eq_true rfl) (Nat.le_of_ble_eq_true rfl) (Nat.le_of_ble_eq_true rfl) (fun _ => rfl) (fun _ => rfl) (fun r2 => ?_)
    exact A_retI rfl dX8_berth_47
  · refine A_iload_n (pc := 10) (i := 2) dX8_berth_10 rfl rfl ?_
    refine A_iconst (pc := 11) (v := (0 : Int32)) dX8_berth_11 (by decide) ?_
    refine A_bipush (pc := 12) (v := (9 : Int32)) dX8_berth_12 (by decide) ?_
    refine A_callS (pc := 14) (M' := mX8_within) (As := [vi x2, vi (0 : Int32), vi (9 : Int32)]) (st := []) (0, 0) (fun r3 => [vi (bi r3)]) (fun _ => h) (a_X8_within x2 (0 : Int32) (9 : Int32) h) kD_X8_within kM_X8_118 kT_X8_within kN_X8 ⟨(Nat.le_of_ble_eq_true rfl), (Nat.le_of_ble_eq_true rfl)⟩ dX8_berth_14 rfl rfl (Nat.le_of_ble_eq_true rfl) (Nat.le_of_ble_eq_true rfl) (Nat.le_of_ble_eq_true rfl) (fun _ => rfl) (fun _ => rfl) (fun r3 => ?_)
    refine A_ifb_eq (pc := 17) (tgt := 41) dX8_berth_17 (by decide) ?_ ?_
    · refine A_aload_n (pc := 41) (i := 0) dX8_berth_41 rfl rfl ?_
      refine A_ldc (pc := 42) (v := (-1000001 : Int32)) dX8_berth_42 kK_X8_125 ?_
      refine A_callV (pc := 44) (M' := mX8_finding) (As := [vi (-1000001 : Int32)]) (st := []) (0, 0) (fun r4 => [vi r4.1]) (fun r4 => r4.2) (a_X8_finding (-1000001 : Int32) h) kD_X8_finding kM_X8_126 kI_X8_finding kS_X8_finding kN_X8 ⟨(Nat.le_of_ble_eq_true rfl), (Nat.le_of_ble_eq_true rfl)⟩ dX8_berth_44 rfl rfl rfl (by decide) rfl (Nat.le_of_ble_eq_true rfl) (Nat.le_of_ble_eq_true rfl) (Nat.le_of_ble_eq_true rfl) (fun _ => rfl) (fun _ => rfl) (fun r4 => ?_)
      exact A_retI rfl dX8_berth_47
    · refine A_iload_n (pc := 20) (i := 3) dX8_berth_20 rfl rfl ?_
      refine A_iconst (pc := 21) (v := (1 : Int32)) dX8_berth_21 (by decide) ?_
      refine A_bipush (pc := 22) (v := (6 : Int32)) dX8_berth_22 (by decide) ?_
      refine A_callS (pc := 24) (M' := mX8_within) (As := [vi x3, vi (1 : Int32), vi (6 : Int32)]) (st := []) (0, 0) (fun r5 => [vi (bi r5)]) (fun _ => h) (a_X8_within x3 (1 : Int32) (6 : Int32) h) kD_X8_within kM_X8_118 kT_X8_within kN_X8 ⟨(Nat.le_of_ble_eq_true rfl), (Nat.le_of_ble_eq_true rfl)⟩ dX8_berth_24 rfl rfl (Nat.le_of_ble_eq_true rfl) (Nat.le_of_ble_eq_true rfl) (Nat.le_of_ble_eq_true rfl) (fun _ => rfl) (fun _ => rfl) (fun r5 => ?_)
      refine A_ifb_eq (pc := 27) (tgt := 41) dX8_berth_27 (by decide) ?_ ?_
      · refine A_aload_n (pc := 41) (i := 0) dX8_berth_41 rfl rfl ?_
        refine A_ldc (pc := 42) (v := (-1000001 : Int32)) dX8_berth_42 kK_X8_125 ?_
        refine A_callV (pc := 44) (M' := mX8_finding) (As := [vi (-1000001 : Int32)]) (st := []) (0, 0) (fun r6 => [vi r6.1]) (fun r6 => r6.2) (a_X8_finding (-1000001 : Int32) h) kD_X8_finding kM_X8_126 kI_X8_finding kS_X8_finding kN_X8 ⟨(Nat.le_of_ble_eq_true rfl), (Nat.le_of_ble_eq_true rfl)⟩ dX8_berth_44 rfl rfl rfl (by decide) rfl (Nat.le_of_ble_eq_true rfl) (Nat.le_of_ble_eq_true rfl) (Nat.le_of_ble_eq_true rfl) (fun _ => rfl) (fun _ => rfl) (fun r6 => ?_)
        exact A_retI rfl dX8_berth_47
      · refine A_iload (pc := 30) (i := 4) dX8_berth_30 rfl ?_
        refine A_iconst (pc := 32) (v := (0 : Int32)) dX8_berth_32 (by decide) ?_
        refine A_bipush (pc := 33) (v := (6 : Int32)) dX8_berth_33 (by decide) ?_
        refine A_callS (pc := 35) (M' := mX8_within) (As := [vi x4, vi (0 : Int32), vi (6 : Int32)]) (st := []) (0, 0) (fun r7 => [vi (bi r7)]) (fun _ => h) (a_X8_within x4 (0 : Int32) (6 : Int32) h) kD_X8_within kM_X8_118 kT_X8_within kN_X8 ⟨(Nat.le_of_ble_eq_true rfl), (Nat.le_of_ble_eq_true rfl)⟩ dX8_berth_35 rfl rfl (Nat.le_of_ble_eq_true rfl) (Nat.le_of_ble_eq_true rfl) (Nat.le_of_ble_eq_true rfl) (fun _ => rfl) (fun _ => rfl) (fun r7 => ?_)
        refine A_ifb_ne (pc := 38) (tgt := 48) dX8_berth_38 (by decide) ?_ ?_
        · refine A_aload_n (pc := 48) (i := 0) dX8_berth_48 rfl rfl ?_
          refine A_getI (pc := 49) (k := 0) clX8 (Nat.le_of_ble_eq_true rfl) dX8_berth_49 kF_X8_115 rfl ?_
          refine A_iconst (pc := 52) (v := (4 : Int32)) dX8_berth_52 (by decide) ?_
          refine A_icmp_ne (pc := 53) (tgt := 63) dX8_berth_53 (by decide) ?_ ?_
          · refine A_aload_n (pc := 63) (i := 0) dX8_berth_63 rfl rfl ?_
            refine A_getS (pc := 64) (k := 1) (tp := 30) clX8 (Nat.le_of_ble_eq_true rfl) dX8_berth_64 kF_X8_9 rfl rfl rfl ?_
            refine A_aload_n (pc := 67) (i := 0) dX8_berth_67 rfl rfl ?_
            refine A_getI (pc := 68) (k := 0) clX8 (Nat.le_of_ble_eq_true rfl) dX8_berth_68 kF_X8_115 rfl ?_
            refine A_iload_n (pc := 71) (i := 1) dX8_berth_71 rfl rfl ?_
            refine A_iastore (pc := 72) (n := 4) (by decide) (by decide) rfl dX8_berth_72 (by decide) ?_
            refine A_hb (fun h8 => ?_)
            refine A_aload_n (pc := 73) (i := 0) dX8_berth_73 rfl rfl ?_
            refine A_getS (pc := 74) (k := 2) (tp := 31) clX8 (Nat.le_of_ble_eq_true rfl) dX8_berth_74 kF_X8_13 rfl rfl rfl ?_
            refine A_aload_n (pc := 77) (i := 0) dX8_berth_77 rfl rfl ?_
            refine A_getI (pc := 78) (k := 0) clX8 (Nat.le_of_ble_eq_true rfl) dX8_berth_78 kF_X8_115 rfl ?_
            refine A_iload_n (pc := 81) (i := 2) dX8_berth_81 rfl rfl ?_
            refine A_iastore (pc := 82) (n := 4) (by decide) (by decide) rfl dX8_berth_82 (by decide) ?_
            refine A_hb (fun h9 => ?_)
            refine A_aload_n (pc := 83) (i := 0) dX8_berth_83 rfl rfl ?_
            refine A_getS (pc := 84) (k := 3) (tp := 32) clX8 (Nat.le_of_ble_eq_true rfl) dX8_berth_84 kF_X8_16 rfl rfl rfl ?_
            refine A_aload_n (pc := 87) (i := 0) dX8_berth_87 rfl rfl ?_
            refine A_getI (pc := 88) (k := 0) clX8 (Nat.le_of_ble_eq_true rfl) dX8_berth_88 kF_X8_115 rfl ?_
            refine A_iload_n (pc := 91) (i := 3) dX8_berth_91 rfl rfl ?_
            refine A_iastore (pc := 92) (n := 4) (by decide) (by decide) rfl dX8_berth_92 (by decide) ?_
            refine A_hb (fun h10 => ?_)
            refine A_aload_n (pc := 93) (i := 0) dX8_berth_93 rfl rfl ?_
            refine A_getS (pc := 94) (k := 4) (tp := 33) clX8 (Nat.le_of_ble_eq_true rfl) dX8_berth_94 kF_X8_19 rfl rfl rfl ?_
            refine A_aload_n (pc := 97) (i := 0) dX8_berth_97 rfl rfl ?_
            refine A_getI (pc := 98) (k := 0) clX8 (Nat.le_of_ble_eq_true rfl) dX8_berth_98 kF_X8_115 rfl ?_
            refine A_iload (pc := 101) (i := 4) dX8_berth_101 rfl ?_
            refine A_iastore (pc := 103) (n := 4) (by decide) (by decide) rfl dX8_berth_103 (by decide) ?_
            refine A_hb (fun h11 => ?_)
            refine A_aload_n (pc := 104) (i := 0) dX8_berth_104 rfl rfl ?_
            refine A_dup (pc := 105) dX8_berth_105 (fun _ => cv_catr _ _) ?_
            refine A_getI (pc := 106) (k := 0) clX8 (Nat.le_of_ble_eq_true rfl) dX8_berth_106 kF_X8_115 rfl ?_
            refine A_iconst (pc := 109) (v := (1 : Int32)) dX8_berth_109 (by decide) ?_
            refine A_iadd (pc := 110) dX8_berth_110 ?_
            refine A_putI (pc := 111) (k := 0) clX8 (Nat.le_of_ble_eq_true rfl) dX8_berth_111 kF_X8_115 rfl (Or.inl rfl) ⟨rfl, rfl⟩ ?_
            refine A_hb (fun h12 => ?_)
            refine A_aload_n (pc := 114) (i := 0) dX8_berth_114 rfl rfl ?_
            refine A_getI (pc := 115) (k := 0) clX8 (Nat.le_of_ble_eq_true rfl) dX8_berth_115 kF_X8_115 rfl ?_
            refine A_iconst (pc := 118) (v := (1 : Int32)) dX8_berth_118 (by decide) ?_
            refine A_isub (pc := 119) dX8_berth_119 ?_
            exact A_retI rfl dX8_berth_120
          · refine A_aload_n (pc := 56) (i := 0) dX8_berth_56 rfl rfl ?_
            refine A_ldc (pc := 57) (v := (-1000002 : Int32)) dX8_berth_57 kK_X8_130 ?_
            refine A_callV (pc := 59) (M' := mX8_finding) (As := [vi (-1000002 : Int32)]) (st := []) (0, 0) (fun r13 => [vi r13.1]) (fun r13 => r13.2) (a_X8_finding (-1000002 : Int32) h) kD_X8_finding kM_X8_126 kI_X8_finding kS_X8_finding kN_X8 ⟨(Nat.le_of_ble_eq_true rfl), (Nat.le_of_ble_eq_true rfl)⟩ dX8_berth_59 rfl rfl rfl (by decide) rfl (Nat.le_of_ble_eq_true rfl) (Nat.le_of_ble_eq_true rfl) (Nat.le_of_ble_eq_true rfl) (fun _ => rfl) (fun _ => rfl) (fun r13 => ?_)
            exact A_retI rfl dX8_berth_62
        · refine A_aload_n (pc := 41) (i := 0) dX8_berth_41 rfl rfl ?_
          refine A_ldc (pc := 42) (v := (-1000001 : Int32)) dX8_berth_42 kK_X8_125 ?_
          refine A_callV (pc := 44) (M' := mX8_finding) (As := [vi (-1000001 : Int32)]) (st := []) (0, 0) (fun r14 => [vi r14.1]) (fun r14 => r14.2) (a_X8_finding (-1000001 : Int32) h) kD_X8_finding kM_X8_126 kI_X8_finding kS_X8_finding kN_X8 ⟨(Nat.le_of_ble_eq_true rfl), (Nat.le_of_ble_eq_true rfl)⟩ dX8_berth_44 rfl rfl rfl (by decide) rfl (Nat.le_of_ble_eq_true rfl) (Nat.le_of_ble_eq_true rfl) (Nat.le_of_ble_eq_true rfl) (fun _ => rfl) (fun _ => rfl) (fun r14 => ?_)
          exact A_retI rfl dX8_berth_47

abbrev mX8_boat : MD := (yX8_boat, cX8_boat, 5, (some .int), { frames := 1, cells := 0, slots := 0, locals := 22 }, none)
theorem kD_X8_boat : CodeIn mX8_boat 4 := ⟨kC_X8_boat, by decide +kernel⟩
def f_X8_boat (x1 : Int32) (x2 : Int32) (x3 : Int32) (x4 : Int32) (h : Hp) : Option (Int32 × Hp) := ((f_X8_within x1 (0 : Int32) (3 : Int32) h).bind fun r1 => (if r1 = true then ((f_X8_within x2 (1 : Int32) (40 : Int32) h).bind fun r3 => (if r3 = true then ((f_X8_within x3 (0 : Int32) (99 : Int32) h).bind fun r5 => (if r5 = true then (if (gI h 8 0 6) = (8 : Int32) then ((f_X8_finding (-1000002 : Int32) h).bind fun r13 => (some (r13.1, r13.2))) else (if 0 ≤ (gI h 8 0 6) ∧ (gI h 8 0 6) < 8 then (hb (wI h 34 0 (Int32.toNatClampNeg (gI h 8 0 6)) x1) fun h6 => (if 0 ≤ (gI h6 8 0 6) ∧ (gI h6 8 0 6) < 8 then (hb (wI h6 35 0 (Int32.toNatClampNeg (gI h6 8 0 6)) x2) fun h7 => (if 0 ≤ (gI h7 8 0 6) ∧ (gI h7 8 0 6) < 8 then (hb (wI h7 36 0 (Int32.toNatClampNeg (gI h7 8 0 6)) x3) fun h8 => (if 0 ≤ (gI h8 8 0 6) ∧ (gI h8 8 0 6) < 8 then (hb (wI h8 37 0 (Int32.toNatClampNeg (gI h8 8 0 6)) (vp_nar .boolean x4)) fun h9 => (if 0 ≤ (gI h9 8 0 6) ∧ (gI h9 8 0 6) < 8 then (hb (wI h9 39 0 (Int32.toNatClampNeg (gI h9 8 0 6)) (23 : Int32)) fun h10 => (if 0 ≤ (gI h10 8 0 6) ∧ (gI h10 8 0 6) < 8 then (hb (wI h10 40 0 (Int32.toNatClampNeg (gI h10 8 0 6)) (16777215 : Int32)) fun h11 => (hb (wI h11 8 0 6 ((gI h11 8 0 6) + (1 : Int32))) fun h12 => (some (((gI h12 8 0 6) - (1 : Int32)), h12)))) else none)) else none)) else none)) else none)) else none)) else none)) else ((f_X8_finding (-1000001 : Int32) h).bind fun r14 => (some (r14.1, r14.2))))) else ((f_X8_finding (-1000001 : Int32) h).bind fun r4 => (some (r4.1, r4.2))))) else ((f_X8_finding (-1000001 : Int32) h).bind fun r2 => (some (r2.1, r2.2)))))
set_option maxRecDepth 100000 in
set_option maxHeartbeats 4000000 in
theorem a_X8_boat (x1 : Int32) (x2 : Int32) (x3 : Int32) (x4 : Int32) (h : Hp) : CtA eI mX8_boat U0 U0 [vr 8 (some 0), vi x1, vi x2, vi x3, vi x4] h (f_X8_boat x1 x2 x3 x4 h) := by
  refine Ct.of (ls := [some (vr 8 (some 0)), some (vi x1), some (vi x2), some (vi x3), some (vi x4)]) (n := 0) (by decide +kernel) rfl rfl rfl ?_
  unfold f_X8_boat
  refine A_iload_n (pc := 0) (i := 1) dX8_boat_0 rfl rfl ?_
  refine A_iconst (pc := 1) (v := (0 : Int32)) dX8_boat_1 (by decide) ?_
  refine A_iconst (pc := 2) (v := (3 : Int32)) dX8_boat_2 (by decide) ?_
  refine A_callS (pc := 3) (M' := mX8_within) (As := [vi x1, vi (0 : Int32), vi (3 : Int32)]) (st := []) (0, 0) (fun r1 => [vi (bi r1)]) (fun _ => h) (a_X8_within x1 (0 : Int32) (3 : Int32) h) kD_X8_within kM_X8_118 kT_X8_within kN_X8 ⟨(Nat.le_of_ble_eq_true rfl), (Nat.le_of_ble_eq_true rfl)⟩ dX8_boat_3 rfl rfl (Nat.le_of_ble_eq_true rfl) (Nat.le_of_ble_eq_true rfl) (Nat.le_of_ble_eq_true rfl) (fun _ => rfl) (fun _ => rfl) (fun r1 => ?_)
  refine A_ifb_eq (pc := 6) (tgt := 29) dX8_boat_6 (by decide) ?_ ?_
  · refine A_aload_n (pc := 29) (i := 0) dX8_boat_29 rfl rfl ?_
    refine A_ldc (pc := 30) (v := (-1000001 : Int32)) dX8_boat_30 kK_X8_125 ?_
    refine A_callV (pc := 32) (M' := mX8_finding) (As := [vi (-1000001 : Int32)]) (st := []) (0, 0) (fun r2 => [vi r2.1]) (fun r2 => r2.2) (a_X8_finding (-1000001 : Int32) h) kD_X8_finding kM_X8_126 kI_X8_finding kS_X8_finding kN_X8 ⟨(Nat.le_of_ble_eq_true rfl), (Nat.le_of_ble_eq_true rfl)⟩ dX8_boat_32 rfl rfl rfl (by decide) rfl (Nat.le_of_ble_eq_true rfl) (Nat.le_of_ble_eq_true rfl) (Nat.le_of_ble_eq_true rfl) (fun _ => rfl) (fun _ => rfl) (fun r2 => ?_)
    exact A_retI rfl dX8_boat_35
  · refine A_iload_n (pc := 9) (i := 2) dX8_boat_9 rfl rfl ?_
    refine A_iconst (pc := 10) (v := (1 : Int32)) dX8_boat_10 (by decide) ?_
    refine A_bipush (pc := 11) (v := (40 : Int32)) dX8_boat_11 (by decide) ?_
    refine A_callS (pc := 13) (M' := mX8_within) (As := [vi x2, vi (1 : Int32), vi (40 : Int32)]) (st := []) (0, 0) (fun r3 => [vi (bi r3)]) (fun _ => h) (a_X8_within x2 (1 : Int32) (40 : Int32) h) kD_X8_within kM_X8_118 kT_X8_within kN_X8 ⟨(Nat.le_of_ble_eq_true rfl), (Nat.le_of_ble_eq_true rfl)⟩ dX8_boat_13 rfl rfl (Nat.le_of_ble_eq_true rfl) (Nat.le_of_ble_eq_true rfl) (Nat.le_of_ble_eq_true rfl) (fun _ => rfl) (fun _ => rfl) (fun r3 => ?_)
    refine A_ifb_eq (pc := 16) (tgt := 29) dX8_boat_16 (by decide) ?_ ?_
    · refine A_aload_n (pc := 29) (i := 0) dX8_boat_29 rfl rfl ?_
      refine A_ldc (pc := 30) (v := (-1000001 : Int32)) dX8_boat_30 kK_X8_125 ?_
      refine A_callV (pc := 32) (M' := mX8_finding) (As := [vi (-1000001 : Int32)]) (st := []) (0, 0) (fun r4 => [vi r4.1]) (fun r4 => r4.2) (a_X8_finding (-1000001 : Int32) h) kD_X8_finding kM_X8_126 kI_X8_finding kS_X8_finding kN_X8 ⟨(Nat.le_of_ble_eq_true rfl), (Nat.le_of_ble_eq_true rfl)⟩ dX8_boat_32 rfl rfl rfl (by decide) rfl (Nat.le_of_ble_eq_true rfl) (Nat.le_of_ble_eq_true rfl) (Nat.le_of_ble_eq_true rfl) (fun _ => rfl) (fun _ => rfl) (fun r4 => ?_)
      exact A_retI rfl dX8_boat_35
    · refine A_iload_n (pc := 19) (i := 3) dX8_boat_19 rfl rfl ?_
      refine A_iconst (pc := 20) (v := (0 : Int32)) dX8_boat_20 (by decide) ?_
      refine A_bipush (pc := 21) (v := (99 : Int32)) dX8_boat_21 (by decide) ?_
      refine A_callS (pc := 23) (M' := mX8_within) (As := [vi x3, vi (0 : Int32), vi (99 : Int32)]) (st := []) (0, 0) (fun r5 => [vi (bi r5)]) (fun _ => h) (a_X8_within x3 (0 : Int32) (99 : Int32) h) kD_X8_within kM_X8_118 kT_X8_within kN_X8 ⟨(Nat.le_of_ble_eq_true rfl), (Nat.le_of_ble_eq_true rfl)⟩ dX8_boat_23 rfl rfl (Nat.le_of_ble_eq_true rfl) (Nat.le_of_ble_eq_true rfl) (Nat.le_of_ble_eq_true rfl) (fun _ => rfl) (fun _ => rfl) (fun r5 => ?_)
      refine A_ifb_ne (pc := 26) (tgt := 36) dX8_boat_26 (by decide) ?_ ?_
      · refine A_aload_n (pc := 36) (i := 0) dX8_boat_36 rfl rfl ?_
        refine A_getI (pc := 37) (k := 6) clX8 (Nat.le_of_ble_eq_true rfl) dX8_boat_37 kF_X8_122 rfl ?_
        refine A_bipush (pc := 40) (v := (8 : Int32)) dX8_boat_40 (by decide) ?_
        refine A_icmp_ne (pc := 42) (tgt := 52) dX8_boat_42 (by decide) ?_ ?_
        · refine A_aload_n (pc := 52) (i := 0) dX8_boat_52 rfl rfl ?_
          refine A_getS (pc := 53) (k := 7) (tp := 34) clX8 (Nat.le_of_ble_eq_true rfl) dX8_boat_53 kF_X8_22 rfl rfl rfl ?_
          refine A_aload_n (pc := 56) (i := 0) dX8_boat_56 rfl rfl ?_
          refine A_getI (pc := 57) (k := 6) clX8 (Nat.le_of_ble_eq_true rfl) dX8_boat_57 kF_X8_122 rfl ?_
          refine A_iload_n (pc := 60) (i := 1) dX8_boat_60 rfl rfl ?_
          refine A_iastore (pc := 61) (n := 8) (by decide) (by decide) rfl dX8_boat_61 (by decide) ?_
          refine A_hb (fun h6 => ?_)
          refine A_aload_n (pc := 62) (i := 0) dX8_boat_62 rfl rfl ?_
          refine A_getS (pc := 63) (k := 8) (tp := 35) clX8 (Nat.le_of_ble_eq_true rfl) dX8_boat_63 kF_X8_25 rfl rfl rfl ?_
          refine A_aload_n (pc := 66) (i := 0) dX8_boat_66 rfl rfl ?_
          refine A_getI (pc := 67) (k := 6) clX8 (Nat.le_of_ble_eq_true rfl) dX8_boat_67 kF_X8_122 rfl ?_
          refine A_iload_n (pc := 70) (i := 2) dX8_boat_70 rfl rfl ?_
          refine A_iastore (pc := 71) (n := 8) (by decide) (by decide) rfl dX8_boat_71 (by decide) ?_
          refine A_hb (fun h7 => ?_)
          refine A_aload_n (pc := 72) (i := 0) dX8_boat_72 rfl rfl ?_
          refine A_getS (pc := 73) (k := 9) (tp := 36) clX8 (Nat.le_of_ble_eq_true rfl) dX8_boat_73 kF_X8_28 rfl rfl rfl ?_
          refine A_aload_n (pc := 76) (i := 0) dX8_boat_76 rfl rfl ?_
          refine A_getI (pc := 77) (k := 6) clX8 (Nat.le_of_ble_eq_true rfl) dX8_boat_77 kF_X8_122 rfl ?_
          refine A_iload_n (pc := 80) (i := 3) dX8_boat_80 rfl rfl ?_
          refine A_iastore (pc := 81) (n := 8) (by decide) (by decide) rfl dX8_boat_81 (by decide) ?_
          refine A_hb (fun h8 => ?_)
          refine A_aload_n (pc := 82) (i := 0) dX8_boat_82 rfl rfl ?_
          refine A_getS (pc := 83) (k := 10) (tp := 37) clX8 (Nat.le_of_ble_eq_true rfl) dX8_boat_83 kF_X8_31 rfl rfl rfl ?_
          refine A_aload_n (pc := 86) (i := 0) dX8_boat_86 rfl rfl ?_
          refine A_getI (pc := 87) (k := 6) clX8 (Nat.le_of_ble_eq_true rfl) dX8_boat_87 kF_X8_122 rfl ?_
          refine A_iload (pc := 90) (i := 4) dX8_boat_90 rfl ?_
          refine A_zastore (pc := 92) (n := 8) (by decide) (by decide) rfl dX8_boat_92 (by decide) ?_
          refine A_hb (fun h9 => ?_)
          refine A_aload_n (pc := 93) (i := 0) dX8_boat_93 rfl rfl ?_
          refine A_getS (pc := 94) (k := 12) (tp := 39) clX8 (Nat.le_of_ble_eq_true rfl) dX8_boat_94 kF_X8_38 rfl rfl rfl ?_
          refine A_aload_n (pc := 97) (i := 0) dX8_boat_97 rfl rfl ?_
          refine A_getI (pc := 98) (k := 6) clX8 (Nat.le_of_ble_eq_true rfl) dX8_boat_98 kF_X8_122 rfl ?_
          refine A_bipush (pc := 101) (v := (23 : Int32)) dX8_boat_101 (by decide) ?_
          refine A_iastore (pc := 103) (n := 8) (by decide) (by decide) rfl dX8_boat_103 (by decide) ?_
          refine A_hb (fun h10 => ?_)
          refine A_aload_n (pc := 104) (i := 0) dX8_boat_104 rfl rfl ?_
          refine A_getS (pc := 105) (k := 13) (tp := 40) clX8 (Nat.le_of_ble_eq_true rfl) dX8_boat_105 kF_X8_41 rfl rfl rfl ?_
          refine A_aload_n (pc := 108) (i := 0) dX8_boat_108 rfl rfl ?_
          refine A_getI (pc := 109) (k := 6) clX8 (Nat.le_of_ble_eq_true rfl) dX8_boat_109 kF_X8_122 rfl ?_
          refine A_ldc (pc := 112) (v := (16777215 : Int32)) dX8_boat_112 kK_X8_56 ?_
          refine A_iastore (pc := 114) (n := 8) (by decide) (by decide) rfl dX8_boat_114 (by decide) ?_
          refine A_hb (fun h11 => ?_)
          refine A_aload_n (pc := 115) (i := 0) dX8_boat_115 rfl rfl ?_
          refine A_dup (pc := 116) dX8_boat_116 (fun _ => cv_catr _ _) ?_
          refine A_getI (pc := 117) (k := 6) clX8 (Nat.le_of_ble_eq_true rfl) dX8_boat_117 kF_X8_122 rfl ?_
          refine A_iconst (pc := 120) (v := (1 : Int32)) dX8_boat_120 (by decide) ?_
          refine A_iadd (pc := 121) dX8_boat_121 ?_
          refine A_putI (pc := 122) (k := 6) clX8 (Nat.le_of_ble_eq_true rfl) dX8_boat_122 kF_X8_122 rfl (Or.inl rfl) ⟨rfl, rfl⟩ ?_
          refine A_hb (fun h12 => ?_)
          refine A_aload_n (pc := 125) (i := 0) dX8_boat_125 rfl rfl ?_
          refine A_getI (pc := 126) (k := 6) clX8 (Nat.le_of_ble_eq_true rfl) dX8_boat_126 kF_X8_122 rfl ?_
          refine A_iconst (pc := 129) (v := (1 : Int32)) dX8_boat_129 (by decide) ?_
          refine A_isub (pc := 130) dX8_boat_130 ?_
          exact A_retI rfl dX8_boat_131
        · refine A_aload_n (pc := 45) (i := 0) dX8_boat_45 rfl rfl ?_
          refine A_ldc (pc := 46) (v := (-1000002 : Int32)) dX8_boat_46 kK_X8_130 ?_
          refine A_callV (pc := 48) (M' := mX8_finding) (As := [vi (-1000002 : Int32)]) (st := []) (0, 0) (fun r13 => [vi r13.1]) (fun r13 => r13.2) (a_X8_finding (-1000002 : Int32) h) kD_X8_finding kM_X8_126 kI_X8_finding kS_X8_finding kN_X8 ⟨(Nat.le_of_ble_eq_true rfl), (Nat.le_of_ble_eq_true rfl)⟩ dX8_boat_48 rfl rfl rfl (by decide) rfl (Nat.le_of_ble_eq_true rfl) (Nat.le_of_ble_eq_true rfl) (Nat.le_of_ble_eq_true rfl) (fun _ => rfl) (fun _ => rfl) (fun r13 => ?_)
          exact A_retI rfl dX8_boat_51
      · refine A_aload_n (pc := 29) (i := 0) dX8_boat_29 rfl rfl ?_
        refine A_ldc (pc := 30) (v := (-1000001 : Int32)) dX8_boat_30 kK_X8_125 ?_
        refine A_callV (pc := 32) (M' := mX8_finding) (As := [vi (-1000001 : Int32)]) (st := []) (0, 0) (fun r14 => [vi r14.1]) (fun r14 => r14.2) (a_X8_finding (-1000001 : Int32) h) kD_X8_finding kM_X8_126 kI_X8_finding kS_X8_finding kN_X8 ⟨(Nat.le_of_ble_eq_true rfl), (Nat.le_of_ble_eq_true rfl)⟩ dX8_boat_32 rfl rfl rfl (by decide) rfl (Nat.le_of_ble_eq_true rfl) (Nat.le_of_ble_eq_true rfl) (Nat.le_of_ble_eq_true rfl) (fun _ => rfl) (fun _ => rfl) (fun r14 => ?_)
        exact A_retI rfl dX8_boat_35

abbrev mX8_leaves : MD := (yX8_leaves, cX8_leaves, 4, (some .int), { frames := 2, cells := 0, slots := 0, locals := 43 }, none)
theorem kD_X8_leaves : CodeIn mX8_leaves 3 := ⟨kC_X8_leaves, by decide +kernel⟩
def f_X8_leaves (x1 : Int32) (x2 : Int32) (x3 : Int32) (h : Hp) : Option (Int32 × Hp) := ((f_X8_isBoat x1 h).bind fun r1 => (if r1 = true then ((f_X8_isHour x2 h).bind fun r3 => (if r3 = true then ((f_X8_isHour x3 h).bind fun r5 => (if r5 = true then (if x2 ≤ x3 then (if 0 ≤ x1 ∧ x1 < 8 then (if 0 ≤ x1 ∧ x1 < 8 then (some ((1 : Int32), (wI (wI h 38 0 (Int32.toNatClampNeg x1) x2) 39 0 (Int32.toNatClampNeg x1) x3))) else none) else none) else ((f_X8_finding (-1000001 : Int32) h).bind fun r7 => (some (r7.1, r7.2)))) else ((f_X8_finding (-1000001 : Int32) h).bind fun r6 => (some (r6.1, r6.2))))) else ((f_X8_finding (-1000001 : Int32) h).bind fun r4 => (some (r4.1, r4.2))))) else ((f_X8_finding (-1000001 : Int32) h).bind fun r2 => (some (r2.1, r2.2)))))
set_option maxRecDepth 100000 in
set_option maxHeartbeats 4000000 in
theorem a_X8_leaves (x1 : Int32) (x2 : Int32) (x3 : Int32) (h : Hp) : CtA eI mX8_leaves U0 U0 [vr 8 (some 0), vi x1, vi x2, vi x3] h (f_X8_leaves x1 x2 x3 h) := by
  refine Ct.of (ls := [some (vr 8 (some 0)), some (vi x1), some (vi x2), some (vi x3)]) (n := 0) (by decide +kernel) rfl rfl rfl ?_
  unfold f_X8_leaves
  refine A_aload_n (pc := 0) (i := 0) dX8_leaves_0 rfl rfl ?_
  refine A_iload_n (pc := 1) (i := 1) dX8_leaves_1 rfl rfl ?_
  refine A_callV (pc := 2) (M' := mX8_isBoat) (As := [vi x1]) (st := []) (0, 0) (fun r1 => [vi (bi r1)]) (fun _ => h) (a_X8_isBoat x1 h) kD_X8_isBoat kM_X8_131 kI_X8_isBoat kS_X8_isBoat kN_X8 ⟨(Nat.le_of_ble_eq_true rfl), (Nat.le_of_ble_eq_true rfl)⟩ dX8_leaves_2 rfl rfl rfl (by decide) rfl (Nat.le_of_ble_eq_true rfl) (Nat.le_of_ble_eq_true rfl) (Nat.le_of_ble_eq_true rfl) (fun _ => rfl) (fun _ => rfl) (fun r1 => ?_)
  refine A_ifb_eq (pc := 5) (tgt := 27) dX8_leaves_5 (by decide) ?_ ?_
  · refine A_aload_n (pc := 27) (i := 0) dX8_leaves_27 rfl rfl ?_
    refine A_ldc (pc := 28) (v := (-1000001 : Int32)) dX8_leaves_28 kK_X8_125 ?_
    refine A_callV (pc := 30) (M' := mX8_finding) (As := [vi (-1000001 : Int32)]) (st := []) (0, 0) (fun r2 => [vi r2.1]) (fun r2 => r2.2) (a_X8_finding (-1000001 : Int32) h) kD_X8_finding kM_X8_126 kI_X8_finding kS_X8_finding kN_X8 ⟨(Nat.le_of_ble_eq_true rfl), (Nat.le_of_ble_eq_true rfl)⟩ dX8_leaves_30 rfl rfl rfl (by decide) rfl (Nat.le_of_ble_eq_true rfl) (Nat.le_of_ble_eq_true rfl) (Nat.le_of_ble_eq_true rfl) (fun _ => rfl) (fun _ => rfl) (fun r2 => ?_)
    exact A_retI rfl dX8_leaves_33
  · refine A_iload_n (pc := 8) (i := 2) dX8_leaves_8 rfl rfl ?_
    refine A_callS (pc := 9) (M' := mX8_isHour) (As := [vi x2]) (st := []) (0, 0) (fun r3 => [vi (bi r3)]) (fun _ => h) (a_X8_isHour x2 h) kD_X8_isHour kM_X8_135 kT_X8_isHour kN_X8 ⟨(Nat.le_of_ble_eq_true rfl), (Nat.le_of_ble_eq_true rfl)⟩ dX8_leaves_9 rfl rfl (Nat.le_of_ble_eq_true rfl) (Nat.le_of_ble_eq_true rfl) (Nat.le_of_ble_eq_true rfl) (fun _ => rfl) (fun _ => rfl) (fun r3 => ?_)
    refine A_ifb_eq (pc := 12) (tgt := 27) dX8_leaves_12 (by decide) ?_ ?_
    · refine A_aload_n (pc := 27) (i := 0) dX8_leaves_27 rfl rfl ?_
      refine A_ldc (pc := 28) (v := (-1000001 : Int32)) dX8_leaves_28 kK_X8_125 ?_
      refine A_callV (pc := 30) (M' := mX8_finding) (As := [vi (-1000001 : Int32)]) (st := []) (0, 0) (fun r4 => [vi r4.1]) (fun r4 => r4.2) (a_X8_finding (-1000001 : Int32) h) kD_X8_finding kM_X8_126 kI_X8_finding kS_X8_finding kN_X8 ⟨(Nat.le_of_ble_eq_true rfl), (Nat.le_of_ble_eq_true rfl)⟩ dX8_leaves_30 rfl rfl rfl (by decide) rfl (Nat.le_of_ble_eq_true rfl) (Nat.le_of_ble_eq_true rfl) (Nat.le_of_ble_eq_true rfl) (fun _ => rfl) (fun _ => rfl) (fun r4 => ?_)
      exact A_retI rfl dX8_leaves_33
    · refine A_iload_n (pc := 15) (i := 3) dX8_leaves_15 rfl rfl ?_
      refine A_callS (pc := 16) (M' := mX8_isHour) (As := [vi x3]) (st := []) (0, 0) (fun r5 => [vi (bi r5)]) (fun _ => h) (a_X8_isHour x3 h) kD_X8_isHour kM_X8_135 kT_X8_isHour kN_X8 ⟨(Nat.le_of_ble_eq_true rfl), (Nat.le_of_ble_eq_true rfl)⟩ dX8_leaves_16 rfl rfl (Nat.le_of_ble_eq_true rfl) (Nat.le_of_ble_eq_true rfl) (Nat.le_of_ble_eq_true rfl) (fun _ => rfl) (fun _ => rfl) (fun r5 => ?_)
      refine A_ifb_eq (pc := 19) (tgt := 27) dX8_leaves_19 (by decide) ?_ ?_
      · refine A_aload_n (pc := 27) (i := 0) dX8_leaves_27 rfl rfl ?_
        refine A_ldc (pc := 28) (v := (-1000001 : Int32)) dX8_leaves_28 kK_X8_125 ?_
        refine A_callV (pc := 30) (M' := mX8_finding) (As := [vi (-1000001 : Int32)]) (st := []) (0, 0) (fun r6 => [vi r6.1]) (fun r6 => r6.2) (a_X8_finding (-1000001 : Int32) h) kD_X8_finding kM_X8_126 kI_X8_finding kS_X8_finding kN_X8 ⟨(Nat.le_of_ble_eq_true rfl), (Nat.le_of_ble_eq_true rfl)⟩ dX8_leaves_30 rfl rfl rfl (by decide) rfl (Nat.le_of_ble_eq_true rfl) (Nat.le_of_ble_eq_true rfl) (Nat.le_of_ble_eq_true rfl) (fun _ => rfl) (fun _ => rfl) (fun r6 => ?_)
        exact A_retI rfl dX8_leaves_33
      · refine A_iload_n (pc := 22) (i := 2) dX8_leaves_22 rfl rfl ?_
        refine A_iload_n (pc := 23) (i := 3) dX8_leaves_23 rfl rfl ?_
        refine A_icmp_le (pc := 24) (tgt := 34) dX8_leaves_24 (by decide) ?_ ?_
        · refine A_aload_n (pc := 34) (i := 0) dX8_leaves_34 rfl rfl ?_
          refine A_getS (pc := 35) (k := 11) (tp := 38) clX8 (Nat.le_of_ble_eq_true rfl) dX8_leaves_35 kF_X8_35 rfl rfl rfl ?_
          refine A_iload_n (pc := 38) (i := 1) dX8_leaves_38 rfl rfl ?_
          refine A_iload_n (pc := 39) (i := 2) dX8_leaves_39 rfl rfl ?_
          refine A_iastore (pc := 40) (n := 8) (by decide) (by decide) rfl dX8_leaves_40 (by decide) ?_
          refine A_aload_n (pc := 41) (i := 0) dX8_leaves_41 rfl rfl ?_
          refine A_getS (pc := 42) (k := 12) (tp := 39) clX8 (Nat.le_of_ble_eq_true rfl) dX8_leaves_42 kF_X8_38 rfl rfl rfl ?_
          refine A_iload_n (pc := 45) (i := 1) dX8_leaves_45 rfl rfl ?_
          refine A_iload_n (pc := 46) (i := 3) dX8_leaves_46 rfl rfl ?_
          refine A_iastore (pc := 47) (n := 8) (by decide) (by decide) rfl dX8_leaves_47 (by decide) ?_
          refine A_iconst (pc := 48) (v := (1 : Int32)) dX8_leaves_48 (by decide) ?_
          exact A_retI rfl dX8_leaves_49
        · refine A_aload_n (pc := 27) (i := 0) dX8_leaves_27 rfl rfl ?_
          refine A_ldc (pc := 28) (v := (-1000001 : Int32)) dX8_leaves_28 kK_X8_125 ?_
          refine A_callV (pc := 30) (M' := mX8_finding) (As := [vi (-1000001 : Int32)]) (st := []) (0, 0) (fun r7 => [vi r7.1]) (fun r7 => r7.2) (a_X8_finding (-1000001 : Int32) h) kD_X8_finding kM_X8_126 kI_X8_finding kS_X8_finding kN_X8 ⟨(Nat.le_of_ble_eq_true rfl), (Nat.le_of_ble_eq_true rfl)⟩ dX8_leaves_30 rfl rfl rfl (by decide) rfl (Nat.le_of_ble_eq_true rfl) (Nat.le_of_ble_eq_true rfl) (Nat.le_of_ble_eq_true rfl) (fun _ => rfl) (fun _ => rfl) (fun r7 => ?_)
          exact A_retI rfl dX8_leaves_33
