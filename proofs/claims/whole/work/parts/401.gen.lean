abbrev mJ6_bitCount_0f7a4 : MD := (yJ6_bitCount_0f7a4, cJ6_bitCount_0f7a4, 1, (some .int), { frames := 0, cells := 0, slots := 0, locals := 0 }, none)
theorem kD_J6_bitCount_0f7a4 : CodeIn mJ6_bitCount_0f7a4 1 := ⟨kC_J6_bitCount_0f7a4, by decide +kernel⟩
def f_J6_bitCount_0f7a4 (x0 : Int32) (h : Hp) : Option Int32 := (some ((((((((x0 - ((((x0).toUInt32 >>> (((1 : Int32)).toUInt32 &&& Int32.toUInt32 31)).toInt32) &&& (1431655765 : Int32))) &&& (858993459 : Int32)) + (((((x0 - ((((x0).toUInt32 >>> (((1 : Int32)).toUInt32 &&& Int32.toUInt32 31)).toInt32) &&& (1431655765 : Int32)))).toUInt32 >>> (((2 : Int32)).toUInt32 &&& Int32.toUInt32 31)).toInt32) &&& (858993459 : Int32))) + ((((((x0 - ((((x0).toUInt32 >>> (((1 : Int32)).toUInt32 &&& Int32.toUInt32 31)).toInt32) &&& (1431655765 : Int32))) &&& (858993459 : Int32)) + (((((x0 - ((((x0).toUInt32 >>> (((1 : Int32)).toUInt32 &&& Int32.toUInt32 31)).toInt32) &&& (1431655765 : Int32)))).toUInt32 >>> (((2 : Int32)).toUInt32 &&& Int32.toUInt32 31)).toInt32) &&& (858993459 : Int32)))).toUInt32 >>> (((4 : Int32)).toUInt32 &&& Int32.toUInt32 31)).toInt32)) &&& (252645135 : Int32)) + ((((((((x0 - ((((x0).toUInt32 >>> (((1 : Int32)).toUInt32 &&& Int32.toUInt32 31)).toInt32) &&& (1431655765 : Int32))) &&& (858993459 : Int32)) + (((((x0 - ((((x0).toUInt32 >>> (((1 : Int32)).toUInt32 &&& Int32.toUInt32 31)).toInt32) &&& (1431655765 : Int32)))).toUInt32 >>> (((2 : Int32)).toUInt32 &&& Int32.toUInt32 31)).toInt32) &&& (858993459 : Int32))) + ((((((x0 - ((((x0).toUInt32 >>> (((1 : Int32)).toUInt32 &&& Int32.toUInt32 31)).toInt32) &&& (1431655765 : Int32))) &&& (858993459 : Int32)) + (((((x0 - ((((x0).toUInt32 >>> (((1 : Int32)).toUInt32 &&& Int32.toUInt32 31)).toInt32) &&& (1431655765 : Int32)))).toUInt32 >>> (((2 : Int32)).toUInt32 &&& Int32.toUInt32 31)).toInt32) &&& (858993459 : Int32)))).toUInt32 >>> (((4 : Int32)).toUInt32 &&& Int32.toUInt32 31)).toInt32)) &&& (252645135 : Int32))).toUInt32 >>> (((8 : Int32)).toUInt32 &&& Int32.toUInt32 31)).toInt32)) + (((((((((x0 - ((((x0).toUInt32 >>> (((1 : Int32)).toUInt32 &&& Int32.toUInt32 31)).toInt32) &&& (1431655765 : Int32))) &&& (858993459 : Int32)) + (((((x0 - ((((x0).toUInt32 >>> (((1 : Int32)).toUInt32 &&& Int32.toUInt32 31)).toInt32) &&& (1431655765 : Int32)))).toUInt32 >>> (((2 : Int32)).toUInt32 &&& Int32.toUInt32 31)).toInt32) &&& (858993459 : Int32))) + ((((((x0 - ((((x0).toUInt32 >>> (((1 : Int32)).toUInt32 &&& Int32.toUInt32 31)).toInt32) &&& (1431655765 : Int32))) &&& (858993459 : Int32)) + (((((x0 - ((((x0).toUInt32 >>> (((1 : Int32)).toUInt32 &&& Int32.toUInt32 31)).toInt32) &&& (1431655765 : Int32)))).toUInt32 >>> (((2 : Int32)).toUInt32 &&& Int32.toUInt32 31)).toInt32) &&& (858993459 : Int32)))).toUInt32 >>> (((4 : Int32)).toUInt32 &&& Int32.toUInt32 31)).toInt32)) &&& (252645135 : Int32)) + ((((((((x0 - ((((x0).toUInt32 >>> (((1 : Int32)).toUInt32 &&& Int32.toUInt32 31)).toInt32) &&& (1431655765 : Int32))) &&& (858993459 : Int32)) + (((((x0 - ((((x0).toUInt32 >>> (((1 : Int32)).toUInt32 &&& Int32.toUInt32 31)).toInt32) &&& (1431655765 : Int32)))).toUInt32 >>> (((2 : Int32)).toUInt32 &&& Int32.toUInt32 31)).toInt32) &&& (858993459 : Int32))) + ((((((x0 - ((((x0).toUInt32 >>> (((1 : Int32)).toUInt32 &&& Int32.toUInt32 31)).toInt32) &&& (1431655765 : Int32))) &&& (858993459 : Int32)) + (((((x0 - ((((x0).toUInt32 >>> (((1 : Int32)).toUInt32 &&& Int32.toUInt32 31)).toInt32) &&& (1431655765 : Int32)))).toUInt32 >>> (((2 : Int32)).toUInt32 &&& Int32.toUInt32 31)).toInt32) &&& (858993459 : Int32)))).toUInt32 >>> (((4 : Int32)).toUInt32 &&& Int32.toUInt32 31)).toInt32)) &&& (252645135 : Int32))).toUInt32 >>> (((8 : Int32)).toUInt32 &&& Int32.toUInt32 31)).toInt32))).toUInt32 >>> (((16 : Int32)).toUInt32 &&& Int32.toUInt32 31)).toInt32)) &&& (63 : Int32)))
set_option maxRecDepth 100000 in
set_option maxHeartbeats 4000000 in
theorem a_J6_bitCount_0f7a4 (x0 : Int32) (h : Hp) : CtA (eIr h) mJ6_bitCount_0f7a4 U0 U0 [vi x0] h (f_J6_bitCount_0f7a4 x0 h) := by
  refine Ct.of (ls := [some (vi x0)]) (n := 0) (by decide +kernel) rfl rfl rfl ?_
  unfold f_J6_bitCount_0f7a4
  refine A_iload_n (pc := 0) (i := 0) dJ6_bitCount_0f7a4_0 rfl rfl ?_
  refine A_iload_n (pc := 1) (i := 0) dJ6_bitCount_0f7a4_1 rfl rfl ?_
  refine A_iconst (pc := 2) (v := (1 : Int32)) dJ6_bitCount_0f7a4_2 (by decide) ?_
  refine A_iushr (pc := 3) dJ6_bitCount_0f7a4_3 ?_
  refine A_ldcw (pc := 4) (v := (1431655765 : Int32)) dJ6_bitCount_0f7a4_4 kK_J6_265 ?_
  refine A_iand (pc := 7) dJ6_bitCount_0f7a4_7 ?_
  refine A_isub (pc := 8) dJ6_bitCount_0f7a4_8 ?_
  refine A_istore_n (pc := 9) (i := 0) (ls2 := [some (vi (x0 - ((((x0).toUInt32 >>> (((1 : Int32)).toUInt32 &&& Int32.toUInt32 31)).toInt32) &&& (1431655765 : Int32))))]) dJ6_bitCount_0f7a4_9 rfl (Nat.le_of_ble_eq_true rfl) rfl ?_
  refine A_iload_n (pc := 10) (i := 0) dJ6_bitCount_0f7a4_10 rfl rfl ?_
  refine A_ldcw (pc := 11) (v := (858993459 : Int32)) dJ6_bitCount_0f7a4_11 kK_J6_266 ?_
  refine A_iand (pc := 14) dJ6_bitCount_0f7a4_14 ?_
  refine A_iload_n (pc := 15) (i := 0) dJ6_bitCount_0f7a4_15 rfl rfl ?_
  refine A_iconst (pc := 16) (v := (2 : Int32)) dJ6_bitCount_0f7a4_16 (by decide) ?_
  refine A_iushr (pc := 17) dJ6_bitCount_0f7a4_17 ?_
  refine A_ldcw (pc := 18) (v := (858993459 : Int32)) dJ6_bitCount_0f7a4_18 kK_J6_266 ?_
  refine A_iand (pc := 21) dJ6_bitCount_0f7a4_21 ?_
  refine A_iadd (pc := 22) dJ6_bitCount_0f7a4_22 ?_
  refine A_istore_n (pc := 23) (i := 0) (ls2 := [some (vi (((x0 - ((((x0).toUInt32 >>> (((1 : Int32)).toUInt32 &&& Int32.toUInt32 31)).toInt32) &&& (1431655765 : Int32))) &&& (858993459 : Int32)) + (((((x0 - ((((x0).toUInt32 >>> (((1 : Int32)).toUInt32 &&& Int32.toUInt32 31)).toInt32) &&& (1431655765 : Int32)))).toUInt32 >>> (((2 : Int32)).toUInt32 &&& Int32.toUInt32 31)).toInt32) &&& (858993459 : Int32))))]) dJ6_bitCount_0f7a4_23 rfl (Nat.le_of_ble_eq_true rfl) rfl ?_
  refine A_iload_n (pc := 24) (i := 0) dJ6_bitCount_0f7a4_24 rfl rfl ?_
  refine A_iload_n (pc := 25) (i := 0) dJ6_bitCount_0f7a4_25 rfl rfl ?_
  refine A_iconst (pc := 26) (v := (4 : Int32)) dJ6_bitCount_0f7a4_26 (by decide) ?_
  refine A_iushr (pc := 27) dJ6_bitCount_0f7a4_27 ?_
  refine A_iadd (pc := 28) dJ6_bitCount_0f7a4_28 ?_
  refine A_ldcw (pc := 29) (v := (252645135 : Int32)) dJ6_bitCount_0f7a4_29 kK_J6_267 ?_
  refine A_iand (pc := 32) dJ6_bitCount_0f7a4_32 ?_
  refine A_istore_n (pc := 33) (i := 0) (ls2 := [some (vi (((((x0 - ((((x0).toUInt32 >>> (((1 : Int32)).toUInt32 &&& Int32.toUInt32 31)).toInt32) &&& (1431655765 : Int32))) &&& (858993459 : Int32)) + (((((x0 - ((((x0).toUInt32 >>> (((1 : Int32)).toUInt32 &&& Int32.toUInt32 31)).toInt32) &&& (1431655765 : Int32)))).toUInt32 >>> (((2 : Int32)).toUInt32 &&& Int32.toUInt32 31)).toInt32) &&& (858993459 : Int32))) + ((((((x0 - ((((x0).toUInt32 >>> (((1 : Int32)).toUInt32 &&& Int32.toUInt32 31)).toInt32) &&& (1431655765 : Int32))) &&& (858993459 : Int32)) + (((((x0 - ((((x0).toUInt32 >>> (((1 : Int32)).toUInt32 &&& Int32.toUInt32 31)).toInt32) &&& (1431655765 : Int32)))).toUInt32 >>> (((2 : Int32)).toUInt32 &&& Int32.toUInt32 31)).toInt32) &&& (858993459 : Int32)))).toUInt32 >>> (((4 : Int32)).toUInt32 &&& Int32.toUInt32 31)).toInt32)) &&& (252645135 : Int32)))]) dJ6_bitCount_0f7a4_33 rfl (Nat.le_of_ble_eq_true rfl) rfl ?_
  refine A_iload_n (pc := 34) (i := 0) dJ6_bitCount_0f7a4_34 rfl rfl ?_
  refine A_iload_n (pc := 35) (i := 0) dJ6_bitCount_0f7a4_35 rfl rfl ?_
  refine A_bipush (pc := 36) (v := (8 : Int32)) dJ6_bitCount_0f7a4_36 (by decide) ?_
  refine A_iushr (pc := 38) dJ6_bitCount_0f7a4_38 ?_
  refine A_iadd (pc := 39) dJ6_bitCount_0f7a4_39 ?_
  refine A_istore_n (pc := 40) (i := 0) (ls2 := [some (vi ((((((x0 - ((((x0).toUInt32 >>> (((1 : Int32)).toUInt32 &&& Int32.toUInt32 31)).toInt32) &&& (1431655765 : Int32))) &&& (858993459 : Int32)) + (((((x0 - ((((x0).toUInt32 >>> (((1 : Int32)).toUInt32 &&& Int32.toUInt32 31)).toInt32) &&& (1431655765 : Int32)))).toUInt32 >>> (((2 : Int32)).toUInt32 &&& Int32.toUInt32 31)).toInt32) &&& (858993459 : Int32))) + ((((((x0 - ((((x0).toUInt32 >>> (((1 : Int32)).toUInt32 &&& Int32.toUInt32 31)).toInt32) &&& (1431655765 : Int32))) &&& (858993459 : Int32)) + (((((x0 - ((((x0).toUInt32 >>> (((1 : Int32)).toUInt32 &&& Int32.toUInt32 31)).toInt32) &&& (1431655765 : Int32)))).toUInt32 >>> (((2 : Int32)).toUInt32 &&& Int32.toUInt32 31)).toInt32) &&& (858993459 : Int32)))).toUInt32 >>> (((4 : Int32)).toUInt32 &&& Int32.toUInt32 31)).toInt32)) &&& (252645135 : Int32)) + ((((((((x0 - ((((x0).toUInt32 >>> (((1 : Int32)).toUInt32 &&& Int32.toUInt32 31)).toInt32) &&& (1431655765 : Int32))) &&& (858993459 : Int32)) + (((((x0 - ((((x0).toUInt32 >>> (((1 : Int32)).toUInt32 &&& Int32.toUInt32 31)).toInt32) &&& (1431655765 : Int32)))).toUInt32 >>> (((2 : Int32)).toUInt32 &&& Int32.toUInt32 31)).toInt32) &&& (858993459 : Int32))) + ((((((x0 - ((((x0).toUInt32 >>> (((1 : Int32)).toUInt32 &&& Int32.toUInt32 31)).toInt32) &&& (1431655765 : Int32))) &&& (858993459 : Int32)) + (((((x0 - ((((x0).toUInt32 >>> (((1 : Int32)).toUInt32 &&& Int32.toUInt32 31)).toInt32) &&& (1431655765 : Int32)))).toUInt32 >>> (((2 : Int32)).toUInt32 &&& Int32.toUInt32 31)).toInt32) &&& (858993459 : Int32)))).toUInt32 >>> (((4 : Int32)).toUInt32 &&& Int32.toUInt32 31)).toInt32)) &&& (252645135 : Int32))).toUInt32 >>> (((8 : Int32)).toUInt32 &&& Int32.toUInt32 31)).toInt32)))]) dJ6_bitCount_0f7a4_40 rfl (Nat.le_of_ble_eq_true rfl) rfl ?_
  refine A_iload_n (pc := 41) (i := 0) dJ6_bitCount_0f7a4_41 rfl rfl ?_
  refine A_iload_n (pc := 42) (i := 0) dJ6_bitCount_0f7a4_42 rfl rfl ?_
  refine A_bipush (pc := 43) (v := (16 : Int32)) dJ6_bitCount_0f7a4_43 (by decide) ?_
  refine A_iushr (pc := 45) dJ6_bitCount_0f7a4_45 ?_
  refine A_iadd (pc := 46) dJ6_bitCount_0f7a4_46 ?_
  refine A_istore_n (pc := 47) (i := 0) (ls2 := [some (vi (((((((x0 - ((((x0).toUInt32 >>> (((1 : Int32)).toUInt32 &&& Int32.toUInt32 31)).toInt32) &&& (1431655765 : Int32))) &&& (858993459 : Int32)) + (((((x0 - ((((x0).toUInt32 >>> (((1 : Int32)).toUInt32 &&& Int32.toUInt32 31)).toInt32) &&& (1431655765 : Int32)))).toUInt32 >>> (((2 : Int32)).toUInt32 &&& Int32.toUInt32 31)).toInt32) &&& (858993459 : Int32))) + ((((((x0 - ((((x0).toUInt32 >>> (((1 : Int32)).toUInt32 &&& Int32.toUInt32 31)).toInt32) &&& (1431655765 : Int32))) &&& (858993459 : Int32)) + (((((x0 - ((((x0).toUInt32 >>> (((1 : Int32)).toUInt32 &&& Int32.toUInt32 31)).toInt32) &&& (1431655765 : Int32)))).toUInt32 >>> (((2 : Int32)).toUInt32 &&& Int32.toUInt32 31)).toInt32) &&& (858993459 : Int32)))).toUInt32 >>> (((4 : Int32)).toUInt32 &&& Int32.toUInt32 31)).toInt32)) &&& (252645135 : Int32)) + ((((((((x0 - ((((x0).toUInt32 >>> (((1 : Int32)).toUInt32 &&& Int32.toUInt32 31)).toInt32) &&& (1431655765 : Int32))) &&& (858993459 : Int32)) + (((((x0 - ((((x0).toUInt32 >>> (((1 : Int32)).toUInt32 &&& Int32.toUInt32 31)).toInt32) &&& (1431655765 : Int32)))).toUInt32 >>> (((2 : Int32)).toUInt32 &&& Int32.toUInt32 31)).toInt32) &&& (858993459 : Int32))) + ((((((x0 - ((((x0).toUInt32 >>> (((1 : Int32)).toUInt32 &&& Int32.toUInt32 31)).toInt32) &&& (1431655765 : Int32))) &&& (858993459 : Int32)) + (((((x0 - ((((x0).toUInt32 >>> (((1 : Int32)).toUInt32 &&& Int32.toUInt32 31)).toInt32) &&& (1431655765 : Int32)))).toUInt32 >>> (((2 : Int32)).toUInt32 &&& Int32.toUInt32 31)).toInt32) &&& (858993459 : Int32)))).toUInt32 >>> (((4 : Int32)).toUInt32 &&& Int32.toUInt32 31)).toInt32)) &&& (252645135 : Int32))).toUInt32 >>> (((8 : Int32)).toUInt32 &&& Int32.toUInt32 31)).toInt32)) + (((((((((x0 - ((((x0).toUInt32 >>> (((1 : Int32)).toUInt32 &&& Int32.toUInt32 31)).toInt32) &&& (1431655765 : Int32))) &&& (858993459 : Int32)) + (((((x0 - ((((x0).toUInt32 >>> (((1 : Int32)).toUInt32 &&& Int32.toUInt32 31)).toInt32) &&& (1431655765 : Int32)))).toUInt32 >>> (((2 : Int32)).toUInt32 &&& Int32.toUInt32 31)).toInt32) &&& (858993459 : Int32))) + ((((((x0 - ((((x0).toUInt32 >>> (((1 : Int32)).toUInt32 &&& Int32.toUInt32 31)).toInt32) &&& (1431655765 : Int32))) &&& (858993459 : Int32)) + (((((x0 - ((((x0).toUInt32 >>> (((1 : Int32)).toUInt32 &&& Int32.toUInt32 31)).toInt32) &&& (1431655765 : Int32)))).toUInt32 >>> (((2 : Int32)).toUInt32 &&& Int32.toUInt32 31)).toInt32) &&& (858993459 : Int32)))).toUInt32 >>> (((4 : Int32)).toUInt32 &&& Int32.toUInt32 31)).toInt32)) &&& (252645135 : Int32)) + ((((((((x0 - ((((x0).toUInt32 >>> (((1 : Int32)).toUInt32 &&& Int32.toUInt32 31)).toInt32) &&& (1431655765 : Int32))) &&& (858993459 : Int32)) + (((((x0 - ((((x0).toUInt32 >>> (((1 : Int32)).toUInt32 &&& Int32.toUInt32 31)).toInt32) &&& (1431655765 : Int32)))).toUInt32 >>> (((2 : Int32)).toUInt32 &&& Int32.toUInt32 31)).toInt32) &&& (858993459 : Int32))) + ((((((x0 - ((((x0).toUInt32 >>> (((1 : Int32)).toUInt32 &&& Int32.toUInt32 31)).toInt32) &&& (1431655765 : Int32))) &&& (858993459 : Int32)) + (((((x0 - ((((x0).toUInt32 >>> (((1 : Int32)).toUInt32 &&& Int32.toUInt32 31)).toInt32) &&& (1431655765 : Int32)))).toUInt32 >>> (((2 : Int32)).toUInt32 &&& Int32.toUInt32 31)).toInt32) &&& (858993459 : Int32)))).toUInt32 >>> (((4 : Int32)).toUInt32 &&& Int32.toUInt32 31)).toInt32)) &&& (252645135 : Int32))).toUInt32 >>> (((8 : Int32)).toUInt32 &&& Int32.toUInt32 31)).toInt32))).toUInt32 >>> (((16 : Int32)).toUInt32 &&& Int32.toUInt32 31)).toInt32)))]) dJ6_bitCount_0f7a4_47 rfl (Nat.le_of_ble_eq_true rfl) rfl ?_
  refine A_iload_n (pc := 48) (i := 0) dJ6_bitCount_0f7a4_48 rfl rfl ?_
  refine A_bipush (pc := 49) (v := (63 : Int32)) dJ6_bitCount_0f7a4_49 (by decide) ?_
  refine A_iand (pc := 51) dJ6_bitCount_0f7a4_51 ?_
  exact A_retIr rfl dJ6_bitCount_0f7a4_52

abbrev mX4_refuses : MD := (yX4_refuses, cX4_refuses, 3, (some .int), { frames := 1, cells := 0, slots := 0, locals := 20 }, none)
theorem kD_X4_refuses : CodeIn mX4_refuses 2 := ⟨kC_X4_refuses, by decide +kernel⟩
def f_X4_refuses (x2 : Int32) (h : Hp) : Option Int32 := (if (x2 &&& (-((1 : Int32) <<< ((gI h 5 0 3) &&& 31)))) = 0 then ((f_J6_bitCount_0f7a4 x2 h).bind fun r1 => (if r1 ≤ (6 : Int32) then (some (0 : Int32)) else (some (-1000007 : Int32)))) else (some (-1000001 : Int32)))
set_option maxRecDepth 100000 in
set_option maxHeartbeats 4000000 in
theorem a_X4_refuses (x2 : Int32) (h : Hp) : CtA (eIr h) mX4_refuses U0 U0 [vr 4 (some 0), vr 5 (some 0), vi x2] h (f_X4_refuses x2 h) := by
  refine Ct.of (ls := [some (vr 4 (some 0)), some (vr 5 (some 0)), some (vi x2)]) (n := 0) (by decide +kernel) rfl rfl rfl ?_
  unfold f_X4_refuses
  refine A_iload_n (pc := 0) (i := 2) dX4_refuses_0 rfl rfl ?_
  refine A_iconst (pc := 1) (v := (1 : Int32)) dX4_refuses_1 (by decide) ?_
  refine A_aload_n (pc := 2) (i := 1) dX4_refuses_2 rfl rfl ?_
  refine A_getI (pc := 3) (k := 3) clX5 (Nat.le_of_ble_eq_true rfl) dX4_refuses_3 kF_X4_34 rfl ?_
  refine A_ishl (pc := 6) dX4_refuses_6 ?_
  refine A_ineg (pc := 7) dX4_refuses_7 ?_
  refine A_iand (pc := 8) dX4_refuses_8 ?_
  refine A_if_eq (pc := 9) (tgt := 15) dX4_refuses_9 (by decide) ?_ ?_
  · refine A_iload_n (pc := 15) (i := 2) dX4_refuses_15 rfl rfl ?_
    refine A_callS (pc := 16) (M' := mJ6_bitCount_0f7a4) (As := [vi x2]) (st := []) (0, 0) (fun r1 => [vi r1]) (fun _ => h) (a_J6_bitCount_0f7a4 x2 h) kD_J6_bitCount_0f7a4 kM_X4_41 kT_J6_bitCount_0f7a4 kN_J6 ⟨(Nat.le_of_ble_eq_true rfl), (Nat.le_of_ble_eq_true rfl)⟩ dX4_refuses_16 rfl rfl (Nat.le_of_ble_eq_true rfl) (Nat.le_of_ble_eq_true rfl) (Nat.le_of_ble_eq_true rfl) (fun _ => rfl) (fun _ => rfl) (fun r1 => ?_)
    refine A_bipush (pc := 19) (v := (6 : Int32)) dX4_refuses_19 (by decide) ?_
    refine A_icmp_le (pc := 21) (tgt := 29) dX4_refuses_21 (by decide) ?_ ?_
    · refine A_iconst (pc := 29) (v := (0 : Int32)) dX4_refuses_29 (by decide) ?_
      exact A_retIr rfl dX4_refuses_30
    · refine A_ldc (pc := 24) (v := (-1000007 : Int32)) dX4_refuses_24 kK_X4_47 ?_
      refine A_goto (pc := 26) (tgt := 30) dX4_refuses_26 (by decide) ?_
      exact A_retIr rfl dX4_refuses_30
  · refine A_ldc (pc := 12) (v := (-1000001 : Int32)) dX4_refuses_12 kK_X4_40 ?_
    exact A_retIr rfl dX4_refuses_14

abbrev mJ7_fill_d0a16 : MD := (yJ7_fill_d0a16, cJ7_fill_d0a16, 5, none, { frames := 0, cells := 0, slots := 0, locals := 0 }, none)
theorem kD_J7_fill_d0a16 : CodeIn mJ7_fill_d0a16 2 := ⟨kC_J7_fill_d0a16, by decide +kernel⟩
def fL_J7_fill_d0a16_6 : Nat → Int64 → Int32 → Int32 → Hp → Option Hp
  | 0, _, _, _, _ => none
  | n + 1, w1, x3, x4, h => (if x4 ≤ x3 then (some h) else (if 0 ≤ x3 ∧ x3 < 64 then ((fL_J7_fill_d0a16_6 n) w1 (x3 + 1) x4 (wL h 17 0 (Int32.toNatClampNeg x3) w1)) else none))
set_option maxRecDepth 100000 in
set_option maxHeartbeats 4000000 in
theorem aL_J7_fill_d0a16_6 : ∀ (n : Nat) (w1 : Int64) (x3 : Int32) (x4 : Int32) (h : Hp), Aw eV U0 mJ7_fill_d0a16 (0, 0) U0 6 [some (vr 17 (some 0)), some (vl w1), none, some (vi x3), some (vi x4)] [] h (fL_J7_fill_d0a16_6 n w1 x3 x4 h) := by
  intro n
  induction n with
  | zero =>
    intro w1 x3 x4 h
    exact Aw.none
  | succ n ih =>
    intro w1 x3 x4 h
    show Aw _ _ _ _ _ _ _ _ _ (fL_J7_fill_d0a16_6 (n + 1) w1 x3 x4 h)
    unfold fL_J7_fill_d0a16_6
    refine A_iload_n (pc := 6) (i := 3) dJ7_fill_d0a16_6 rfl rfl ?_
    refine A_iload (pc := 7) (i := 4) dJ7_fill_d0a16_7 rfl ?_
    refine A_icmp_ge (pc := 9) (tgt := 22) dJ7_fill_d0a16_9 (by decide) ?_ ?_
    · exact A_retV rfl dJ7_fill_d0a16_22
    · refine A_aload_n (pc := 12) (i := 0) dJ7_fill_d0a16_12 rfl rfl ?_
      refine A_iload_n (pc := 13) (i := 3) dJ7_fill_d0a16_13 rfl rfl ?_
      refine A_lload_n (pc := 14) (i := 1) dJ7_fill_d0a16_14 rfl rfl ?_
      refine A_lastore (pc := 15) (n := 64) (by decide) (by decide) rfl dJ7_fill_d0a16_15 (by decide) ?_
      refine A_iinc (pc := 16) (i := 3) (v := (x3 + 1)) (ls2 := [some (vr 17 (some 0)), some (vl w1), none, some (vi (x3 + 1)), some (vi x4)]) dJ7_fill_d0a16_16 rfl rfl (Nat.le_of_ble_eq_true rfl) rfl ?_
      refine A_goto (pc := 19) (tgt := 6) dJ7_fill_d0a16_19 (by decide) ?_
      exact Aw.weak (ls' := [some (vr 17 (some 0)), some (vl w1), none, some (vi (x3 + 1)), some (vi x4)]) ⟨rfl, ⟨rfl, ⟨rfl, ⟨rfl, trivial⟩⟩⟩⟩ (ih w1 (x3 + 1) x4 (wL h 17 0 (Int32.toNatClampNeg x3) w1))
def f_J7_fill_d0a16 (w1 : Int64) (h : Hp) : Option Hp := (fL_J7_fill_d0a16_6 FU w1 (0 : Int32) (64 : Int32) h)
set_option maxRecDepth 100000 in
set_option maxHeartbeats 4000000 in
theorem a_J7_fill_d0a16 (w1 : Int64) (h : Hp) : CtA eV mJ7_fill_d0a16 U0 U0 [vr 17 (some 0), vl w1] h (f_J7_fill_d0a16 w1 h) := by
  refine Ct.of (ls := [some (vr 17 (some 0)), some (vl w1), none, none, none]) (n := 2) (by decide +kernel) rfl rfl rfl ?_
  unfold f_J7_fill_d0a16
  refine A_iconst (pc := 0) (v := (0 : Int32)) dJ7_fill_d0a16_0 (by decide) ?_
  refine A_istore_n (pc := 1) (i := 3) (ls2 := [some (vr 17 (some 0)), some (vl w1), none, some (vi (0 : Int32)), none]) dJ7_fill_d0a16_1 rfl (Nat.le_of_ble_eq_true rfl) rfl ?_
  refine A_aload_n (pc := 2) (i := 0) dJ7_fill_d0a16_2 rfl rfl ?_
  refine A_alen (pc := 3) (v := (64 : Int32)) (by decide) (by decide) (by decide) rfl dJ7_fill_d0a16_3 ?_
  refine A_istore (pc := 4) (i := 4) (ls2 := [some (vr 17 (some 0)), some (vl w1), none, some (vi (0 : Int32)), some (vi (64 : Int32))]) dJ7_fill_d0a16_4 (Nat.le_of_ble_eq_true rfl) rfl ?_
  exact Aw.weak (ls' := [some (vr 17 (some 0)), some (vl w1), none, some (vi (0 : Int32)), some (vi (64 : Int32))]) ⟨rfl, ⟨rfl, ⟨rfl, ⟨rfl, trivial⟩⟩⟩⟩ (aL_J7_fill_d0a16_6 FU w1 (0 : Int32) (64 : Int32) h)

abbrev mX4_allRanks : MD := (yX4_allRanks, cX4_allRanks, 1, (some .int), { frames := 0, cells := 0, slots := 0, locals := 0 }, none)
theorem kD_X4_allRanks : CodeIn mX4_allRanks 0 := ⟨kC_X4_allRanks, by decide +kernel⟩
def f_X4_allRanks (h : Hp) : Option Int32 := (some (((1 : Int32) <<< ((gI h 4 0 6) &&& 31)) - (1 : Int32)))
set_option maxRecDepth 100000 in
set_option maxHeartbeats 4000000 in
theorem a_X4_allRanks (h : Hp) : CtA (eIr h) mX4_allRanks U0 U0 [vr 4 (some 0)] h (f_X4_allRanks h) := by
  refine Ct.of (ls := [some (vr 4 (some 0))]) (n := 0) (by decide +kernel) rfl rfl rfl ?_
  unfold f_X4_allRanks
  refine A_iconst (pc := 0) (v := (1 : Int32)) dX4_allRanks_0 (by decide) ?_
  refine A_aload_n (pc := 1) (i := 0) dX4_allRanks_1 rfl rfl ?_
  refine A_getI (pc := 2) (k := 6) clX4 (Nat.le_of_ble_eq_true rfl) dX4_allRanks_2 kF_X4_94 rfl ?_
  refine A_ishl (pc := 5) dX4_allRanks_5 ?_
  refine A_iconst (pc := 6) (v := (1 : Int32)) dX4_allRanks_6 (by decide) ?_
  refine A_isub (pc := 7) dX4_allRanks_7 ?_
  exact A_retIr rfl dX4_allRanks_8

abbrev mX5_whyNotNextTo : MD := (yX5_whyNotNextTo, cX5_whyNotNextTo, 4, (some .int), { frames := 1, cells := 0, slots := 0, locals := 21 }, none)
theorem kD_X5_whyNotNextTo : CodeIn mX5_whyNotNextTo 2 := ⟨kC_X5_whyNotNextTo, by decide +kernel⟩
def fJ_X5_whyNotNextTo_54 (h : Hp) (i1 : Nat) (i2 : Nat) : Option Int32 := (if (gI h 1 i1 1) = (3 : Int32) then (if (gI h 1 i2 1) = (3 : Int32) then (some (0 : Int32)) else (some (6 : Int32))) else (some (0 : Int32)))
set_option maxRecDepth 100000 in
set_option maxHeartbeats 4000000 in
theorem aJ_X5_whyNotNextTo_54 (h : Hp) (i1 : Nat) (i2 : Nat) : Aw (eIr h) U0 mX5_whyNotNextTo (0, 0) U0 54 [none, some (vr 1 (some i1)), some (vr 1 (some i2)), none] [] h (fJ_X5_whyNotNextTo_54 h i1 i2) := by
  unfold fJ_X5_whyNotNextTo_54
  refine A_aload_n (pc := 54) (i := 1) dX5_whyNotNextTo_54 rfl rfl ?_
  refine A_getI (pc := 55) (k := 1) clX1 (Nat.le_of_ble_eq_true rfl) dX5_whyNotNextTo_55 kF_X5_79 rfl ?_
  refine A_iconst (pc := 58) (v := (3 : Int32)) dX5_whyNotNextTo_58 (by decide) ?_
  refine A_icmp_ne (pc := 59) (tgt := 75) dX5_whyNotNextTo_59 (by decide) ?_ ?_
  · refine A_iconst (pc := 75) (v := (0 : Int32)) dX5_whyNotNextTo_75 (by decide) ?_
    exact A_retIr rfl dX5_whyNotNextTo_76
  · refine A_aload_n (pc := 62) (i := 2) dX5_whyNotNextTo_62 rfl rfl ?_
    refine A_getI (pc := 63) (k := 1) clX1 (Nat.le_of_ble_eq_true rfl) dX5_whyNotNextTo_63 kF_X5_79 rfl ?_
    refine A_iconst (pc := 66) (v := (3 : Int32)) dX5_whyNotNextTo_66 (by decide) ?_
    refine A_icmp_eq (pc := 67) (tgt := 75) dX5_whyNotNextTo_67 (by decide) ?_ ?_
    · refine A_iconst (pc := 75) (v := (0 : Int32)) dX5_whyNotNextTo_75 (by decide) ?_
      exact A_retIr rfl dX5_whyNotNextTo_76
    · refine A_bipush (pc := 70) (v := (6 : Int32)) dX5_whyNotNextTo_70 (by decide) ?_
      refine A_goto (pc := 72) (tgt := 76) dX5_whyNotNextTo_72 (by decide) ?_
      exact A_retIr rfl dX5_whyNotNextTo_76
def fJ_X5_whyNotNextTo_31 (h : Hp) (i1 : Nat) (i2 : Nat) (xs0 : Int32) : Option Int32 := (if xs0 = 0 then (if (gI h 1 i1 2) ≤ ((gI h 1 i2 2) + (gI h 5 0 4)) then (fJ_X5_whyNotNextTo_54 h i1 i2) else (some (5 : Int32))) else (fJ_X5_whyNotNextTo_54 h i1 i2))
set_option maxRecDepth 100000 in
set_option maxHeartbeats 4000000 in
theorem aJ_X5_whyNotNextTo_31 (h : Hp) (i1 : Nat) (i2 : Nat) (xs0 : Int32) : Aw (eIr h) U0 mX5_whyNotNextTo (0, 0) U0 31 [some (vr 5 (some 0)), some (vr 1 (some i1)), some (vr 1 (some i2)), none] [vi xs0] h (fJ_X5_whyNotNextTo_31 h i1 i2 xs0) := by
  unfold fJ_X5_whyNotNextTo_31
  refine A_istore_n (pc := 31) (i := 3) (ls2 := [some (vr 5 (some 0)), some (vr 1 (some i1)), some (vr 1 (some i2)), some (vi xs0)]) dX5_whyNotNextTo_31 rfl (Nat.le_of_ble_eq_true rfl) rfl ?_
  refine A_iload_n (pc := 32) (i := 3) dX5_whyNotNextTo_32 rfl rfl ?_
  refine A_if_ne (pc := 33) (tgt := 54) dX5_whyNotNextTo_33 (by decide) ?_ ?_
  · exact Aw.weak (ls' := [none, some (vr 1 (some i1)), some (vr 1 (some i2)), none]) ⟨rfl, ⟨rfl, trivial⟩⟩ (aJ_X5_whyNotNextTo_54 h i1 i2)
  · refine A_aload_n (pc := 36) (i := 1) dX5_whyNotNextTo_36 rfl rfl ?_
    refine A_getI (pc := 37) (k := 2) clX1 (Nat.le_of_ble_eq_true rfl) dX5_whyNotNextTo_37 kF_X5_86 rfl ?_
    refine A_aload_n (pc := 40) (i := 2) dX5_whyNotNextTo_40 rfl rfl ?_
    refine A_getI (pc := 41) (k := 2) clX1 (Nat.le_of_ble_eq_true rfl) dX5_whyNotNextTo_41 kF_X5_86 rfl ?_
    refine A_aload_n (pc := 44) (i := 0) dX5_whyNotNextTo_44 rfl rfl ?_
    refine A_getI (pc := 45) (k := 4) clX5 (Nat.le_of_ble_eq_true rfl) dX5_whyNotNextTo_45 kF_X5_89 rfl ?_
    refine A_iadd (pc := 48) dX5_whyNotNextTo_48 ?_
    refine A_icmp_le (pc := 49) (tgt := 54) dX5_whyNotNextTo_49 (by decide) ?_ ?_
    · exact Aw.weak (ls' := [none, some (vr 1 (some i1)), some (vr 1 (some i2)), none]) ⟨rfl, ⟨rfl, trivial⟩⟩ (aJ_X5_whyNotNextTo_54 h i1 i2)
    · refine A_iconst (pc := 52) (v := (5 : Int32)) dX5_whyNotNextTo_52 (by decide) ?_
      exact A_retIr rfl dX5_whyNotNextTo_53
def fJ_X5_whyNotNextTo_30 (h : Hp) (i1 : Nat) (i2 : Nat) : Option Int32 := (fJ_X5_whyNotNextTo_31 h i1 i2 (0 : Int32))
set_option maxRecDepth 100000 in
set_option maxHeartbeats 4000000 in
theorem aJ_X5_whyNotNextTo_30 (h : Hp) (i1 : Nat) (i2 : Nat) : Aw (eIr h) U0 mX5_whyNotNextTo (0, 0) U0 30 [some (vr 5 (some 0)), some (vr 1 (some i1)), some (vr 1 (some i2)), none] [] h (fJ_X5_whyNotNextTo_30 h i1 i2) := by
  unfold fJ_X5_whyNotNextTo_30
  refine A_iconst (pc := 30) (v := (0 : Int32)) dX5_whyNotNextTo_30 (by decide) ?_
  exact Aw.weak (ls' := [some (vr 5 (some 0)), some (vr 1 (some i1)), some (vr 1 (some i2)), none]) ⟨rfl, ⟨rfl, ⟨rfl, trivial⟩⟩⟩ (aJ_X5_whyNotNextTo_31 h i1 i2 (0 : Int32))
def f_X5_whyNotNextTo (i1 : Nat) (i2 : Nat) (h : Hp) : Option Int32 := (if (gI h 1 i2 1) = (1 : Int32) then (some (4 : Int32)) else ((f_X1_isOfKind i1 (2 : Int32) h).bind fun r1 => (if r1 = true then ((f_X1_isOfKind i2 (2 : Int32) h).bind fun r2 => (if r2 = true then (fJ_X5_whyNotNextTo_31 h i1 i2 (1 : Int32)) else (fJ_X5_whyNotNextTo_30 h i1 i2))) else (fJ_X5_whyNotNextTo_30 h i1 i2))))
set_option maxRecDepth 100000 in
set_option maxHeartbeats 4000000 in
theorem a_X5_whyNotNextTo (i1 : Nat) (i2 : Nat) (h : Hp) : CtA (eIr h) mX5_whyNotNextTo U0 U0 [vr 5 (some 0), vr 1 (some i1), vr 1 (some i2)] h (f_X5_whyNotNextTo i1 i2 h) := by
  refine Ct.of (ls := [some (vr 5 (some 0)), some (vr 1 (some i1)), some (vr 1 (some i2)), none]) (n := 1) (by decide +kernel) rfl rfl rfl ?_
  unfold f_X5_whyNotNextTo
  refine A_aload_n (pc := 0) (i := 2) dX5_whyNotNextTo_0 rfl rfl ?_
  refine A_getI (pc := 1) (k := 1) clX1 (Nat.le_of_ble_eq_true rfl) dX5_whyNotNextTo_1 kF_X5_79 rfl ?_
  refine A_iconst (pc := 4) (v := (1 : Int32)) dX5_whyNotNextTo_4 (by decide) ?_
  refine A_icmp_ne (pc := 5) (tgt := 10) dX5_whyNotNextTo_5 (by decide) ?_ ?_
  · refine A_aload_n (pc := 10) (i := 1) dX5_whyNotNextTo_10 rfl rfl ?_
    refine A_iconst (pc := 11) (v := (2 : Int32)) dX5_whyNotNextTo_11 (by decide) ?_
    refine A_callV (pc := 12) (M' := mX1_isOfKind) (As := [vi (2 : Int32)]) (st := []) (0, 0) (fun r1 => [vi (bi r1)]) (fun _ => h) (a_X1_isOfKind i1 (2 : Int32) h) kD_X1_isOfKind kM_X5_82 kI_X1_isOfKind kS_X1_isOfKind kN_X1 ⟨(Nat.le_of_ble_eq_true rfl), (Nat.le_of_ble_eq_true rfl)⟩ dX5_whyNotNextTo_12 rfl rfl rfl (by decide) rfl (Nat.le_of_ble_eq_true rfl) (Nat.le_of_ble_eq_true rfl) (Nat.le_of_ble_eq_true rfl) (fun _ => rfl) (fun _ => rfl) (fun r1 => ?_)
    refine A_ifb_eq (pc := 15) (tgt := 30) dX5_whyNotNextTo_15 (by decide) ?_ ?_
    · exact Aw.weak (ls' := [some (vr 5 (some 0)), some (vr 1 (some i1)), some (vr 1 (some i2)), none]) ⟨rfl, ⟨rfl, ⟨rfl, trivial⟩⟩⟩ (aJ_X5_whyNotNextTo_30 h i1 i2)
    · refine A_aload_n (pc := 18) (i := 2) dX5_whyNotNextTo_18 rfl rfl ?_
      refine A_iconst (pc := 19) (v := (2 : Int32)) dX5_whyNotNextTo_19 (by decide) ?_
      refine A_callV (pc := 20) (M' := mX1_isOfKind) (As := [vi (2 : Int32)]) (st := []) (0, 0) (fun r2 => [vi (bi r2)]) (fun _ => h) (a_X1_isOfKind i2 (2 : Int32) h) kD_X1_isOfKind kM_X5_82 kI_X1_isOfKind kS_X1_isOfKind kN_X1 ⟨(Nat.le_of_ble_eq_true rfl), (Nat.le_of_ble_eq_true rfl)⟩ dX5_whyNotNextTo_20 rfl rfl rfl (by decide) rfl (Nat.le_of_ble_eq_true rfl) (Nat.le_of_ble_eq_true rfl) (Nat.le_of_ble_eq_true rfl) (fun _ => rfl) (fun _ => rfl) (fun r2 => ?_)
      refine A_ifb_eq (pc := 23) (tgt := 30) dX5_whyNotNextTo_23 (by decide) ?_ ?_
      · exact Aw.weak (ls' := [some (vr 5 (some 0)), some (vr 1 (some i1)), some (vr 1 (some i2)), none]) ⟨rfl, ⟨rfl, ⟨rfl, trivial⟩⟩⟩ (aJ_X5_whyNotNextTo_30 h i1 i2)
      · refine A_iconst (pc := 26) (v := (1 : Int32)) dX5_whyNotNextTo_26 (by decide) ?_
        refine A_goto (pc := 27) (tgt := 31) dX5_whyNotNextTo_27 (by decide) ?_
        exact Aw.weak (ls' := [some (vr 5 (some 0)), some (vr 1 (some i1)), some (vr 1 (some i2)), none]) ⟨rfl, ⟨rfl, ⟨rfl, trivial⟩⟩⟩ (aJ_X5_whyNotNextTo_31 h i1 i2 (1 : Int32))
  · refine A_iconst (pc := 8) (v := (4 : Int32)) dX5_whyNotNextTo_8 (by decide) ?_
    exact A_retIr rfl dX5_whyNotNextTo_9

abbrev mX4_compareTwo : MD := (yX4_compareTwo, cX4_compareTwo, 6, none, { frames := 2, cells := 0, slots := 0, locals := 44 }, none)
theorem kD_X4_compareTwo : CodeIn mX4_compareTwo 3 := ⟨kC_X4_compareTwo, by decide +kernel⟩
def fJ_X4_compareTwo_50 (x2 : Int32) (x3 : Int32) (i4 : Nat) (i5 : Nat) (h : Hp) : Option Hp := ((f_X1_movesMaybe i5 i4 h).bind fun r6 => (if r6 = true then (if 0 ≤ x2 ∧ x2 < 6 then (if 0 ≤ x2 ∧ x2 < 6 then (some (wI h 14 0 (Int32.toNatClampNeg x2) ((gI h 14 0 (Int32.toNatClampNeg x2)) ||| ((1 : Int32) <<< (x3 &&& 31))))) else none) else none) else (some h)))
set_option maxRecDepth 100000 in
set_option maxHeartbeats 4000000 in
theorem aJ_X4_compareTwo_50 (x2 : Int32) (x3 : Int32) (i4 : Nat) (i5 : Nat) (h : Hp) : Aw eV U0 mX4_compareTwo (0, 0) U0 50 [some (vr 4 (some 0)), none, some (vi x2), some (vi x3), some (vr 1 (some i4)), some (vr 1 (some i5))] [] h (fJ_X4_compareTwo_50 x2 x3 i4 i5 h) := by
  unfold fJ_X4_compareTwo_50
  refine A_aload (pc := 50) (i := 5) dX4_compareTwo_50 rfl ?_
  refine A_aload (pc := 52) (i := 4) dX4_compareTwo_52 rfl ?_
  refine A_callV (pc := 54) (M' := mX1_movesMaybe) (As := [vr 1 (some i4)]) (st := []) (0, 0) (fun r6 => [vi (bi r6)]) (fun _ => h) (a_X1_movesMaybe i5 i4 h) kD_X1_movesMaybe kM_X4_115 kI_X1_movesMaybe kS_X1_movesMaybe kN_X1 ⟨(Nat.le_of_ble_eq_true rfl), (Nat.le_of_ble_eq_true rfl)⟩ dX4_compareTwo_54 rfl rfl rfl (by decide) rfl (Nat.le_of_ble_eq_true rfl) (Nat.le_of_ble_eq_true rfl) (Nat.le_of_ble_eq_true rfl) (fun _ => rfl) (fun _ => rfl) (fun r6 => ?_)
  refine A_ifb_eq (pc := 57) (tgt := 72) dX4_compareTwo_57 (by decide) ?_ ?_
  · exact A_retV rfl dX4_compareTwo_72
  · refine A_aload_n (pc := 60) (i := 0) dX4_compareTwo_60 rfl rfl ?_
    refine A_getS (pc := 61) (k := 2) (tp := 14) clX4 (Nat.le_of_ble_eq_true rfl) dX4_compareTwo_61 kF_X4_21 rfl rfl rfl ?_
    refine A_iload_n (pc := 64) (i := 2) dX4_compareTwo_64 rfl rfl ?_
    refine A_dup2 (pc := 65) dX4_compareTwo_65 (fun _ => rfl) (fun _ => cv_catr _ _) ?_
    refine A_iaload (pc := 66) (n := 6) (by decide) (by decide) rfl dX4_compareTwo_66 (by decide) ?_
    refine A_iconst (pc := 67) (v := (1 : Int32)) dX4_compareTwo_67 (by decide) ?_
    refine A_iload_n (pc := 68) (i := 3) dX4_compareTwo_68 rfl rfl ?_
    refine A_ishl (pc := 69) dX4_compareTwo_69 ?_
    refine A_ior (pc := 70) dX4_compareTwo_70 ?_
    refine A_iastore (pc := 71) (n := 6) (by decide) (by decide) rfl dX4_compareTwo_71 (by decide) ?_
    exact A_retV rfl dX4_compareTwo_72
def f_X4_compareTwo (x2 : Int32) (x3 : Int32) (h : Hp) : Option Hp := (if 0 ≤ x2 ∧ x2 < 6 then (if 0 ≤ x3 ∧ x3 < 6 then (match (gP h 12 0 (Int32.toNatClampNeg x3)) with | none => (some h) | some k3 => (match (gP h 12 0 (Int32.toNatClampNeg x2)) with | none => (some h) | some k4 => ((f_X5_whyNotNextTo k4 k3 h).bind fun r5 => (if r5 = 0 then (if 0 ≤ x2 ∧ x2 < 6 then (if 0 ≤ x2 ∧ x2 < 6 then (fJ_X4_compareTwo_50 x2 x3 k4 k3 (wI h 13 0 (Int32.toNatClampNeg x2) ((gI h 13 0 (Int32.toNatClampNeg x2)) ||| ((1 : Int32) <<< (x3 &&& 31))))) else none) else none) else (fJ_X4_compareTwo_50 x2 x3 k4 k3 h))))) else none) else none)
set_option maxRecDepth 100000 in
set_option maxHeartbeats 4000000 in
theorem a_X4_compareTwo (x2 : Int32) (x3 : Int32) (h : Hp) : CtA eV mX4_compareTwo U0 U0 [vr 4 (some 0), vr 5 (some 0), vi x2, vi x3] h (f_X4_compareTwo x2 x3 h) := by
  refine Ct.of (ls := [some (vr 4 (some 0)), some (vr 5 (some 0)), some (vi x2), some (vi x3), none, none]) (n := 2) (by decide +kernel) rfl rfl rfl ?_
  unfold f_X4_compareTwo
  refine A_aload_n (pc := 0) (i := 0) dX4_compareTwo_0 rfl rfl ?_
  refine A_getS (pc := 1) (k := 0) (tp := 12) clX4 (Nat.le_of_ble_eq_true rfl) dX4_compareTwo_1 kF_X4_13 rfl rfl rfl ?_
  refine A_iload_n (pc := 4) (i := 2) dX4_compareTwo_4 rfl rfl ?_
  refine A_aaload (pc := 5) (n := 6) (te := 1) (C := RX1) (by decide) (by decide) (by decide) (fun _ => rfl) rfl dX4_compareTwo_5 (by decide) ?_
  generalize (gP h 12 0 (Int32.toNatClampNeg x2)) = q1
  refine A_astore (pc := 6) (i := 4) (ls2 := [some (vr 4 (some 0)), some (vr 5 (some 0)), some (vi x2), some (vi x3), some (vr 1 q1), none]) dX4_compareTwo_6 (Nat.le_of_ble_eq_true rfl) rfl ?_
  refine A_aload_n (pc := 8) (i := 0) dX4_compareTwo_8 rfl rfl ?_
  refine A_getS (pc := 9) (k := 0) (tp := 12) clX4 (Nat.le_of_ble_eq_true rfl) dX4_compareTwo_9 kF_X4_13 rfl rfl rfl ?_
  refine A_iload_n (pc := 12) (i := 3) dX4_compareTwo_12 rfl rfl ?_
  refine A_aaload (pc := 13) (n := 6) (te := 1) (C := RX1) (by decide) (by decide) (by decide) (fun _ => rfl) rfl dX4_compareTwo_13 (by decide) ?_
  generalize (gP h 12 0 (Int32.toNatClampNeg x3)) = q2
  refine A_astore (pc := 14) (i := 5) (ls2 := [some (vr 4 (some 0)), some (vr 5 (some 0)), some (vi x2), some (vi x3), some (vr 1 q1), some (vr 1 q2)]) dX4_compareTwo_14 (Nat.le_of_ble_eq_true rfl) rfl ?_
  refine A_aload (pc := 16) (i := 5) dX4_compareTwo_16 rfl ?_
  refine A_ifnull (pc := 18) (tgt := 26) dX4_compareTwo_18 (by decide) (fun hz => ?_) (fun k3 hz => ?_)
  · subst hz
    try dsimp only
    exact A_retV rfl dX4_compareTwo_26
  · subst hz
    try dsimp only
    refine A_aload (pc := 21) (i := 4) dX4_compareTwo_21 rfl ?_
    refine A_ifnonnull (pc := 23) (tgt := 27) dX4_compareTwo_23 (by decide) (fun hz => ?_) (fun k4 hz => ?_)
    · subst hz
      try dsimp only
      exact A_retV rfl dX4_compareTwo_26
    · subst hz
      try dsimp only
      refine A_aload_n (pc := 27) (i := 1) dX4_compareTwo_27 rfl rfl ?_
      refine A_aload (pc := 28) (i := 4) dX4_compareTwo_28 rfl ?_
      refine A_aload (pc := 30) (i := 5) dX4_compareTwo_30 rfl ?_
      refine A_callV (pc := 32) (M' := mX5_whyNotNextTo) (As := [vr 1 (some k4), vr 1 (some k3)]) (st := []) (0, 0) (fun r5 => [vi r5]) (fun _ => h) (a_X5_whyNotNextTo k4 k3 h) kD_X5_whyNotNextTo kM_X4_111 kI_X5_whyNotNextTo kS_X5_whyNotNextTo kN_X5 ⟨(Nat.le_of_ble_eq_true rfl), (Nat.le_of_ble_eq_true rfl)⟩ dX4_compareTwo_32 rfl rfl rfl (by decide) rfl (Nat.le_of_ble_eq_true rfl) (Nat.le_of_ble_eq_true rfl) (Nat.le_of_ble_eq_true rfl) (fun _ => rfl) (fun _ => rfl) (fun r5 => ?_)
      refine A_if_ne (pc := 35) (tgt := 50) dX4_compareTwo_35 (by decide) ?_ ?_
      · exact Aw.weak (ls' := [some (vr 4 (some 0)), none, some (vi x2), some (vi x3), some (vr 1 (some k4)), some (vr 1 (some k3))]) ⟨rfl, ⟨rfl, ⟨rfl, ⟨rfl, ⟨rfl, trivial⟩⟩⟩⟩⟩ (aJ_X4_compareTwo_50 x2 x3 k4 k3 h)
      · refine A_aload_n (pc := 38) (i := 0) dX4_compareTwo_38 rfl rfl ?_
        refine A_getS (pc := 39) (k := 1) (tp := 13) clX4 (Nat.le_of_ble_eq_true rfl) dX4_compareTwo_39 kF_X4_17 rfl rfl rfl ?_
        refine A_iload_n (pc := 42) (i := 2) dX4_compareTwo_42 rfl rfl ?_
        refine A_dup2 (pc := 43) dX4_compareTwo_43 (fun _ => rfl) (fun _ => cv_catr _ _) ?_
        refine A_iaload (pc := 44) (n := 6) (by decide) (by decide) rfl dX4_compareTwo_44 (by decide) ?_
        refine A_iconst (pc := 45) (v := (1 : Int32)) dX4_compareTwo_45 (by decide) ?_
        refine A_iload_n (pc := 46) (i := 3) dX4_compareTwo_46 rfl rfl ?_
        refine A_ishl (pc := 47) dX4_compareTwo_47 ?_
        refine A_ior (pc := 48) dX4_compareTwo_48 ?_
        refine A_iastore (pc := 49) (n := 6) (by decide) (by decide) rfl dX4_compareTwo_49 (by decide) ?_
        exact Aw.weak (ls' := [some (vr 4 (some 0)), none, some (vi x2), some (vi x3), some (vr 1 (some k4)), some (vr 1 (some k3))]) ⟨rfl, ⟨rfl, ⟨rfl, ⟨rfl, ⟨rfl, trivial⟩⟩⟩⟩⟩ (aJ_X4_compareTwo_50 x2 x3 k4 k3 (wI h 13 0 (Int32.toNatClampNeg x2) ((gI h 13 0 (Int32.toNatClampNeg x2)) ||| ((1 : Int32) <<< (x3 &&& 31)))))

abbrev mX4_compareRanks : MD := (yX4_compareRanks, cX4_compareRanks, 4, none, { frames := 3, cells := 0, slots := 0, locals := 69 }, none)
theorem kD_X4_compareRanks : CodeIn mX4_compareRanks 1 := ⟨kC_X4_compareRanks, by decide +kernel⟩
def fL_X4_compareRanks_26 (c2 : Int32 → Hp → Option Hp) : Nat → Int32 → Int32 → Hp → Option Hp
  | 0, _, _, _ => none
  | n + 1, x2, x3, h => (if (gI h 4 0 6) ≤ x3 then (c2 (x2 + 1) h) else ((f_X4_compareTwo x2 x3 h).bind fun r1 => ((fL_X4_compareRanks_26 c2 n) x2 (x3 + 1) r1)))
set_option maxRecDepth 100000 in
set_option maxHeartbeats 4000000 in
theorem aL_X4_compareRanks_26 (c2 : Int32 → Hp → Option Hp) (hc2 : ∀ (x2 : Int32) (h : Hp), Aw eV U0 mX4_compareRanks (0, 0) U0 2 [some (vr 4 (some 0)), some (vr 5 (some 0)), some (vi x2), none] [] h (c2 x2 h)) : ∀ (n : Nat) (x2 : Int32) (x3 : Int32) (h : Hp), Aw eV U0 mX4_compareRanks (0, 0) U0 26 [some (vr 4 (some 0)), some (vr 5 (some 0)), some (vi x2), some (vi x3)] [] h (fL_X4_compareRanks_26 c2 n x2 x3 h) := by
  intro n
  induction n with
  | zero =>
    intro x2 x3 h
    exact Aw.none
  | succ n ih =>
    intro x2 x3 h
    show Aw _ _ _ _ _ _ _ _ _ (fL_X4_compareRanks_26 c2 (n + 1) x2 x3 h)
    unfold fL_X4_compareRanks_26
    refine A_iload_n (pc := 26) (i := 3) dX4_compareRanks_26 rfl rfl ?_
    refine A_aload_n (pc := 27) (i := 0) dX4_compareRanks_27 rfl rfl ?_
    refine A_getI (pc := 28) (k := 6) clX4 (Nat.le_of_ble_eq_true rfl) dX4_compareRanks_28 kF_X4_94 rfl ?_
    refine A_icmp_ge (pc := 31) (tgt := 47) dX4_compareRanks_31 (by decide) ?_ ?_
    · refine A_iinc (pc := 47) (i := 2) (v := (x2 + 1)) (ls2 := [some (vr 4 (some 0)), some (vr 5 (some 0)), some (vi (x2 + 1)), some (vi x3)]) dX4_compareRanks_47 rfl rfl (Nat.le_of_ble_eq_true rfl) rfl ?_
      refine A_goto (pc := 50) (tgt := 2) dX4_compareRanks_50 (by decide) ?_
      exact Aw.weak (ls' := [some (vr 4 (some 0)), some (vr 5 (some 0)), some (vi (x2 + 1)), none]) ⟨rfl, ⟨rfl, ⟨rfl, trivial⟩⟩⟩ (hc2 (x2 + 1) h)
    · refine A_aload_n (pc := 34) (i := 0) dX4_compareRanks_34 rfl rfl ?_
      refine A_aload_n (pc := 35) (i := 1) dX4_compareRanks_35 rfl rfl ?_
      refine A_iload_n (pc := 36) (i := 2) dX4_compareRanks_36 rfl rfl ?_
      refine A_iload_n (pc := 37) (i := 3) dX4_compareRanks_37 rfl rfl ?_
      refine A_callV (pc := 38) (M' := mX4_compareTwo) (As := [vr 5 (some 0), vi x2, vi x3]) (st := []) (0, 0) (fun r1 => []) (fun r1 => r1) (a_X4_compareTwo x2 x3 h) kD_X4_compareTwo kM_X4_107 kI_X4_compareTwo kS_X4_compareTwo kN_X4 ⟨(Nat.le_of_ble_eq_true rfl), (Nat.le_of_ble_eq_true rfl)⟩ dX4_compareRanks_38 rfl rfl rfl (by decide) rfl (Nat.le_of_ble_eq_true rfl) (Nat.le_of_ble_eq_true rfl) (Nat.le_of_ble_eq_true rfl) (fun _ => rfl) (fun _ => rfl) (fun r1 => ?_)
      refine A_iinc (pc := 41) (i := 3) (v := (x3 + 1)) (ls2 := [some (vr 4 (some 0)), some (vr 5 (some 0)), some (vi x2), some (vi (x3 + 1))]) dX4_compareRanks_41 rfl rfl (Nat.le_of_ble_eq_true rfl) rfl ?_
      refine A_goto (pc := 44) (tgt := 26) dX4_compareRanks_44 (by decide) ?_
      exact Aw.weak (ls' := [some (vr 4 (some 0)), some (vr 5 (some 0)), some (vi x2), some (vi (x3 + 1))]) ⟨rfl, ⟨rfl, ⟨rfl, ⟨rfl, trivial⟩⟩⟩⟩ (ih x2 (x3 + 1) r1)
def fL_X4_compareRanks_2 : Nat → Int32 → Hp → Option Hp
  | 0, _, _ => none
  | n + 1, x2, h => (if (gI h 4 0 6) ≤ x2 then (some h) else (if 0 ≤ x2 ∧ x2 < 6 then (if 0 ≤ x2 ∧ x2 < 6 then (fL_X4_compareRanks_26 (fL_X4_compareRanks_2 n) FU x2 (0 : Int32) (wI (wI h 13 0 (Int32.toNatClampNeg x2) (0 : Int32)) 14 0 (Int32.toNatClampNeg x2) (0 : Int32))) else none) else none))
set_option maxRecDepth 100000 in
set_option maxHeartbeats 4000000 in
theorem aL_X4_compareRanks_2 : ∀ (n : Nat) (x2 : Int32) (h : Hp), Aw eV U0 mX4_compareRanks (0, 0) U0 2 [some (vr 4 (some 0)), some (vr 5 (some 0)), some (vi x2), none] [] h (fL_X4_compareRanks_2 n x2 h) := by
  intro n
  induction n with
  | zero =>
    intro x2 h
    exact Aw.none
  | succ n ih =>
    intro x2 h
    show Aw _ _ _ _ _ _ _ _ _ (fL_X4_compareRanks_2 (n + 1) x2 h)
    unfold fL_X4_compareRanks_2
    refine A_iload_n (pc := 2) (i := 2) dX4_compareRanks_2 rfl rfl ?_
    refine A_aload_n (pc := 3) (i := 0) dX4_compareRanks_3 rfl rfl ?_
    refine A_getI (pc := 4) (k := 6) clX4 (Nat.le_of_ble_eq_true rfl) dX4_compareRanks_4 kF_X4_94 rfl ?_
    refine A_icmp_ge (pc := 7) (tgt := 53) dX4_compareRanks_7 (by decide) ?_ ?_
    · exact A_retV rfl dX4_compareRanks_53
    · refine A_aload_n (pc := 10) (i := 0) dX4_compareRanks_10 rfl rfl ?_
      refine A_getS (pc := 11) (k := 1) (tp := 13) clX4 (Nat.le_of_ble_eq_true rfl) dX4_compareRanks_11 kF_X4_17 rfl rfl rfl ?_
      refine A_iload_n (pc := 14) (i := 2) dX4_compareRanks_14 rfl rfl ?_
      refine A_iconst (pc := 15) (v := (0 : Int32)) dX4_compareRanks_15 (by decide) ?_
      refine A_iastore (pc := 16) (n := 6) (by decide) (by decide) rfl dX4_compareRanks_16 (by decide) ?_
      refine A_aload_n (pc := 17) (i := 0) dX4_compareRanks_17 rfl rfl ?_
      refine A_getS (pc := 18) (k := 2) (tp := 14) clX4 (Nat.le_of_ble_eq_true rfl) dX4_compareRanks_18 kF_X4_21 rfl rfl rfl ?_
      refine A_iload_n (pc := 21) (i := 2) dX4_compareRanks_21 rfl rfl ?_
      refine A_iconst (pc := 22) (v := (0 : Int32)) dX4_compareRanks_22 (by decide) ?_
      refine A_iastore (pc := 23) (n := 6) (by decide) (by decide) rfl dX4_compareRanks_23 (by decide) ?_
      refine A_iconst (pc := 24) (v := (0 : Int32)) dX4_compareRanks_24 (by decide) ?_
      refine A_istore_n (pc := 25) (i := 3) (ls2 := [some (vr 4 (some 0)), some (vr 5 (some 0)), some (vi x2), some (vi (0 : Int32))]) dX4_compareRanks_25 rfl (Nat.le_of_ble_eq_true rfl) rfl ?_
      exact Aw.weak (ls' := [some (vr 4 (some 0)), some (vr 5 (some 0)), some (vi x2), some (vi (0 : Int32))]) ⟨rfl, ⟨rfl, ⟨rfl, ⟨rfl, trivial⟩⟩⟩⟩ (aL_X4_compareRanks_26 (fL_X4_compareRanks_2 n) ih FU x2 (0 : Int32) (wI (wI h 13 0 (Int32.toNatClampNeg x2) (0 : Int32)) 14 0 (Int32.toNatClampNeg x2) (0 : Int32)))
def f_X4_compareRanks (h : Hp) : Option Hp := (fL_X4_compareRanks_2 FU (0 : Int32) h)
set_option maxRecDepth 100000 in
set_option maxHeartbeats 4000000 in
theorem a_X4_compareRanks (h : Hp) : CtA eV mX4_compareRanks U0 U0 [vr 4 (some 0), vr 5 (some 0)] h (f_X4_compareRanks h) := by
  refine Ct.of (ls := [some (vr 4 (some 0)), some (vr 5 (some 0)), none, none]) (n := 2) (by decide +kernel) rfl rfl rfl ?_
  unfold f_X4_compareRanks
  refine A_iconst (pc := 0) (v := (0 : Int32)) dX4_compareRanks_0 (by decide) ?_
  refine A_istore_n (pc := 1) (i := 2) (ls2 := [some (vr 4 (some 0)), some (vr 5 (some 0)), some (vi (0 : Int32)), none]) dX4_compareRanks_1 rfl (Nat.le_of_ble_eq_true rfl) rfl ?_
  exact Aw.weak (ls' := [some (vr 4 (some 0)), some (vr 5 (some 0)), some (vi (0 : Int32)), none]) ⟨rfl, ⟨rfl, ⟨rfl, trivial⟩⟩⟩ (aL_X4_compareRanks_2 FU (0 : Int32) h)

abbrev mX4_costInside : MD := (yX4_costInside, cX4_costInside, 6, (some .long), { frames := 1, cells := 0, slots := 0, locals := 30 }, none)
theorem kD_X4_costInside : CodeIn mX4_costInside 2 := ⟨kC_X4_costInside, by decide +kernel⟩
def fL_X4_costInside_7 (h : Hp) : Nat → Int32 → Int32 → Int64 → Int32 → Option Int64
  | 0, _, _, _, _ => none
  | n + 1, x1, x2, w3, x5 => (if (gI h 4 0 6) ≤ x5 then (some w3) else (if ((x2 >>> (x5 &&& 31)) &&& (1 : Int32)) = 0 then ((fL_X4_costInside_7 h n) x1 x2 w3 (x5 + 1)) else (if 0 ≤ ((x1 * (6 : Int32)) + x5) ∧ ((x1 * (6 : Int32)) + x5) < 384 then ((fL_X4_costInside_7 h n) x1 x2 (lmin w3 (gL h 15 0 (Int32.toNatClampNeg ((x1 * (6 : Int32)) + x5)))) (x5 + 1)) else none)))
set_option maxRecDepth 100000 in
set_option maxHeartbeats 4000000 in
theorem aL_X4_costInside_7 (h : Hp) : ∀ (n : Nat) (x1 : Int32) (x2 : Int32) (w3 : Int64) (x5 : Int32), Aw (eLr h) U0 mX4_costInside (0, 0) U0 7 [some (vr 4 (some 0)), some (vi x1), some (vi x2), some (vl w3), none, some (vi x5)] [] h (fL_X4_costInside_7 h n x1 x2 w3 x5) := by
  intro n
  induction n with
  | zero =>
    intro x1 x2 w3 x5
    exact Aw.none
  | succ n ih =>
    intro x1 x2 w3 x5
    show Aw _ _ _ _ _ _ _ _ _ (fL_X4_costInside_7 h (n + 1) x1 x2 w3 x5)
    unfold fL_X4_costInside_7
    refine A_iload (pc := 7) (i := 5) dX4_costInside_7 rfl ?_
    refine A_aload_n (pc := 9) (i := 0) dX4_costInside_9 rfl rfl ?_
    refine A_getI (pc := 10) (k := 6) clX4 (Nat.le_of_ble_eq_true rfl) dX4_costInside_10 kF_X4_94 rfl ?_
    refine A_icmp_ge (pc := 13) (tgt := 48) dX4_costInside_13 (by decide) ?_ ?_
    · refine A_lload_n (pc := 48) (i := 3) dX4_costInside_48 rfl rfl ?_
      exact A_retLr rfl dX4_costInside_49
    · refine A_iload_n (pc := 16) (i := 2) dX4_costInside_16 rfl rfl ?_
      refine A_iload (pc := 17) (i := 5) dX4_costInside_17 rfl ?_
      refine A_ishr (pc := 19) dX4_costInside_19 ?_
      refine A_iconst (pc := 20) (v := (1 : Int32)) dX4_costInside_20 (by decide) ?_
      refine A_iand (pc := 21) dX4_costInside_21 ?_
      refine A_if_eq (pc := 22) (tgt := 42) dX4_costInside_22 (by decide) ?_ ?_
      · refine A_iinc (pc := 42) (i := 5) (v := (x5 + 1)) (ls2 := [some (vr 4 (some 0)), some (vi x1), some (vi x2), some (vl w3), none, some (vi (x5 + 1))]) dX4_costInside_42 rfl rfl (Nat.le_of_ble_eq_true rfl) rfl ?_
        refine A_goto (pc := 45) (tgt := 7) dX4_costInside_45 (by decide) ?_
        exact Aw.weak (ls' := [some (vr 4 (some 0)), some (vi x1), some (vi x2), some (vl w3), none, some (vi (x5 + 1))]) ⟨rfl, ⟨rfl, ⟨rfl, ⟨rfl, ⟨rfl, trivial⟩⟩⟩⟩⟩ (ih x1 x2 w3 (x5 + 1))
      · refine A_lload_n (pc := 25) (i := 3) dX4_costInside_25 rfl rfl ?_
        refine A_aload_n (pc := 26) (i := 0) dX4_costInside_26 rfl rfl ?_
        refine A_getS (pc := 27) (k := 3) (tp := 15) clX4 (Nat.le_of_ble_eq_true rfl) dX4_costInside_27 kF_X4_24 rfl rfl rfl ?_
        refine A_iload_n (pc := 30) (i := 1) dX4_costInside_30 rfl rfl ?_
        refine A_bipush (pc := 31) (v := (6 : Int32)) dX4_costInside_31 (by decide) ?_
        refine A_imul (pc := 33) dX4_costInside_33 ?_
        refine A_iload (pc := 34) (i := 5) dX4_costInside_34 rfl ?_
        refine A_iadd (pc := 36) dX4_costInside_36 ?_
        refine A_laload (pc := 37) (n := 384) (by decide) (by decide) rfl dX4_costInside_37 (by decide) ?_
        refine A_lmin (pc := 38) dX4_costInside_38 kM_X4_123 kT_lmin kN_math kC_lmin (Nat.le_of_ble_eq_true rfl) (Nat.le_of_ble_eq_true rfl) ?_
        refine A_lstore_n (pc := 41) (i := 3) (ls2 := [some (vr 4 (some 0)), some (vi x1), some (vi x2), some (vl (lmin w3 (gL h 15 0 (Int32.toNatClampNeg ((x1 * (6 : Int32)) + x5))))), none, some (vi x5)]) dX4_costInside_41 rfl (Nat.le_of_ble_eq_true rfl) rfl ?_
        refine A_iinc (pc := 42) (i := 5) (v := (x5 + 1)) (ls2 := [some (vr 4 (some 0)), some (vi x1), some (vi x2), some (vl (lmin w3 (gL h 15 0 (Int32.toNatClampNeg ((x1 * (6 : Int32)) + x5))))), none, some (vi (x5 + 1))]) dX4_costInside_42 rfl rfl (Nat.le_of_ble_eq_true rfl) rfl ?_
        refine A_goto (pc := 45) (tgt := 7) dX4_costInside_45 (by decide) ?_
        exact Aw.weak (ls' := [some (vr 4 (some 0)), some (vi x1), some (vi x2), some (vl (lmin w3 (gL h 15 0 (Int32.toNatClampNeg ((x1 * (6 : Int32)) + x5))))), none, some (vi (x5 + 1))]) ⟨rfl, ⟨rfl, ⟨rfl, ⟨rfl, ⟨rfl, trivial⟩⟩⟩⟩⟩ (ih x1 x2 (lmin w3 (gL h 15 0 (Int32.toNatClampNeg ((x1 * (6 : Int32)) + x5)))) (x5 + 1))
def f_X4_costInside (x1 : Int32) (x2 : Int32) (h : Hp) : Option Int64 := (fL_X4_costInside_7 h FU x1 x2 (1099511627776 : Int64) (0 : Int32))
set_option maxRecDepth 100000 in
set_option maxHeartbeats 4000000 in
theorem a_X4_costInside (x1 : Int32) (x2 : Int32) (h : Hp) : CtA (eLr h) mX4_costInside U0 U0 [vr 4 (some 0), vi x1, vi x2] h (f_X4_costInside x1 x2 h) := by
  refine Ct.of (ls := [some (vr 4 (some 0)), some (vi x1), some (vi x2), none, none, none]) (n := 3) (by decide +kernel) rfl rfl rfl ?_
  unfold f_X4_costInside
  refine A_ldc2 (pc := 0) (v := (1099511627776 : Int64)) dX4_costInside_0 kJ_X4_56 ?_
  refine A_lstore_n (pc := 3) (i := 3) (ls2 := [some (vr 4 (some 0)), some (vi x1), some (vi x2), some (vl (1099511627776 : Int64)), none, none]) dX4_costInside_3 rfl (Nat.le_of_ble_eq_true rfl) rfl ?_
  refine A_iconst (pc := 4) (v := (0 : Int32)) dX4_costInside_4 (by decide) ?_
  refine A_istore (pc := 5) (i := 5) (ls2 := [some (vr 4 (some 0)), some (vi x1), some (vi x2), some (vl (1099511627776 : Int64)), none, some (vi (0 : Int32))]) dX4_costInside_5 (Nat.le_of_ble_eq_true rfl) rfl ?_
  exact Aw.weak (ls' := [some (vr 4 (some 0)), some (vi x1), some (vi x2), some (vl (1099511627776 : Int64)), none, some (vi (0 : Int32))]) ⟨rfl, ⟨rfl, ⟨rfl, ⟨rfl, ⟨rfl, trivial⟩⟩⟩⟩⟩ (aL_X4_costInside_7 h FU x1 x2 (1099511627776 : Int64) (0 : Int32))

abbrev mX4_spotShift : MD := (yX4_spotShift, cX4_spotShift, 2, (some .int), { frames := 0, cells := 0, slots := 0, locals := 0 }, none)
theorem kD_X4_spotShift : CodeIn mX4_spotShift 1 := ⟨kC_X4_spotShift, by decide +kernel⟩
def f_X4_spotShift (x1 : Int32) (h : Hp) : Option Int32 := (some ((5 : Int32) * ((5 : Int32) - x1)))
set_option maxRecDepth 100000 in
set_option maxHeartbeats 4000000 in
theorem a_X4_spotShift (x1 : Int32) (h : Hp) : CtA (eIr h) mX4_spotShift U0 U0 [vr 4 (some 0), vi x1] h (f_X4_spotShift x1 h) := by
  refine Ct.of (ls := [some (vr 4 (some 0)), some (vi x1)]) (n := 0) (by decide +kernel) rfl rfl rfl ?_
  unfold f_X4_spotShift
  refine A_iconst (pc := 0) (v := (5 : Int32)) dX4_spotShift_0 (by decide) ?_
  refine A_iconst (pc := 1) (v := (5 : Int32)) dX4_spotShift_1 (by decide) ?_
  refine A_iload_n (pc := 2) (i := 1) dX4_spotShift_2 rfl rfl ?_
  refine A_isub (pc := 3) dX4_spotShift_3 ?_
  refine A_imul (pc := 4) dX4_spotShift_4 ?_
  exact A_retIr rfl dX4_spotShift_5

abbrev mX5_whyNotAtPlace : MD := (yX5_whyNotAtPlace, cX5_whyNotAtPlace, 4, (some .int), { frames := 0, cells := 0, slots := 0, locals := 0 }, none)
theorem kD_X5_whyNotAtPlace : CodeIn mX5_whyNotAtPlace 3 := ⟨kC_X5_whyNotAtPlace, by decide +kernel⟩
def f_X5_whyNotAtPlace (i1 : Nat) (i2 : Nat) (x3 : Int32) (h : Hp) : Option Int32 := (if x3 < (gI h 0 i2 2) then (if (gI h 1 i1 3) ≤ ((gI h 0 i2 0) + (x3 * (gI h 0 i2 1))) then (if (gI h 1 i1 4) = 0 then (some (0 : Int32)) else (if x3 < (gI h 0 i2 3) then (some (0 : Int32)) else (some (3 : Int32)))) else (some (2 : Int32))) else (some (1 : Int32)))
set_option maxRecDepth 100000 in
set_option maxHeartbeats 4000000 in
theorem a_X5_whyNotAtPlace (i1 : Nat) (i2 : Nat) (x3 : Int32) (h : Hp) : CtA (eIr h) mX5_whyNotAtPlace U0 U0 [vr 5 (some 0), vr 1 (some i1), vr 0 (some i2), vi x3] h (f_X5_whyNotAtPlace i1 i2 x3 h) := by
  refine Ct.of (ls := [some (vr 5 (some 0)), some (vr 1 (some i1)), some (vr 0 (some i2)), some (vi x3)]) (n := 0) (by decide +kernel) rfl rfl rfl ?_
  unfold f_X5_whyNotAtPlace
  refine A_iload_n (pc := 0) (i := 3) dX5_whyNotAtPlace_0 rfl rfl ?_
  refine A_aload_n (pc := 1) (i := 2) dX5_whyNotAtPlace_1 rfl rfl ?_
  refine A_getI (pc := 2) (k := 2) clX0 (Nat.le_of_ble_eq_true rfl) dX5_whyNotAtPlace_2 kF_X5_60 rfl ?_
  refine A_icmp_lt (pc := 5) (tgt := 10) dX5_whyNotAtPlace_5 (by decide) ?_ ?_
  · refine A_aload_n (pc := 10) (i := 1) dX5_whyNotAtPlace_10 rfl rfl ?_
    refine A_getI (pc := 11) (k := 3) clX1 (Nat.le_of_ble_eq_true rfl) dX5_whyNotAtPlace_11 kF_X5_63 rfl ?_
    refine A_aload_n (pc := 14) (i := 2) dX5_whyNotAtPlace_14 rfl rfl ?_
    refine A_getI (pc := 15) (k := 0) clX0 (Nat.le_of_ble_eq_true rfl) dX5_whyNotAtPlace_15 kF_X5_66 rfl ?_
    refine A_iload_n (pc := 18) (i := 3) dX5_whyNotAtPlace_18 rfl rfl ?_
    refine A_aload_n (pc := 19) (i := 2) dX5_whyNotAtPlace_19 rfl rfl ?_
    refine A_getI (pc := 20) (k := 1) clX0 (Nat.le_of_ble_eq_true rfl) dX5_whyNotAtPlace_20 kF_X5_69 rfl ?_
    refine A_imul (pc := 23) dX5_whyNotAtPlace_23 ?_
    refine A_iadd (pc := 24) dX5_whyNotAtPlace_24 ?_
    refine A_icmp_le (pc := 25) (tgt := 30) dX5_whyNotAtPlace_25 (by decide) ?_ ?_
    · refine A_aload_n (pc := 30) (i := 1) dX5_whyNotAtPlace_30 rfl rfl ?_
      refine A_getI (pc := 31) (k := 4) clX1 (Nat.le_of_ble_eq_true rfl) dX5_whyNotAtPlace_31 kF_X5_72 rfl ?_
      refine A_if_eq (pc := 34) (tgt := 49) dX5_whyNotAtPlace_34 (by decide) ?_ ?_
      · refine A_iconst (pc := 49) (v := (0 : Int32)) dX5_whyNotAtPlace_49 (by decide) ?_
        exact A_retIr rfl dX5_whyNotAtPlace_50
      · refine A_iload_n (pc := 37) (i := 3) dX5_whyNotAtPlace_37 rfl rfl ?_
        refine A_aload_n (pc := 38) (i := 2) dX5_whyNotAtPlace_38 rfl rfl ?_
        refine A_getI (pc := 39) (k := 3) clX0 (Nat.le_of_ble_eq_true rfl) dX5_whyNotAtPlace_39 kF_X5_76 rfl ?_
        refine A_icmp_lt (pc := 42) (tgt := 49) dX5_whyNotAtPlace_42 (by decide) ?_ ?_
        · refine A_iconst (pc := 49) (v := (0 : Int32)) dX5_whyNotAtPlace_49 (by decide) ?_
          exact A_retIr rfl dX5_whyNotAtPlace_50
        · refine A_iconst (pc := 45) (v := (3 : Int32)) dX5_whyNotAtPlace_45 (by decide) ?_
          refine A_goto (pc := 46) (tgt := 50) dX5_whyNotAtPlace_46 (by decide) ?_
          exact A_retIr rfl dX5_whyNotAtPlace_50
    · refine A_iconst (pc := 28) (v := (2 : Int32)) dX5_whyNotAtPlace_28 (by decide) ?_
      exact A_retIr rfl dX5_whyNotAtPlace_29
  · refine A_iconst (pc := 8) (v := (1 : Int32)) dX5_whyNotAtPlace_8 (by decide) ?_
    exact A_retIr rfl dX5_whyNotAtPlace_9

abbrev mX4_costOutermost : MD := (yX4_costOutermost, cX4_costOutermost, 15, (some .long), { frames := 2, cells := 0, slots := 0, locals := 55 }, none)
theorem kD_X4_costOutermost : CodeIn mX4_costOutermost 5 := ⟨kC_X4_costOutermost, by decide +kernel⟩
def fJ_X4_costOutermost_73 (h : Hp) (x3 : Int32) (x5 : Int32) (x6 : Int32) (x7 : Int32) (ws0 : Int64) : Option Int64 := (if (lg_cmp ws0 (1099511627776 : Int64)) < 0 then (if 0 ≤ x5 ∧ x5 < 6 then ((f_J6_bitCount_0f7a4 (x6 &&& (gI h 14 0 (Int32.toNatClampNeg x5))) h).bind fun r6 => ((f_X4_spotShift x5 h).bind fun r7 => (some ((ws0 + ((Int32.toInt64 r6) <<< (Int32.toInt64 (30 : Int32) &&& 63))) + ((Int32.toInt64 ((x3 <<< ((3 : Int32) &&& 31)) ||| x7)) <<< (Int32.toInt64 r7 &&& 63)))))) else none) else (some (1099511627776 : Int64)))
set_option maxRecDepth 100000 in
set_option maxHeartbeats 4000000 in
theorem aJ_X4_costOutermost_73 (h : Hp) (x3 : Int32) (x5 : Int32) (x6 : Int32) (x7 : Int32) (ws0 : Int64) : Aw (eLr h) U0 mX4_costOutermost (0, 0) U0 73 [some (vr 4 (some 0)), none, none, some (vi x3), none, some (vi x5), some (vi x6), some (vi x7), none, none, none, none, none, none, none] [vl ws0] h (fJ_X4_costOutermost_73 h x3 x5 x6 x7 ws0) := by
  unfold fJ_X4_costOutermost_73
  refine A_lstore (pc := 73) (i := 9) (ls2 := [some (vr 4 (some 0)), none, none, some (vi x3), none, some (vi x5), some (vi x6), some (vi x7), none, some (vl ws0), none, none, none, none, none]) dX4_costOutermost_73 (Nat.le_of_ble_eq_true rfl) rfl ?_
  refine A_lload (pc := 75) (i := 9) dX4_costOutermost_75 rfl ?_
  refine A_ldc2 (pc := 77) (v := (1099511627776 : Int64)) dX4_costOutermost_77 kJ_X4_56 ?_
  refine A_lcmp (pc := 80) dX4_costOutermost_80 ?_
  refine A_if_lt (pc := 81) (tgt := 88) dX4_costOutermost_81 (by decide) ?_ ?_
  · refine A_iload (pc := 88) (i := 6) dX4_costOutermost_88 rfl ?_
    refine A_aload_n (pc := 90) (i := 0) dX4_costOutermost_90 rfl rfl ?_
    refine A_getS (pc := 91) (k := 2) (tp := 14) clX4 (Nat.le_of_ble_eq_true rfl) dX4_costOutermost_91 kF_X4_21 rfl rfl rfl ?_
    refine A_iload (pc := 94) (i := 5) dX4_costOutermost_94 rfl ?_
    refine A_iaload (pc := 96) (n := 6) (by decide) (by decide) rfl dX4_costOutermost_96 (by decide) ?_
    refine A_iand (pc := 97) dX4_costOutermost_97 ?_
    refine A_callS (pc := 98) (M' := mJ6_bitCount_0f7a4) (As := [vi (x6 &&& (gI h 14 0 (Int32.toNatClampNeg x5)))]) (st := []) (0, 0) (fun r6 => [vi r6]) (fun _ => h) (a_J6_bitCount_0f7a4 (x6 &&& (gI h 14 0 (Int32.toNatClampNeg x5))) h) kD_J6_bitCount_0f7a4 kM_X4_41 kT_J6_bitCount_0f7a4 kN_J6 ⟨(Nat.le_of_ble_eq_true rfl), (Nat.le_of_ble_eq_true rfl)⟩ dX4_costOutermost_98 rfl rfl (Nat.le_of_ble_eq_true rfl) (Nat.le_of_ble_eq_true rfl) (Nat.le_of_ble_eq_true rfl) (fun _ => rfl) (fun _ => rfl) (fun r6 => ?_)
    refine A_i2l (pc := 101) dX4_costOutermost_101 ?_
    refine A_lstore (pc := 102) (i := 11) (ls2 := [some (vr 4 (some 0)), none, none, some (vi x3), none, some (vi x5), some (vi x6), some (vi x7), none, some (vl ws0), none, some (vl (Int32.toInt64 r6)), none, none, none]) dX4_costOutermost_102 (Nat.le_of_ble_eq_true rfl) rfl ?_
    refine A_iload_n (pc := 104) (i := 3) dX4_costOutermost_104 rfl rfl ?_
    refine A_iconst (pc := 105) (v := (3 : Int32)) dX4_costOutermost_105 (by decide) ?_
    refine A_ishl (pc := 106) dX4_costOutermost_106 ?_
    refine A_iload (pc := 107) (i := 7) dX4_costOutermost_107 rfl ?_
    refine A_ior (pc := 109) dX4_costOutermost_109 ?_
    refine A_i2l (pc := 110) dX4_costOutermost_110 ?_
    refine A_lstore (pc := 111) (i := 13) (ls2 := [some (vr 4 (some 0)), none, none, some (vi x3), none, some (vi x5), some (vi x6), some (vi x7), none, some (vl ws0), none, some (vl (Int32.toInt64 r6)), none, some (vl (Int32.toInt64 ((x3 <<< ((3 : Int32) &&& 31)) ||| x7))), none]) dX4_costOutermost_111 (Nat.le_of_ble_eq_true rfl) rfl ?_
    refine A_lload (pc := 113) (i := 9) dX4_costOutermost_113 rfl ?_
    refine A_lload (pc := 115) (i := 11) dX4_costOutermost_115 rfl ?_
    refine A_bipush (pc := 117) (v := (30 : Int32)) dX4_costOutermost_117 (by decide) ?_
    refine A_lshl (pc := 119) dX4_costOutermost_119 ?_
    refine A_ladd (pc := 120) dX4_costOutermost_120 ?_
    refine A_lload (pc := 121) (i := 13) dX4_costOutermost_121 rfl ?_
    refine A_aload_n (pc := 123) (i := 0) dX4_costOutermost_123 rfl rfl ?_
    refine A_iload (pc := 124) (i := 5) dX4_costOutermost_124 rfl ?_
    refine A_callV (pc := 126) (M' := mX4_spotShift) (As := [vi x5]) (st := [vl (Int32.toInt64 ((x3 <<< ((3 : Int32) &&& 31)) ||| x7)), vl (ws0 + ((Int32.toInt64 r6) <<< (Int32.toInt64 (30 : Int32) &&& 63)))]) (0, 0) (fun r7 => [vi r7, vl (Int32.toInt64 ((x3 <<< ((3 : Int32) &&& 31)) ||| x7)), vl (ws0 + ((Int32.toInt64 r6) <<< (Int32.toInt64 (30 : Int32) &&& 63)))]) (fun _ => h) (a_X4_spotShift x5 h) kD_X4_spotShift kM_X4_91 kI_X4_spotShift kS_X4_spotShift kN_X4 ⟨(Nat.le_of_ble_eq_true rfl), (Nat.le_of_ble_eq_true rfl)⟩ dX4_costOutermost_126 rfl rfl rfl (by decide) rfl (Nat.le_of_ble_eq_true rfl) (Nat.le_of_ble_eq_true rfl) (Nat.le_of_ble_eq_true rfl) (fun _ => rfl) (fun _ => rfl) (fun r7 => ?_)
    refine A_lshl (pc := 129) dX4_costOutermost_129 ?_
    refine A_ladd (pc := 130) dX4_costOutermost_130 ?_
    exact A_retLr rfl dX4_costOutermost_131
  · refine A_ldc2 (pc := 84) (v := (1099511627776 : Int64)) dX4_costOutermost_84 kJ_X4_56 ?_
    exact A_retLr rfl dX4_costOutermost_87
def f_X4_costOutermost (i2 : Nat) (x3 : Int32) (x4 : Int32) (x5 : Int32) (h : Hp) : Option Int64 := ((f_J6_bitCount_0f7a4 (x4 &&& (((1 : Int32) <<< (x5 &&& 31)) ^^^ (-1 : Int32))) h).bind fun r1 => (if 0 ≤ x5 ∧ x5 < 6 then (match (gP h 12 0 (Int32.toNatClampNeg x5)) with | none => (some (1099511627776 : Int64)) | some k3 => ((f_X5_whyNotAtPlace k3 i2 r1 h).bind fun r4 => (if r4 = 0 then (if (x4 &&& (((1 : Int32) <<< (x5 &&& 31)) ^^^ (-1 : Int32))) = 0 then (fJ_X4_costOutermost_73 h x3 x5 (x4 &&& (((1 : Int32) <<< (x5 &&& 31)) ^^^ (-1 : Int32))) r1 (0 : Int64)) else (if 0 ≤ x5 ∧ x5 < 6 then ((f_X4_costInside (x4 &&& (((1 : Int32) <<< (x5 &&& 31)) ^^^ (-1 : Int32))) ((x4 &&& (((1 : Int32) <<< (x5 &&& 31)) ^^^ (-1 : Int32))) &&& (gI h 13 0 (Int32.toNatClampNeg x5))) h).bind fun r5 => (fJ_X4_costOutermost_73 h x3 x5 (x4 &&& (((1 : Int32) <<< (x5 &&& 31)) ^^^ (-1 : Int32))) r1 r5)) else none)) else (some (1099511627776 : Int64))))) else none))
set_option maxRecDepth 100000 in
set_option maxHeartbeats 4000000 in
theorem a_X4_costOutermost (i2 : Nat) (x3 : Int32) (x4 : Int32) (x5 : Int32) (h : Hp) : CtA (eLr h) mX4_costOutermost U0 U0 [vr 4 (some 0), vr 5 (some 0), vr 0 (some i2), vi x3, vi x4, vi x5] h (f_X4_costOutermost i2 x3 x4 x5 h) := by
  refine Ct.of (ls := [some (vr 4 (some 0)), some (vr 5 (some 0)), some (vr 0 (some i2)), some (vi x3), some (vi x4), some (vi x5), none, none, none, none, none, none, none, none, none]) (n := 9) (by decide +kernel) rfl rfl rfl ?_
  unfold f_X4_costOutermost
  refine A_iload (pc := 0) (i := 4) dX4_costOutermost_0 rfl ?_
  refine A_iconst (pc := 2) (v := (1 : Int32)) dX4_costOutermost_2 (by decide) ?_
  refine A_iload (pc := 3) (i := 5) dX4_costOutermost_3 rfl ?_
  refine A_ishl (pc := 5) dX4_costOutermost_5 ?_
  refine A_iconst (pc := 6) (v := (-1 : Int32)) dX4_costOutermost_6 (by decide) ?_
  refine A_ixor (pc := 7) dX4_costOutermost_7 ?_
  refine A_iand (pc := 8) dX4_costOutermost_8 ?_
  refine A_istore (pc := 9) (i := 6) (ls2 := [some (vr 4 (some 0)), some (vr 5 (some 0)), some (vr 0 (some i2)), some (vi x3), some (vi x4), some (vi x5), some (vi (x4 &&& (((1 : Int32) <<< (x5 &&& 31)) ^^^ (-1 : Int32)))), none, none, none, none, none, none, none, none]) dX4_costOutermost_9 (Nat.le_of_ble_eq_true rfl) rfl ?_
  refine A_iload (pc := 11) (i := 6) dX4_costOutermost_11 rfl ?_
  refine A_callS (pc := 13) (M' := mJ6_bitCount_0f7a4) (As := [vi (x4 &&& (((1 : Int32) <<< (x5 &&& 31)) ^^^ (-1 : Int32)))]) (st := []) (0, 0) (fun r1 => [vi r1]) (fun _ => h) (a_J6_bitCount_0f7a4 (x4 &&& (((1 : Int32) <<< (x5 &&& 31)) ^^^ (-1 : Int32))) h) kD_J6_bitCount_0f7a4 kM_X4_41 kT_J6_bitCount_0f7a4 kN_J6 ⟨(Nat.le_of_ble_eq_true rfl), (Nat.le_of_ble_eq_true rfl)⟩ dX4_costOutermost_13 rfl rfl (Nat.le_of_ble_eq_true rfl) (Nat.le_of_ble_eq_true rfl) (Nat.le_of_ble_eq_true rfl) (fun _ => rfl) (fun _ => rfl) (fun r1 => ?_)
  refine A_istore (pc := 16) (i := 7) (ls2 := [some (vr 4 (some 0)), some (vr 5 (some 0)), some (vr 0 (some i2)), some (vi x3), some (vi x4), some (vi x5), some (vi (x4 &&& (((1 : Int32) <<< (x5 &&& 31)) ^^^ (-1 : Int32)))), some (vi r1), none, none, none, none, none, none, none]) dX4_costOutermost_16 (Nat.le_of_ble_eq_true rfl) rfl ?_
  refine A_aload_n (pc := 18) (i := 0) dX4_costOutermost_18 rfl rfl ?_
  refine A_getS (pc := 19) (k := 0) (tp := 12) clX4 (Nat.le_of_ble_eq_true rfl) dX4_costOutermost_19 kF_X4_13 rfl rfl rfl ?_
  refine A_iload (pc := 22) (i := 5) dX4_costOutermost_22 rfl ?_
  refine A_aaload (pc := 24) (n := 6) (te := 1) (C := RX1) (by decide) (by decide) (by decide) (fun _ => rfl) rfl dX4_costOutermost_24 (by decide) ?_
  generalize (gP h 12 0 (Int32.toNatClampNeg x5)) = q2
  refine A_astore (pc := 25) (i := 8) (ls2 := [some (vr 4 (some 0)), some (vr 5 (some 0)), some (vr 0 (some i2)), some (vi x3), some (vi x4), some (vi x5), some (vi (x4 &&& (((1 : Int32) <<< (x5 &&& 31)) ^^^ (-1 : Int32)))), some (vi r1), some (vr 1 q2), none, none, none, none, none, none]) dX4_costOutermost_25 (Nat.le_of_ble_eq_true rfl) rfl ?_
  refine A_aload (pc := 27) (i := 8) dX4_costOutermost_27 rfl ?_
  refine A_ifnull (pc := 29) (tgt := 44) dX4_costOutermost_29 (by decide) (fun hz => ?_) (fun k3 hz => ?_)
  · subst hz
    try dsimp only
    refine A_ldc2 (pc := 44) (v := (1099511627776 : Int64)) dX4_costOutermost_44 kJ_X4_56 ?_
    exact A_retLr rfl dX4_costOutermost_47
  · subst hz
    try dsimp only
    refine A_aload_n (pc := 32) (i := 1) dX4_costOutermost_32 rfl rfl ?_
    refine A_aload (pc := 33) (i := 8) dX4_costOutermost_33 rfl ?_
    refine A_aload_n (pc := 35) (i := 2) dX4_costOutermost_35 rfl rfl ?_
    refine A_iload (pc := 36) (i := 7) dX4_costOutermost_36 rfl ?_
    refine A_callV (pc := 38) (M' := mX5_whyNotAtPlace) (As := [vr 1 (some k3), vr 0 (some i2), vi r1]) (st := []) (0, 0) (fun r4 => [vi r4]) (fun _ => h) (a_X5_whyNotAtPlace k3 i2 r1 h) kD_X5_whyNotAtPlace kM_X4_129 kI_X5_whyNotAtPlace kS_X5_whyNotAtPlace kN_X5 ⟨(Nat.le_of_ble_eq_true rfl), (Nat.le_of_ble_eq_true rfl)⟩ dX4_costOutermost_38 rfl rfl rfl (by decide) rfl (Nat.le_of_ble_eq_true rfl) (Nat.le_of_ble_eq_true rfl) (Nat.le_of_ble_eq_true rfl) (fun _ => rfl) (fun _ => rfl) (fun r4 => ?_)
    refine A_if_eq (pc := 41) (tgt := 48) dX4_costOutermost_41 (by decide) ?_ ?_
    · refine A_iload (pc := 48) (i := 6) dX4_costOutermost_48 rfl ?_
      refine A_if_ne (pc := 50) (tgt := 57) dX4_costOutermost_50 (by decide) ?_ ?_
      · refine A_aload_n (pc := 57) (i := 0) dX4_costOutermost_57 rfl rfl ?_
        refine A_iload (pc := 58) (i := 6) dX4_costOutermost_58 rfl ?_
        refine A_iload (pc := 60) (i := 6) dX4_costOutermost_60 rfl ?_
        refine A_aload_n (pc := 62) (i := 0) dX4_costOutermost_62 rfl rfl ?_
        refine A_getS (pc := 63) (k := 1) (tp := 13) clX4 (Nat.le_of_ble_eq_true rfl) dX4_costOutermost_63 kF_X4_17 rfl rfl rfl ?_
        refine A_iload (pc := 66) (i := 5) dX4_costOutermost_66 rfl ?_
        refine A_iaload (pc := 68) (n := 6) (by decide) (by decide) rfl dX4_costOutermost_68 (by decide) ?_
        refine A_iand (pc := 69) dX4_costOutermost_69 ?_
        refine A_callV (pc := 70) (M' := mX4_costInside) (As := [vi (x4 &&& (((1 : Int32) <<< (x5 &&& 31)) ^^^ (-1 : Int32))), vi ((x4 &&& (((1 : Int32) <<< (x5 &&& 31)) ^^^ (-1 : Int32))) &&& (gI h 13 0 (Int32.toNatClampNeg x5)))]) (st := []) (0, 0) (fun r5 => [vl r5]) (fun _ => h) (a_X4_costInside (x4 &&& (((1 : Int32) <<< (x5 &&& 31)) ^^^ (-1 : Int32))) ((x4 &&& (((1 : Int32) <<< (x5 &&& 31)) ^^^ (-1 : Int32))) &&& (gI h 13 0 (Int32.toNatClampNeg x5))) h) kD_X4_costInside kM_X4_133 kI_X4_costInside kS_X4_costInside kN_X4 ⟨(Nat.le_of_ble_eq_true rfl), (Nat.le_of_ble_eq_true rfl)⟩ dX4_costOutermost_70 rfl rfl rfl (by decide) rfl (Nat.le_of_ble_eq_true rfl) (Nat.le_of_ble_eq_true rfl) (Nat.le_of_ble_eq_true rfl) (fun _ => rfl) (fun _ => rfl) (fun r5 => ?_)
        exact Aw.weak (ls' := [some (vr 4 (some 0)), none, none, some (vi x3), none, some (vi x5), some (vi (x4 &&& (((1 : Int32) <<< (x5 &&& 31)) ^^^ (-1 : Int32)))), some (vi r1), none, none, none, none, none, none, none]) ⟨rfl, ⟨rfl, ⟨rfl, ⟨rfl, ⟨rfl, trivial⟩⟩⟩⟩⟩ (aJ_X4_costOutermost_73 h x3 x5 (x4 &&& (((1 : Int32) <<< (x5 &&& 31)) ^^^ (-1 : Int32))) r1 r5)
      · refine A_lconst (pc := 53) (v := (0 : Int64)) dX4_costOutermost_53 (by decide) ?_
        refine A_goto (pc := 54) (tgt := 73) dX4_costOutermost_54 (by decide) ?_
        exact Aw.weak (ls' := [some (vr 4 (some 0)), none, none, some (vi x3), none, some (vi x5), some (vi (x4 &&& (((1 : Int32) <<< (x5 &&& 31)) ^^^ (-1 : Int32)))), some (vi r1), none, none, none, none, none, none, none]) ⟨rfl, ⟨rfl, ⟨rfl, ⟨rfl, ⟨rfl, trivial⟩⟩⟩⟩⟩ (aJ_X4_costOutermost_73 h x3 x5 (x4 &&& (((1 : Int32) <<< (x5 &&& 31)) ^^^ (-1 : Int32))) r1 (0 : Int64))
    · refine A_ldc2 (pc := 44) (v := (1099511627776 : Int64)) dX4_costOutermost_44 kJ_X4_56 ?_
      exact A_retLr rfl dX4_costOutermost_47

abbrev mX4_costRows : MD := (yX4_costRows, cX4_costRows, 8, none, { frames := 3, cells := 0, slots := 0, locals := 89 }, none)
theorem kD_X4_costRows : CodeIn mX4_costRows 3 := ⟨kC_X4_costRows, by decide +kernel⟩
def fL_X4_costRows_25 (c3 : Nat → Int32 → Int32 → Hp → Option Hp) : Nat → Nat → Int32 → Int32 → Int32 → Hp → Option Hp
  | 0, _, _, _, _, _ => none
  | n + 1, i2, x3, x4, x5, h => (if (gI h 4 0 6) ≤ x5 then (c3 i2 x3 (x4 + 1) h) else (if ((x4 >>> (x5 &&& 31)) &&& (1 : Int32)) = 0 then ((fL_X4_costRows_25 c3 n) i2 x3 x4 (x5 + 1) h) else ((f_X4_costOutermost i2 x3 x4 x5 h).bind fun r2 => (if 0 ≤ ((x4 * (6 : Int32)) + x5) ∧ ((x4 * (6 : Int32)) + x5) < 384 then (if 0 ≤ x4 ∧ x4 < 64 then (if 0 ≤ x4 ∧ x4 < 64 then ((fL_X4_costRows_25 c3 n) i2 x3 x4 (x5 + 1) (wL (wL h 15 0 (Int32.toNatClampNeg ((x4 * (6 : Int32)) + x5)) r2) 16 0 (Int32.toNatClampNeg x4) (lmin (gL (wL h 15 0 (Int32.toNatClampNeg ((x4 * (6 : Int32)) + x5)) r2) 16 0 (Int32.toNatClampNeg x4)) r2))) else none) else none) else none))))
set_option maxRecDepth 100000 in
set_option maxHeartbeats 4000000 in
theorem aL_X4_costRows_25 (c3 : Nat → Int32 → Int32 → Hp → Option Hp) (hc3 : ∀ (i2 : Nat) (x3 : Int32) (x4 : Int32) (h : Hp), Aw eV U0 mX4_costRows (0, 0) U0 3 [some (vr 4 (some 0)), some (vr 5 (some 0)), some (vr 0 (some i2)), some (vi x3), some (vi x4), none, none, none] [] h (c3 i2 x3 x4 h)) : ∀ (n : Nat) (i2 : Nat) (x3 : Int32) (x4 : Int32) (x5 : Int32) (h : Hp), Aw eV U0 mX4_costRows (0, 0) U0 25 [some (vr 4 (some 0)), some (vr 5 (some 0)), some (vr 0 (some i2)), some (vi x3), some (vi x4), some (vi x5), none, none] [] h (fL_X4_costRows_25 c3 n i2 x3 x4 x5 h) := by
  intro n
  induction n with
  | zero =>
    intro i2 x3 x4 x5 h
    exact Aw.none
  | succ n ih =>
    intro i2 x3 x4 x5 h
    show Aw _ _ _ _ _ _ _ _ _ (fL_X4_costRows_25 c3 (n + 1) i2 x3 x4 x5 h)
    unfold fL_X4_costRows_25
    refine A_iload (pc := 25) (i := 5) dX4_costRows_25 rfl ?_
    refine A_aload_n (pc := 27) (i := 0) dX4_costRows_27 rfl rfl ?_
    refine A_getI (pc := 28) (k := 6) clX4 (Nat.le_of_ble_eq_true rfl) dX4_costRows_28 kF_X4_94 rfl ?_
    refine A_icmp_ge (pc := 31) (tgt := 97) dX4_costRows_31 (by decide) ?_ ?_
    · refine A_iinc (pc := 97) (i := 4) (v := (x4 + 1)) (ls2 := [some (vr 4 (some 0)), some (vr 5 (some 0)), some (vr 0 (some i2)), some (vi x3), some (vi (x4 + 1)), some (vi x5), none, none]) dX4_costRows_97 rfl rfl (Nat.le_of_ble_eq_true rfl) rfl ?_
      refine A_goto (pc := 100) (tgt := 3) dX4_costRows_100 (by decide) ?_
      exact Aw.weak (ls' := [some (vr 4 (some 0)), some (vr 5 (some 0)), some (vr 0 (some i2)), some (vi x3), some (vi (x4 + 1)), none, none, none]) ⟨rfl, ⟨rfl, ⟨rfl, ⟨rfl, ⟨rfl, trivial⟩⟩⟩⟩⟩ (hc3 i2 x3 (x4 + 1) h)
    · refine A_iload (pc := 34) (i := 4) dX4_costRows_34 rfl ?_
      refine A_iload (pc := 36) (i := 5) dX4_costRows_36 rfl ?_
      refine A_ishr (pc := 38) dX4_costRows_38 ?_
      refine A_iconst (pc := 39) (v := (1 : Int32)) dX4_costRows_39 (by decide) ?_
      refine A_iand (pc := 40) dX4_costRows_40 ?_
      refine A_if_eq (pc := 41) (tgt := 91) dX4_costRows_41 (by decide) ?_ ?_
      · refine A_iinc (pc := 91) (i := 5) (v := (x5 + 1)) (ls2 := [some (vr 4 (some 0)), some (vr 5 (some 0)), some (vr 0 (some i2)), some (vi x3), some (vi x4), some (vi (x5 + 1)), none, none]) dX4_costRows_91 rfl rfl (Nat.le_of_ble_eq_true rfl) rfl ?_
        refine A_goto (pc := 94) (tgt := 25) dX4_costRows_94 (by decide) ?_
        exact Aw.weak (ls' := [some (vr 4 (some 0)), some (vr 5 (some 0)), some (vr 0 (some i2)), some (vi x3), some (vi x4), some (vi (x5 + 1)), none, none]) ⟨rfl, ⟨rfl, ⟨rfl, ⟨rfl, ⟨rfl, ⟨rfl, trivial⟩⟩⟩⟩⟩⟩ (ih i2 x3 x4 (x5 + 1) h)
      · refine A_aload_n (pc := 44) (i := 0) dX4_costRows_44 rfl rfl ?_
        refine A_aload_n (pc := 45) (i := 1) dX4_costRows_45 rfl rfl ?_
        refine A_aload_n (pc := 46) (i := 2) dX4_costRows_46 rfl rfl ?_
        refine A_iload_n (pc := 47) (i := 3) dX4_costRows_47 rfl rfl ?_
        refine A_iload (pc := 48) (i := 4) dX4_costRows_48 rfl ?_
        refine A_iload (pc := 50) (i := 5) dX4_costRows_50 rfl ?_
        refine A_callV (pc := 52) (M' := mX4_costOutermost) (As := [vr 5 (some 0), vr 0 (some i2), vi x3, vi x4, vi x5]) (st := []) (0, 0) (fun r2 => [vl r2]) (fun _ => h) (a_X4_costOutermost i2 x3 x4 x5 h) kD_X4_costOutermost kM_X4_119 kI_X4_costOutermost kS_X4_costOutermost kN_X4 ⟨(Nat.le_of_ble_eq_true rfl), (Nat.le_of_ble_eq_true rfl)⟩ dX4_costRows_52 rfl rfl rfl (by decide) rfl (Nat.le_of_ble_eq_true rfl) (Nat.le_of_ble_eq_true rfl) (Nat.le_of_ble_eq_true rfl) (fun _ => rfl) (fun _ => rfl) (fun r2 => ?_)
        refine A_lstore (pc := 55) (i := 6) (ls2 := [some (vr 4 (some 0)), some (vr 5 (some 0)), some (vr 0 (some i2)), some (vi x3), some (vi x4), some (vi x5), some (vl r2), none]) dX4_costRows_55 (Nat.le_of_ble_eq_true rfl) rfl ?_
        refine A_aload_n (pc := 57) (i := 0) dX4_costRows_57 rfl rfl ?_
        refine A_getS (pc := 58) (k := 3) (tp := 15) clX4 (Nat.le_of_ble_eq_true rfl) dX4_costRows_58 kF_X4_24 rfl rfl rfl ?_
        refine A_iload (pc := 61) (i := 4) dX4_costRows_61 rfl ?_
        refine A_bipush (pc := 63) (v := (6 : Int32)) dX4_costRows_63 (by decide) ?_
        refine A_imul (pc := 65) dX4_costRows_65 ?_
        refine A_iload (pc := 66) (i := 5) dX4_costRows_66 rfl ?_
        refine A_iadd (pc := 68) dX4_costRows_68 ?_
        refine A_lload (pc := 69) (i := 6) dX4_costRows_69 rfl ?_
        refine A_lastore (pc := 71) (n := 384) (by decide) (by decide) rfl dX4_costRows_71 (by decide) ?_
        refine A_aload_n (pc := 72) (i := 0) dX4_costRows_72 rfl rfl ?_
        refine A_getS (pc := 73) (k := 4) (tp := 16) clX4 (Nat.le_of_ble_eq_true rfl) dX4_costRows_73 kF_X4_28 rfl rfl rfl ?_
        refine A_iload (pc := 76) (i := 4) dX4_costRows_76 rfl ?_
        refine A_aload_n (pc := 78) (i := 0) dX4_costRows_78 rfl rfl ?_
        refine A_getS (pc := 79) (k := 4) (tp := 16) clX4 (Nat.le_of_ble_eq_true rfl) dX4_costRows_79 kF_X4_28 rfl rfl rfl ?_
        refine A_iload (pc := 82) (i := 4) dX4_costRows_82 rfl ?_
        refine A_laload (pc := 84) (n := 64) (by decide) (by decide) rfl dX4_costRows_84 (by decide) ?_
        refine A_lload (pc := 85) (i := 6) dX4_costRows_85 rfl ?_
        refine A_lmin (pc := 87) dX4_costRows_87 kM_X4_123 kT_lmin kN_math kC_lmin (Nat.le_of_ble_eq_true rfl) (Nat.le_of_ble_eq_true rfl) ?_
        refine A_lastore (pc := 90) (n := 64) (by decide) (by decide) rfl dX4_costRows_90 (by decide) ?_
        refine A_iinc (pc := 91) (i := 5) (v := (x5 + 1)) (ls2 := [some (vr 4 (some 0)), some (vr 5 (some 0)), some (vr 0 (some i2)), some (vi x3), some (vi x4), some (vi (x5 + 1)), some (vl r2), none]) dX4_costRows_91 rfl rfl (Nat.le_of_ble_eq_true rfl) rfl ?_
        refine A_goto (pc := 94) (tgt := 25) dX4_costRows_94 (by decide) ?_
        exact Aw.weak (ls' := [some (vr 4 (some 0)), some (vr 5 (some 0)), some (vr 0 (some i2)), some (vi x3), some (vi x4), some (vi (x5 + 1)), none, none]) ⟨rfl, ⟨rfl, ⟨rfl, ⟨rfl, ⟨rfl, ⟨rfl, trivial⟩⟩⟩⟩⟩⟩ (ih i2 x3 x4 (x5 + 1) (wL (wL h 15 0 (Int32.toNatClampNeg ((x4 * (6 : Int32)) + x5)) r2) 16 0 (Int32.toNatClampNeg x4) (lmin (gL (wL h 15 0 (Int32.toNatClampNeg ((x4 * (6 : Int32)) + x5)) r2) 16 0 (Int32.toNatClampNeg x4)) r2)))
def fL_X4_costRows_3 : Nat → Nat → Int32 → Int32 → Hp → Option Hp
  | 0, _, _, _, _ => none
  | n + 1, i2, x3, x4, h => ((f_X4_allRanks h).bind fun r1 => (if r1 < x4 then (some h) else (if 0 ≤ x4 ∧ x4 < 64 then (fL_X4_costRows_25 (fL_X4_costRows_3 n) FU i2 x3 x4 (0 : Int32) (wL h 16 0 (Int32.toNatClampNeg x4) (1099511627776 : Int64))) else none)))
set_option maxRecDepth 100000 in
set_option maxHeartbeats 4000000 in
theorem aL_X4_costRows_3 : ∀ (n : Nat) (i2 : Nat) (x3 : Int32) (x4 : Int32) (h : Hp), Aw eV U0 mX4_costRows (0, 0) U0 3 [some (vr 4 (some 0)), some (vr 5 (some 0)), some (vr 0 (some i2)), some (vi x3), some (vi x4), none, none, none] [] h (fL_X4_costRows_3 n i2 x3 x4 h) := by
  intro n
  induction n with
  | zero =>
    intro i2 x3 x4 h
    exact Aw.none
  | succ n ih =>
    intro i2 x3 x4 h
    show Aw _ _ _ _ _ _ _ _ _ (fL_X4_costRows_3 (n + 1) i2 x3 x4 h)
    unfold fL_X4_costRows_3
    refine A_iload (pc := 3) (i := 4) dX4_costRows_3 rfl ?_
    refine A_aload_n (pc := 5) (i := 0) dX4_costRows_5 rfl rfl ?_
    refine A_callV (pc := 6) (M' := mX4_allRanks) (As := []) (st := [vi x4]) (0, 0) (fun r1 => [vi r1, vi x4]) (fun _ => h) (a_X4_allRanks h) kD_X4_allRanks kM_X4_78 kI_X4_allRanks kS_X4_allRanks kN_X4 ⟨(Nat.le_of_ble_eq_true rfl), (Nat.le_of_ble_eq_true rfl)⟩ dX4_costRows_6 rfl rfl rfl (by decide) rfl (Nat.le_of_ble_eq_true rfl) (Nat.le_of_ble_eq_true rfl) (Nat.le_of_ble_eq_true rfl) (fun _ => rfl) (fun _ => rfl) (fun r1 => ?_)
    refine A_icmp_gt (pc := 9) (tgt := 103) dX4_costRows_9 (by decide) ?_ ?_
    · exact A_retV rfl dX4_costRows_103
    · refine A_aload_n (pc := 12) (i := 0) dX4_costRows_12 rfl rfl ?_
      refine A_getS (pc := 13) (k := 4) (tp := 16) clX4 (Nat.le_of_ble_eq_true rfl) dX4_costRows_13 kF_X4_28 rfl rfl rfl ?_
      refine A_iload (pc := 16) (i := 4) dX4_costRows_16 rfl ?_
      refine A_ldc2 (pc := 18) (v := (1099511627776 : Int64)) dX4_costRows_18 kJ_X4_56 ?_
      refine A_lastore (pc := 21) (n := 64) (by decide) (by decide) rfl dX4_costRows_21 (by decide) ?_
      refine A_iconst (pc := 22) (v := (0 : Int32)) dX4_costRows_22 (by decide) ?_
      refine A_istore (pc := 23) (i := 5) (ls2 := [some (vr 4 (some 0)), some (vr 5 (some 0)), some (vr 0 (some i2)), some (vi x3), some (vi x4), some (vi (0 : Int32)), none, none]) dX4_costRows_23 (Nat.le_of_ble_eq_true rfl) rfl ?_
      exact Aw.weak (ls' := [some (vr 4 (some 0)), some (vr 5 (some 0)), some (vr 0 (some i2)), some (vi x3), some (vi x4), some (vi (0 : Int32)), none, none]) ⟨rfl, ⟨rfl, ⟨rfl, ⟨rfl, ⟨rfl, ⟨rfl, trivial⟩⟩⟩⟩⟩⟩ (aL_X4_costRows_25 (fL_X4_costRows_3 n) ih FU i2 x3 x4 (0 : Int32) (wL h 16 0 (Int32.toNatClampNeg x4) (1099511627776 : Int64)))
def f_X4_costRows (i2 : Nat) (x3 : Int32) (h : Hp) : Option Hp := (fL_X4_costRows_3 FU i2 x3 (1 : Int32) h)
set_option maxRecDepth 100000 in
set_option maxHeartbeats 4000000 in
theorem a_X4_costRows (i2 : Nat) (x3 : Int32) (h : Hp) : CtA eV mX4_costRows U0 U0 [vr 4 (some 0), vr 5 (some 0), vr 0 (some i2), vi x3] h (f_X4_costRows i2 x3 h) := by
  refine Ct.of (ls := [some (vr 4 (some 0)), some (vr 5 (some 0)), some (vr 0 (some i2)), some (vi x3), none, none, none, none]) (n := 4) (by decide +kernel) rfl rfl rfl ?_
  unfold f_X4_costRows
  refine A_iconst (pc := 0) (v := (1 : Int32)) dX4_costRows_0 (by decide) ?_
  refine A_istore (pc := 1) (i := 4) (ls2 := [some (vr 4 (some 0)), some (vr 5 (some 0)), some (vr 0 (some i2)), some (vi x3), some (vi (1 : Int32)), none, none, none]) dX4_costRows_1 (Nat.le_of_ble_eq_true rfl) rfl ?_
  exact Aw.weak (ls' := [some (vr 4 (some 0)), some (vr 5 (some 0)), some (vr 0 (some i2)), some (vi x3), some (vi (1 : Int32)), none, none, none]) ⟨rfl, ⟨rfl, ⟨rfl, ⟨rfl, ⟨rfl, trivial⟩⟩⟩⟩⟩ (aL_X4_costRows_3 FU i2 x3 (1 : Int32) h)

abbrev mX4_joinBerth : MD := (yX4_joinBerth, cX4_joinBerth, 5, none, { frames := 1, cells := 0, slots := 0, locals := 30 }, none)
theorem kD_X4_joinBerth : CodeIn mX4_joinBerth 0 := ⟨kC_X4_joinBerth, by decide +kernel⟩
def fL_X4_joinBerth_19 (c5 : Int32 → Hp → Option Hp) : Nat → Int32 → Int64 → Int32 → Hp → Option Hp
  | 0, _, _, _, _ => none
  | n + 1, x1, w2, x4, h => (if x4 ≤ 0 then (if 0 ≤ x1 ∧ x1 < 64 then (c5 (x1 + (-1)) (wL h 17 0 (Int32.toNatClampNeg x1) w2)) else none) else (if 0 ≤ x4 ∧ x4 < 64 then (if 0 ≤ (x1 &&& (x4 ^^^ (-1 : Int32))) ∧ (x1 &&& (x4 ^^^ (-1 : Int32))) < 64 then ((fL_X4_joinBerth_19 c5 n) x1 (lmin w2 ((gL h 16 0 (Int32.toNatClampNeg x4)) + (gL h 17 0 (Int32.toNatClampNeg (x1 &&& (x4 ^^^ (-1 : Int32))))))) ((x4 - (1 : Int32)) &&& x1) h) else none) else none))
set_option maxRecDepth 100000 in
set_option maxHeartbeats 4000000 in
theorem aL_X4_joinBerth_19 (c5 : Int32 → Hp → Option Hp) (hc5 : ∀ (x1 : Int32) (h : Hp), Aw eV U0 mX4_joinBerth (0, 0) U0 5 [some (vr 4 (some 0)), some (vi x1), none, none, none] [] h (c5 x1 h)) : ∀ (n : Nat) (x1 : Int32) (w2 : Int64) (x4 : Int32) (h : Hp), Aw eV U0 mX4_joinBerth (0, 0) U0 19 [some (vr 4 (some 0)), some (vi x1), some (vl w2), none, some (vi x4)] [] h (fL_X4_joinBerth_19 c5 n x1 w2 x4 h) := by
  intro n
  induction n with
  | zero =>
    intro x1 w2 x4 h
    exact Aw.none
  | succ n ih =>
    intro x1 w2 x4 h
    show Aw _ _ _ _ _ _ _ _ _ (fL_X4_joinBerth_19 c5 (n + 1) x1 w2 x4 h)
    unfold fL_X4_joinBerth_19
    refine A_iload (pc := 19) (i := 4) dX4_joinBerth_19 rfl ?_
    refine A_if_le (pc := 21) (tgt := 59) dX4_joinBerth_21 (by decide) ?_ ?_
    · refine A_aload_n (pc := 59) (i := 0) dX4_joinBerth_59 rfl rfl ?_
      refine A_getS (pc := 60) (k := 5) (tp := 17) clX4 (Nat.le_of_ble_eq_true rfl) dX4_joinBerth_60 kF_X4_31 rfl rfl rfl ?_
      refine A_iload_n (pc := 63) (i := 1) dX4_joinBerth_63 rfl rfl ?_
      refine A_lload_n (pc := 64) (i := 2) dX4_joinBerth_64 rfl rfl ?_
      refine A_lastore (pc := 65) (n := 64) (by decide) (by decide) rfl dX4_joinBerth_65 (by decide) ?_
      refine A_iinc (pc := 66) (i := 1) (v := (x1 + (-1))) (ls2 := [some (vr 4 (some 0)), some (vi (x1 + (-1))), some (vl w2), none, some (vi x4)]) dX4_joinBerth_66 rfl rfl (Nat.le_of_ble_eq_true rfl) rfl ?_
      refine A_goto (pc := 69) (tgt := 5) dX4_joinBerth_69 (by decide) ?_
      exact Aw.weak (ls' := [some (vr 4 (some 0)), some (vi (x1 + (-1))), none, none, none]) ⟨rfl, ⟨rfl, trivial⟩⟩ (hc5 (x1 + (-1)) (wL h 17 0 (Int32.toNatClampNeg x1) w2))
    · refine A_lload_n (pc := 24) (i := 2) dX4_joinBerth_24 rfl rfl ?_
      refine A_aload_n (pc := 25) (i := 0) dX4_joinBerth_25 rfl rfl ?_
      refine A_getS (pc := 26) (k := 4) (tp := 16) clX4 (Nat.le_of_ble_eq_true rfl) dX4_joinBerth_26 kF_X4_28 rfl rfl rfl ?_
      refine A_iload (pc := 29) (i := 4) dX4_joinBerth_29 rfl ?_
      refine A_laload (pc := 31) (n := 64) (by decide) (by decide) rfl dX4_joinBerth_31 (by decide) ?_
      refine A_aload_n (pc := 32) (i := 0) dX4_joinBerth_32 rfl rfl ?_
      refine A_getS (pc := 33) (k := 5) (tp := 17) clX4 (Nat.le_of_ble_eq_true rfl) dX4_joinBerth_33 kF_X4_31 rfl rfl rfl ?_
      refine A_iload_n (pc := 36) (i := 1) dX4_joinBerth_36 rfl rfl ?_
      refine A_iload (pc := 37) (i := 4) dX4_joinBerth_37 rfl ?_
      refine A_iconst (pc := 39) (v := (-1 : Int32)) dX4_joinBerth_39 (by decide) ?_
      refine A_ixor (pc := 40) dX4_joinBerth_40 ?_
      refine A_iand (pc := 41) dX4_joinBerth_41 ?_
      refine A_laload (pc := 42) (n := 64) (by decide) (by decide) rfl dX4_joinBerth_42 (by decide) ?_
      refine A_ladd (pc := 43) dX4_joinBerth_43 ?_
      refine A_lmin (pc := 44) dX4_joinBerth_44 kM_X4_123 kT_lmin kN_math kC_lmin (Nat.le_of_ble_eq_true rfl) (Nat.le_of_ble_eq_true rfl) ?_
      refine A_lstore_n (pc := 47) (i := 2) (ls2 := [some (vr 4 (some 0)), some (vi x1), some (vl (lmin w2 ((gL h 16 0 (Int32.toNatClampNeg x4)) + (gL h 17 0 (Int32.toNatClampNeg (x1 &&& (x4 ^^^ (-1 : Int32)))))))), none, some (vi x4)]) dX4_joinBerth_47 rfl (Nat.le_of_ble_eq_true rfl) rfl ?_
      refine A_iload (pc := 48) (i := 4) dX4_joinBerth_48 rfl ?_
      refine A_iconst (pc := 50) (v := (1 : Int32)) dX4_joinBerth_50 (by decide) ?_
      refine A_isub (pc := 51) dX4_joinBerth_51 ?_
      refine A_iload_n (pc := 52) (i := 1) dX4_joinBerth_52 rfl rfl ?_
      refine A_iand (pc := 53) dX4_joinBerth_53 ?_
      refine A_istore (pc := 54) (i := 4) (ls2 := [some (vr 4 (some 0)), some (vi x1), some (vl (lmin w2 ((gL h 16 0 (Int32.toNatClampNeg x4)) + (gL h 17 0 (Int32.toNatClampNeg (x1 &&& (x4 ^^^ (-1 : Int32)))))))), none, some (vi ((x4 - (1 : Int32)) &&& x1))]) dX4_joinBerth_54 (Nat.le_of_ble_eq_true rfl) rfl ?_
      refine A_goto (pc := 56) (tgt := 19) dX4_joinBerth_56 (by decide) ?_
      exact Aw.weak (ls' := [some (vr 4 (some 0)), some (vi x1), some (vl (lmin w2 ((gL h 16 0 (Int32.toNatClampNeg x4)) + (gL h 17 0 (Int32.toNatClampNeg (x1 &&& (x4 ^^^ (-1 : Int32)))))))), none, some (vi ((x4 - (1 : Int32)) &&& x1))]) ⟨rfl, ⟨rfl, ⟨rfl, ⟨rfl, trivial⟩⟩⟩⟩ (ih x1 (lmin w2 ((gL h 16 0 (Int32.toNatClampNeg x4)) + (gL h 17 0 (Int32.toNatClampNeg (x1 &&& (x4 ^^^ (-1 : Int32))))))) ((x4 - (1 : Int32)) &&& x1) h)
def fL_X4_joinBerth_5 : Nat → Int32 → Hp → Option Hp
  | 0, _, _ => none
  | n + 1, x1, h => (if x1 ≤ 0 then (some h) else (if 0 ≤ x1 ∧ x1 < 64 then (fL_X4_joinBerth_19 (fL_X4_joinBerth_5 n) FU x1 (gL h 17 0 (Int32.toNatClampNeg x1)) x1 h) else none))
set_option maxRecDepth 100000 in
set_option maxHeartbeats 4000000 in
theorem aL_X4_joinBerth_5 : ∀ (n : Nat) (x1 : Int32) (h : Hp), Aw eV U0 mX4_joinBerth (0, 0) U0 5 [some (vr 4 (some 0)), some (vi x1), none, none, none] [] h (fL_X4_joinBerth_5 n x1 h) := by
  intro n
  induction n with
  | zero =>
    intro x1 h
    exact Aw.none
  | succ n ih =>
    intro x1 h
    show Aw _ _ _ _ _ _ _ _ _ (fL_X4_joinBerth_5 (n + 1) x1 h)
    unfold fL_X4_joinBerth_5
    refine A_iload_n (pc := 5) (i := 1) dX4_joinBerth_5 rfl rfl ?_
    refine A_if_le (pc := 6) (tgt := 72) dX4_joinBerth_6 (by decide) ?_ ?_
    · exact A_retV rfl dX4_joinBerth_72
    · refine A_aload_n (pc := 9) (i := 0) dX4_joinBerth_9 rfl rfl ?_
      refine A_getS (pc := 10) (k := 5) (tp := 17) clX4 (Nat.le_of_ble_eq_true rfl) dX4_joinBerth_10 kF_X4_31 rfl rfl rfl ?_
      refine A_iload_n (pc := 13) (i := 1) dX4_joinBerth_13 rfl rfl ?_
      refine A_laload (pc := 14) (n := 64) (by decide) (by decide) rfl dX4_joinBerth_14 (by decide) ?_
      refine A_lstore_n (pc := 15) (i := 2) (ls2 := [some (vr 4 (some 0)), some (vi x1), some (vl (gL h 17 0 (Int32.toNatClampNeg x1))), none, none]) dX4_joinBerth_15 rfl (Nat.le_of_ble_eq_true rfl) rfl ?_
      refine A_iload_n (pc := 16) (i := 1) dX4_joinBerth_16 rfl rfl ?_
      refine A_istore (pc := 17) (i := 4) (ls2 := [some (vr 4 (some 0)), some (vi x1), some (vl (gL h 17 0 (Int32.toNatClampNeg x1))), none, some (vi x1)]) dX4_joinBerth_17 (Nat.le_of_ble_eq_true rfl) rfl ?_
      exact Aw.weak (ls' := [some (vr 4 (some 0)), some (vi x1), some (vl (gL h 17 0 (Int32.toNatClampNeg x1))), none, some (vi x1)]) ⟨rfl, ⟨rfl, ⟨rfl, ⟨rfl, trivial⟩⟩⟩⟩ (aL_X4_joinBerth_19 (fL_X4_joinBerth_5 n) ih FU x1 (gL h 17 0 (Int32.toNatClampNeg x1)) x1 h)
def f_X4_joinBerth (h : Hp) : Option Hp := ((f_X4_allRanks h).bind fun r1 => (fL_X4_joinBerth_5 FU r1 h))
set_option maxRecDepth 100000 in
set_option maxHeartbeats 4000000 in
theorem a_X4_joinBerth (h : Hp) : CtA eV mX4_joinBerth U0 U0 [vr 4 (some 0)] h (f_X4_joinBerth h) := by
  refine Ct.of (ls := [some (vr 4 (some 0)), none, none, none, none]) (n := 4) (by decide +kernel) rfl rfl rfl ?_
  unfold f_X4_joinBerth
  refine A_aload_n (pc := 0) (i := 0) dX4_joinBerth_0 rfl rfl ?_
  refine A_callV (pc := 1) (M' := mX4_allRanks) (As := []) (st := []) (0, 0) (fun r1 => [vi r1]) (fun _ => h) (a_X4_allRanks h) kD_X4_allRanks kM_X4_78 kI_X4_allRanks kS_X4_allRanks kN_X4 ⟨(Nat.le_of_ble_eq_true rfl), (Nat.le_of_ble_eq_true rfl)⟩ dX4_joinBerth_1 rfl rfl rfl (by decide) rfl (Nat.le_of_ble_eq_true rfl) (Nat.le_of_ble_eq_true rfl) (Nat.le_of_ble_eq_true rfl) (fun _ => rfl) (fun _ => rfl) (fun r1 => ?_)
  refine A_istore_n (pc := 4) (i := 1) (ls2 := [some (vr 4 (some 0)), some (vi r1), none, none, none]) dX4_joinBerth_4 rfl (Nat.le_of_ble_eq_true rfl) rfl ?_
  exact Aw.weak (ls' := [some (vr 4 (some 0)), some (vi r1), none, none, none]) ⟨rfl, ⟨rfl, trivial⟩⟩ (aL_X4_joinBerth_5 FU r1 h)

abbrev mX7_isInSet : MD := (yX7_isInSet, cX7_isInSet, 2, (some .boolean), { frames := 1, cells := 0, slots := 0, locals := 22 }, none)
theorem kD_X7_isInSet : CodeIn mX7_isInSet 2 := ⟨kC_X7_isInSet, by decide +kernel⟩
def f_X7_isInSet (x0 : Int32) (x1 : Int32) (h : Hp) : Option Bool := ((f_X7_isWithin x1 (0 : Int32) (7 : Int32) h).bind fun r1 => (if r1 = true then (if ((x0 >>> (x1 &&& 31)) &&& (1 : Int32)) = 0 then (some false) else (some true)) else (some false)))
set_option maxRecDepth 100000 in
set_option maxHeartbeats 4000000 in
theorem a_X7_isInSet (x0 : Int32) (x1 : Int32) (h : Hp) : CtA (eBr h) mX7_isInSet U0 U0 [vi x0, vi x1] h (f_X7_isInSet x0 x1 h) := by
  refine Ct.of (ls := [some (vi x0), some (vi x1)]) (n := 0) (by decide +kernel) rfl rfl rfl ?_
  unfold f_X7_isInSet
  refine A_iload_n (pc := 0) (i := 1) dX7_isInSet_0 rfl rfl ?_
  refine A_iconst (pc := 1) (v := (0 : Int32)) dX7_isInSet_1 (by decide) ?_
  refine A_bipush (pc := 2) (v := (7 : Int32)) dX7_isInSet_2 (by decide) ?_
  refine A_callS (pc := 4) (M' := mX7_isWithin) (As := [vi x1, vi (0 : Int32), vi (7 : Int32)]) (st := []) (0, 0) (fun r1 => [vi (bi r1)]) (fun _ => h) (a_X7_isWithin x1 (0 : Int32) (7 : Int32) h) kD_X7_isWithin kM_X7_77 kT_X7_isWithin kN_X7 ⟨(Nat.le_of_ble_eq_true rfl), (Nat.le_of_ble_eq_true rfl)⟩ dX7_isInSet_4 rfl rfl (Nat.le_of_ble_eq_true rfl) (Nat.le_of_ble_eq_true rfl) (Nat.le_of_ble_eq_true rfl) (fun _ => rfl) (fun _ => rfl) (fun r1 => ?_)
  refine A_ifb_eq (pc := 7) (tgt := 22) dX7_isInSet_7 (by decide) ?_ ?_
  · refine A_iconst (pc := 22) (v := (0 : Int32)) dX7_isInSet_22 (by decide) ?_
    exact A_retBr rfl rfl dX7_isInSet_23
  · refine A_iload_n (pc := 10) (i := 0) dX7_isInSet_10 rfl rfl ?_
    refine A_iload_n (pc := 11) (i := 1) dX7_isInSet_11 rfl rfl ?_
    refine A_ishr (pc := 12) dX7_isInSet_12 ?_
    refine A_iconst (pc := 13) (v := (1 : Int32)) dX7_isInSet_13 (by decide) ?_
    refine A_iand (pc := 14) dX7_isInSet_14 ?_
    refine A_if_eq (pc := 15) (tgt := 22) dX7_isInSet_15 (by decide) ?_ ?_
    · refine A_iconst (pc := 22) (v := (0 : Int32)) dX7_isInSet_22 (by decide) ?_
      exact A_retBr rfl rfl dX7_isInSet_23
    · refine A_iconst (pc := 18) (v := (1 : Int32)) dX7_isInSet_18 (by decide) ?_
      refine A_goto (pc := 19) (tgt := 23) dX7_isInSet_19 (by decide) ?_
      exact A_retBr rfl rfl dX7_isInSet_23

abbrev mX4_rankBoats : MD := (yX4_rankBoats, cX4_rankBoats, 7, none, { frames := 2, cells := 0, slots := 0, locals := 43 }, none)
theorem kD_X4_rankBoats : CodeIn mX4_rankBoats 2 := ⟨kC_X4_rankBoats, by decide +kernel⟩
def fL_X4_rankBoats_17 : Nat → Int32 → Int32 → Int32 → Hp → Option Hp
  | 0, _, _, _, _ => none
  | n + 1, x2, x4, x5, h => (if x4 ≤ x5 then (some h) else (if 0 ≤ x5 ∧ x5 < 8 then (match (gP h 11 0 (Int32.toNatClampNeg x5)) with | none => ((fL_X4_rankBoats_17 n) x2 x4 (x5 + 1) h) | some k2 => (if (6 : Int32) ≤ (gI h 4 0 6) then ((fL_X4_rankBoats_17 n) x2 x4 (x5 + 1) h) else ((f_X7_isInSet x2 (gI h 1 k2 0) h).bind fun r3 => (if r3 = true then (if 0 ≤ (gI h 4 0 6) ∧ (gI h 4 0 6) < 6 then ((fL_X4_rankBoats_17 n) x2 x4 (x5 + 1) (wI (wP h 12 0 (Int32.toNatClampNeg (gI h 4 0 6)) (some k2)) 4 0 6 ((gI (wP h 12 0 (Int32.toNatClampNeg (gI h 4 0 6)) (some k2)) 4 0 6) + (1 : Int32)))) else none) else ((fL_X4_rankBoats_17 n) x2 x4 (x5 + 1) h))))) else none))
set_option maxRecDepth 100000 in
set_option maxHeartbeats 4000000 in
theorem aL_X4_rankBoats_17 : ∀ (n : Nat) (x2 : Int32) (x4 : Int32) (x5 : Int32) (h : Hp), Aw eV U0 mX4_rankBoats (0, 0) U0 17 [some (vr 4 (some 0)), none, some (vi x2), some (vr 11 (some 0)), some (vi x4), some (vi x5), none] [] h (fL_X4_rankBoats_17 n x2 x4 x5 h) := by
  intro n
  induction n with
  | zero =>
    intro x2 x4 x5 h
    exact Aw.none
  | succ n ih =>
    intro x2 x4 x5 h
    show Aw _ _ _ _ _ _ _ _ _ (fL_X4_rankBoats_17 (n + 1) x2 x4 x5 h)
    unfold fL_X4_rankBoats_17
    refine A_iload (pc := 17) (i := 5) dX4_rankBoats_17 rfl ?_
    refine A_iload (pc := 19) (i := 4) dX4_rankBoats_19 rfl ?_
    refine A_icmp_ge (pc := 21) (tgt := 83) dX4_rankBoats_21 (by decide) ?_ ?_
    · exact A_retV rfl dX4_rankBoats_83
    · refine A_aload_n (pc := 24) (i := 3) dX4_rankBoats_24 rfl rfl ?_
      refine A_iload (pc := 25) (i := 5) dX4_rankBoats_25 rfl ?_
      refine A_aaload (pc := 27) (n := 8) (te := 1) (C := RX1) (by decide) (by decide) (by decide) (fun _ => rfl) rfl dX4_rankBoats_27 (by decide) ?_
      generalize (gP h 11 0 (Int32.toNatClampNeg x5)) = q1
      refine A_astore (pc := 28) (i := 6) (ls2 := [some (vr 4 (some 0)), none, some (vi x2), some (vr 11 (some 0)), some (vi x4), some (vi x5), some (vr 1 q1)]) dX4_rankBoats_28 (Nat.le_of_ble_eq_true rfl) rfl ?_
      refine A_aload (pc := 30) (i := 6) dX4_rankBoats_30 rfl ?_
      refine A_ifnull (pc := 32) (tgt := 77) dX4_rankBoats_32 (by decide) (fun hz => ?_) (fun k2 hz => ?_)
      · subst hz
        try dsimp only
        refine A_iinc (pc := 77) (i := 5) (v := (x5 + 1)) (ls2 := [some (vr 4 (some 0)), none, some (vi x2), some (vr 11 (some 0)), some (vi x4), some (vi (x5 + 1)), some (vr 1 none)]) dX4_rankBoats_77 rfl rfl (Nat.le_of_ble_eq_true rfl) rfl ?_
        refine A_goto (pc := 80) (tgt := 17) dX4_rankBoats_80 (by decide) ?_
        exact Aw.weak (ls' := [some (vr 4 (some 0)), none, some (vi x2), some (vr 11 (some 0)), some (vi x4), some (vi (x5 + 1)), none]) ⟨rfl, ⟨rfl, ⟨rfl, ⟨rfl, ⟨rfl, trivial⟩⟩⟩⟩⟩ (ih x2 x4 (x5 + 1) h)
      · subst hz
        try dsimp only
        refine A_aload_n (pc := 35) (i := 0) dX4_rankBoats_35 rfl rfl ?_
        refine A_getI (pc := 36) (k := 6) clX4 (Nat.le_of_ble_eq_true rfl) dX4_rankBoats_36 kF_X4_94 rfl ?_
        refine A_bipush (pc := 39) (v := (6 : Int32)) dX4_rankBoats_39 (by decide) ?_
        refine A_icmp_ge (pc := 41) (tgt := 77) dX4_rankBoats_41 (by decide) ?_ ?_
        · refine A_iinc (pc := 77) (i := 5) (v := (x5 + 1)) (ls2 := [some (vr 4 (some 0)), none, some (vi x2), some (vr 11 (some 0)), some (vi x4), some (vi (x5 + 1)), some (vr 1 (some k2))]) dX4_rankBoats_77 rfl rfl (Nat.le_of_ble_eq_true rfl) rfl ?_
          refine A_goto (pc := 80) (tgt := 17) dX4_rankBoats_80 (by decide) ?_
          exact Aw.weak (ls' := [some (vr 4 (some 0)), none, some (vi x2), some (vr 11 (some 0)), some (vi x4), some (vi (x5 + 1)), none]) ⟨rfl, ⟨rfl, ⟨rfl, ⟨rfl, ⟨rfl, trivial⟩⟩⟩⟩⟩ (ih x2 x4 (x5 + 1) h)
        · refine A_iload_n (pc := 44) (i := 2) dX4_rankBoats_44 rfl rfl ?_
          refine A_aload (pc := 45) (i := 6) dX4_rankBoats_45 rfl ?_
          refine A_getI (pc := 47) (k := 0) clX1 (Nat.le_of_ble_eq_true rfl) dX4_rankBoats_47 kF_X4_100 rfl ?_
          refine A_callN (pc := 50) (M' := mX7_isInSet) (host := RX7) (As := [vi x2, vi (gI h 1 k2 0)]) (st := []) (0, 0) (fun r3 => [vi (bi r3)]) (fun _ => h) (a_X7_isInSet x2 (gI h 1 k2 0) h) kD_X7_isInSet kQ_X4_103 kT_X7_isInSet kN_X7 ⟨(Nat.le_of_ble_eq_true rfl), (Nat.le_of_ble_eq_true rfl)⟩ dX4_rankBoats_50 rfl rfl (Nat.le_of_ble_eq_true rfl) (Nat.le_of_ble_eq_true rfl) (Nat.le_of_ble_eq_true rfl) (fun _ => rfl) (fun _ => rfl) (fun r3 => ?_)
          refine A_ifb_eq (pc := 53) (tgt := 77) dX4_rankBoats_53 (by decide) ?_ ?_
          · refine A_iinc (pc := 77) (i := 5) (v := (x5 + 1)) (ls2 := [some (vr 4 (some 0)), none, some (vi x2), some (vr 11 (some 0)), some (vi x4), some (vi (x5 + 1)), some (vr 1 (some k2))]) dX4_rankBoats_77 rfl rfl (Nat.le_of_ble_eq_true rfl) rfl ?_
            refine A_goto (pc := 80) (tgt := 17) dX4_rankBoats_80 (by decide) ?_
            exact Aw.weak (ls' := [some (vr 4 (some 0)), none, some (vi x2), some (vr 11 (some 0)), some (vi x4), some (vi (x5 + 1)), none]) ⟨rfl, ⟨rfl, ⟨rfl, ⟨rfl, ⟨rfl, trivial⟩⟩⟩⟩⟩ (ih x2 x4 (x5 + 1) h)
          · refine A_aload_n (pc := 56) (i := 0) dX4_rankBoats_56 rfl rfl ?_
            refine A_getS (pc := 57) (k := 0) (tp := 12) clX4 (Nat.le_of_ble_eq_true rfl) dX4_rankBoats_57 kF_X4_13 rfl rfl rfl ?_
            refine A_aload_n (pc := 60) (i := 0) dX4_rankBoats_60 rfl rfl ?_
            refine A_getI (pc := 61) (k := 6) clX4 (Nat.le_of_ble_eq_true rfl) dX4_rankBoats_61 kF_X4_94 rfl ?_
            refine A_aload (pc := 64) (i := 6) dX4_rankBoats_64 rfl ?_
            refine A_aastore (pc := 66) (n := 6) (te := 1) (by decide) (by decide) (by decide) rfl (by decide) rfl (fun _ => rfl) dX4_rankBoats_66 (by decide) ?_
            refine A_aload_n (pc := 67) (i := 0) dX4_rankBoats_67 rfl rfl ?_
            refine A_dup (pc := 68) dX4_rankBoats_68 (fun _ => cv_catr _ _) ?_
            refine A_getI (pc := 69) (k := 6) clX4 (Nat.le_of_ble_eq_true rfl) dX4_rankBoats_69 kF_X4_94 rfl ?_
            refine A_iconst (pc := 72) (v := (1 : Int32)) dX4_rankBoats_72 (by decide) ?_
            refine A_iadd (pc := 73) dX4_rankBoats_73 ?_
            refine A_putI (pc := 74) (k := 6) clX4 (Nat.le_of_ble_eq_true rfl) dX4_rankBoats_74 kF_X4_94 rfl (Or.inl rfl) ⟨rfl, rfl⟩ ?_
            refine A_iinc (pc := 77) (i := 5) (v := (x5 + 1)) (ls2 := [some (vr 4 (some 0)), none, some (vi x2), some (vr 11 (some 0)), some (vi x4), some (vi (x5 + 1)), some (vr 1 (some k2))]) dX4_rankBoats_77 rfl rfl (Nat.le_of_ble_eq_true rfl) rfl ?_
            refine A_goto (pc := 80) (tgt := 17) dX4_rankBoats_80 (by decide) ?_
            exact Aw.weak (ls' := [some (vr 4 (some 0)), none, some (vi x2), some (vr 11 (some 0)), some (vi x4), some (vi (x5 + 1)), none]) ⟨rfl, ⟨rfl, ⟨rfl, ⟨rfl, ⟨rfl, trivial⟩⟩⟩⟩⟩ (ih x2 x4 (x5 + 1) (wI (wP h 12 0 (Int32.toNatClampNeg (gI h 4 0 6)) (some k2)) 4 0 6 ((gI (wP h 12 0 (Int32.toNatClampNeg (gI h 4 0 6)) (some k2)) 4 0 6) + (1 : Int32))))
def f_X4_rankBoats (x2 : Int32) (h : Hp) : Option Hp := (fL_X4_rankBoats_17 FU x2 (8 : Int32) (0 : Int32) (wI h 4 0 6 (0 : Int32)))
set_option maxRecDepth 100000 in
set_option maxHeartbeats 4000000 in
theorem a_X4_rankBoats (x2 : Int32) (h : Hp) : CtA eV mX4_rankBoats U0 U0 [vr 4 (some 0), vr 5 (some 0), vi x2] h (f_X4_rankBoats x2 h) := by
  refine Ct.of (ls := [some (vr 4 (some 0)), some (vr 5 (some 0)), some (vi x2), none, none, none, none]) (n := 4) (by decide +kernel) rfl rfl rfl ?_
  unfold f_X4_rankBoats
  refine A_aload_n (pc := 0) (i := 0) dX4_rankBoats_0 rfl rfl ?_
  refine A_iconst (pc := 1) (v := (0 : Int32)) dX4_rankBoats_1 (by decide) ?_
  refine A_putI (pc := 2) (k := 6) clX4 (Nat.le_of_ble_eq_true rfl) dX4_rankBoats_2 kF_X4_94 rfl (Or.inl rfl) ⟨rfl, rfl⟩ ?_
  refine A_aload_n (pc := 5) (i := 1) dX4_rankBoats_5 rfl rfl ?_
  refine A_getS (pc := 6) (k := 1) (tp := 11) clX5 (Nat.le_of_ble_eq_true rfl) dX4_rankBoats_6 kF_X4_97 rfl rfl rfl ?_
  refine A_astore_n (pc := 9) (i := 3) (ls2 := [some (vr 4 (some 0)), some (vr 5 (some 0)), some (vi x2), some (vr 11 (some 0)), none, none, none]) dX4_rankBoats_9 rfl (Nat.le_of_ble_eq_true rfl) rfl ?_
  refine A_aload_n (pc := 10) (i := 3) dX4_rankBoats_10 rfl rfl ?_
  refine A_alen (pc := 11) (v := (8 : Int32)) (by decide) (by decide) (by decide) rfl dX4_rankBoats_11 ?_
  refine A_istore (pc := 12) (i := 4) (ls2 := [some (vr 4 (some 0)), some (vr 5 (some 0)), some (vi x2), some (vr 11 (some 0)), some (vi (8 : Int32)), none, none]) dX4_rankBoats_12 (Nat.le_of_ble_eq_true rfl) rfl ?_
  refine A_iconst (pc := 14) (v := (0 : Int32)) dX4_rankBoats_14 (by decide) ?_
  refine A_istore (pc := 15) (i := 5) (ls2 := [some (vr 4 (some 0)), some (vr 5 (some 0)), some (vi x2), some (vr 11 (some 0)), some (vi (8 : Int32)), some (vi (0 : Int32)), none]) dX4_rankBoats_15 (Nat.le_of_ble_eq_true rfl) rfl ?_
  exact Aw.weak (ls' := [some (vr 4 (some 0)), none, some (vi x2), some (vr 11 (some 0)), some (vi (8 : Int32)), some (vi (0 : Int32)), none]) ⟨rfl, ⟨rfl, ⟨rfl, ⟨rfl, ⟨rfl, trivial⟩⟩⟩⟩⟩ (aL_X4_rankBoats_17 FU x2 (8 : Int32) (0 : Int32) (wI h 4 0 6 (0 : Int32)))

abbrev mX5_berthOf : MD := (yX5_berthOf, cX5_berthOf, 2, (some (.object "AbreastQuay$Berth")), { frames := 0, cells := 0, slots := 0, locals := 0 }, none)
theorem kD_X5_berthOf : CodeIn mX5_berthOf 1 := ⟨kC_X5_berthOf, by decide +kernel⟩
def f_X5_berthOf (x1 : Int32) (h : Hp) : Option (Option Nat) := (if x1 < 0 then (some none) else (if (4 : Int32) ≤ x1 then (some none) else (if 0 ≤ x1 ∧ x1 < 4 then (some (gP h 10 0 (Int32.toNatClampNeg x1))) else none)))
set_option maxRecDepth 100000 in
set_option maxHeartbeats 4000000 in
theorem a_X5_berthOf (x1 : Int32) (h : Hp) : CtA (eRr 0 h) mX5_berthOf U0 U0 [vr 5 (some 0), vi x1] h (f_X5_berthOf x1 h) := by
  refine Ct.of (ls := [some (vr 5 (some 0)), some (vi x1)]) (n := 0) (by decide +kernel) rfl rfl rfl ?_
  unfold f_X5_berthOf
  refine A_iload_n (pc := 0) (i := 1) dX5_berthOf_0 rfl rfl ?_
  refine A_if_lt (pc := 1) (tgt := 22) dX5_berthOf_1 (by decide) ?_ ?_
  · refine A_null (pc := 22) 0 dX5_berthOf_22 ?_
    exact A_retRr rfl dX5_berthOf_23
  · refine A_iload_n (pc := 4) (i := 1) dX5_berthOf_4 rfl rfl ?_
    refine A_aload_n (pc := 5) (i := 0) dX5_berthOf_5 rfl rfl ?_
    refine A_getS (pc := 6) (k := 0) (tp := 10) clX5 (Nat.le_of_ble_eq_true rfl) dX5_berthOf_6 kF_X5_11 rfl rfl rfl ?_
    refine A_alen (pc := 9) (v := (4 : Int32)) (by decide) (by decide) (by decide) rfl dX5_berthOf_9 ?_
    refine A_icmp_ge (pc := 10) (tgt := 22) dX5_berthOf_10 (by decide) ?_ ?_
    · refine A_null (pc := 22) 0 dX5_berthOf_22 ?_
      exact A_retRr rfl dX5_berthOf_23
    · refine A_aload_n (pc := 13) (i := 0) dX5_berthOf_13 rfl rfl ?_
      refine A_getS (pc := 14) (k := 0) (tp := 10) clX5 (Nat.le_of_ble_eq_true rfl) dX5_berthOf_14 kF_X5_11 rfl rfl rfl ?_
      refine A_iload_n (pc := 17) (i := 1) dX5_berthOf_17 rfl rfl ?_
      refine A_aaload (pc := 18) (n := 4) (te := 0) (C := RX0) (by decide) (by decide) (by decide) (fun _ => rfl) rfl dX5_berthOf_18 (by decide) ?_
      generalize (gP h 10 0 (Int32.toNatClampNeg x1)) = q1
      refine A_goto (pc := 19) (tgt := 23) dX5_berthOf_19 (by decide) ?_
      exact A_retRr rfl dX5_berthOf_23

abbrev mX4_find : MD := (yX4_find, cX4_find, 5, (some .int), { frames := 4, cells := 0, slots := 0, locals := 116 }, none)
theorem kD_X4_find : CodeIn mX4_find 2 := ⟨kC_X4_find, by decide +kernel⟩
def fL_X4_find_30 : Nat → Int32 → Hp → Option (Int32 × Hp)
  | 0, _, _ => none
  | n + 1, x3, h => (if (gI h 5 0 2) ≤ x3 then ((f_X4_allRanks h).bind fun r4 => (if 0 ≤ r4 ∧ r4 < 64 then (if (lg_cmp (gL (wL h 4 0 7 (gL h 17 0 (Int32.toNatClampNeg r4))) 4 0 7) (1099511627776 : Int64)) < 0 then (some ((Int64.toInt32 ((gL (wL h 4 0 7 (gL h 17 0 (Int32.toNatClampNeg r4))) 4 0 7) >>> (Int32.toInt64 (30 : Int32) &&& 63))), (wL h 4 0 7 (gL h 17 0 (Int32.toNatClampNeg r4))))) else (some ((-1000004 : Int32), (wL h 4 0 7 (gL h 17 0 (Int32.toNatClampNeg r4)))))) else none)) else ((f_X5_berthOf x3 h).bind fun r5 => (match r5 with | none => ((fL_X4_find_30 n) (x3 + 1) h) | some k6 => ((f_X4_costRows k6 x3 h).bind fun r7 => ((f_X4_joinBerth r7).bind fun r8 => ((fL_X4_find_30 n) (x3 + 1) r8))))))
set_option maxRecDepth 100000 in
set_option maxHeartbeats 4000000 in
theorem aL_X4_find_30 : ∀ (n : Nat) (x3 : Int32) (h : Hp), Aw eI U0 mX4_find (0, 0) U0 30 [some (vr 4 (some 0)), some (vr 5 (some 0)), none, some (vi x3), none] [] h (fL_X4_find_30 n x3 h) := by
  intro n
  induction n with
  | zero =>
    intro x3 h
    exact Aw.none
  | succ n ih =>
    intro x3 h
    show Aw _ _ _ _ _ _ _ _ _ (fL_X4_find_30 (n + 1) x3 h)
    unfold fL_X4_find_30
    refine A_iload_n (pc := 30) (i := 3) dX4_find_30 rfl rfl ?_
    refine A_aload_n (pc := 31) (i := 1) dX4_find_31 rfl rfl ?_
    refine A_getI (pc := 32) (k := 2) clX5 (Nat.le_of_ble_eq_true rfl) dX4_find_32 kF_X4_64 rfl ?_
    refine A_icmp_ge (pc := 35) (tgt := 68) dX4_find_35 (by decide) ?_ ?_
    · refine A_aload_n (pc := 68) (i := 0) dX4_find_68 rfl rfl ?_
      refine A_aload_n (pc := 69) (i := 0) dX4_find_69 rfl rfl ?_
      refine A_getS (pc := 70) (k := 5) (tp := 17) clX4 (Nat.le_of_ble_eq_true rfl) dX4_find_70 kF_X4_31 rfl rfl rfl ?_
      refine A_aload_n (pc := 73) (i := 0) dX4_find_73 rfl rfl ?_
      refine A_callV (pc := 74) (M' := mX4_allRanks) (As := []) (st := [vr 17 (some 0), vr 4 (some 0)]) (0, 0) (fun r4 => [vi r4, vr 17 (some 0), vr 4 (some 0)]) (fun _ => h) (a_X4_allRanks h) kD_X4_allRanks kM_X4_78 kI_X4_allRanks kS_X4_allRanks kN_X4 ⟨(Nat.le_of_ble_eq_true rfl), (Nat.le_of_ble_eq_true rfl)⟩ dX4_find_74 rfl rfl rfl (by decide) rfl (Nat.le_of_ble_eq_true rfl) (Nat.le_of_ble_eq_true rfl) (Nat.le_of_ble_eq_true rfl) (fun _ => rfl) (fun _ => rfl) (fun r4 => ?_)
      refine A_laload (pc := 77) (n := 64) (by decide) (by decide) rfl dX4_find_77 (by decide) ?_
      refine A_putL (pc := 78) (k := 7) clX4 (Nat.le_of_ble_eq_true rfl) dX4_find_78 kF_X4_82 rfl (Or.inl rfl) ⟨rfl, rfl⟩ ?_
      refine A_aload_n (pc := 81) (i := 0) dX4_find_81 rfl rfl ?_
      refine A_getL (pc := 82) (k := 7) clX4 (Nat.le_of_ble_eq_true rfl) dX4_find_82 kF_X4_82 rfl ?_
      refine A_ldc2 (pc := 85) (v := (1099511627776 : Int64)) dX4_find_85 kJ_X4_56 ?_
      refine A_lcmp (pc := 88) dX4_find_88 ?_
      refine A_if_lt (pc := 89) (tgt := 97) dX4_find_89 (by decide) ?_ ?_
      · refine A_aload_n (pc := 97) (i := 0) dX4_find_97 rfl rfl ?_
        refine A_getL (pc := 98) (k := 7) clX4 (Nat.le_of_ble_eq_true rfl) dX4_find_98 kF_X4_82 rfl ?_
        refine A_bipush (pc := 101) (v := (30 : Int32)) dX4_find_101 (by decide) ?_
        refine A_lshr (pc := 103) dX4_find_103 ?_
        refine A_l2i (pc := 104) dX4_find_104 ?_
        exact A_retI rfl dX4_find_105
      · refine A_ldc (pc := 92) (v := (-1000004 : Int32)) dX4_find_92 kK_X4_86 ?_
        refine A_goto (pc := 94) (tgt := 105) dX4_find_94 (by decide) ?_
        exact A_retI rfl dX4_find_105
    · refine A_aload_n (pc := 38) (i := 1) dX4_find_38 rfl rfl ?_
      refine A_iload_n (pc := 39) (i := 3) dX4_find_39 rfl rfl ?_
      refine A_callV (pc := 40) (M' := mX5_berthOf) (As := [vi x3]) (st := []) (0, 0) (fun r5 => [vr 0 r5]) (fun _ => h) (a_X5_berthOf x3 h) kD_X5_berthOf kM_X4_67 kI_X5_berthOf kS_X5_berthOf kN_X5 ⟨(Nat.le_of_ble_eq_true rfl), (Nat.le_of_ble_eq_true rfl)⟩ dX4_find_40 rfl rfl rfl (by decide) rfl (Nat.le_of_ble_eq_true rfl) (Nat.le_of_ble_eq_true rfl) (Nat.le_of_ble_eq_true rfl) (fun _ => rfl) (fun _ => rfl) (fun r5 => ?_)
      refine A_astore (pc := 43) (i := 4) (ls2 := [some (vr 4 (some 0)), some (vr 5 (some 0)), none, some (vi x3), some (vr 0 r5)]) dX4_find_43 (Nat.le_of_ble_eq_true rfl) rfl ?_
      refine A_aload (pc := 45) (i := 4) dX4_find_45 rfl ?_
      refine A_ifnull (pc := 47) (tgt := 62) dX4_find_47 (by decide) (fun hz => ?_) (fun k6 hz => ?_)
      · subst hz
        try dsimp only
        refine A_iinc (pc := 62) (i := 3) (v := (x3 + 1)) (ls2 := [some (vr 4 (some 0)), some (vr 5 (some 0)), none, some (vi (x3 + 1)), some (vr 0 none)]) dX4_find_62 rfl rfl (Nat.le_of_ble_eq_true rfl) rfl ?_
        refine A_goto (pc := 65) (tgt := 30) dX4_find_65 (by decide) ?_
        exact Aw.weak (ls' := [some (vr 4 (some 0)), some (vr 5 (some 0)), none, some (vi (x3 + 1)), none]) ⟨rfl, ⟨rfl, ⟨rfl, trivial⟩⟩⟩ (ih (x3 + 1) h)
      · subst hz
        try dsimp only
        refine A_aload_n (pc := 50) (i := 0) dX4_find_50 rfl rfl ?_
        refine A_aload_n (pc := 51) (i := 1) dX4_find_51 rfl rfl ?_
        refine A_aload (pc := 52) (i := 4) dX4_find_52 rfl ?_
        refine A_iload_n (pc := 54) (i := 3) dX4_find_54 rfl rfl ?_
        refine A_callV (pc := 55) (M' := mX4_costRows) (As := [vr 5 (some 0), vr 0 (some k6), vi x3]) (st := []) (0, 0) (fun r7 => []) (fun r7 => r7) (a_X4_costRows k6 x3 h) kD_X4_costRows kM_X4_71 kI_X4_costRows kS_X4_costRows kN_X4 ⟨(Nat.le_of_ble_eq_true rfl), (Nat.le_of_ble_eq_true rfl)⟩ dX4_find_55 rfl rfl rfl (by decide) rfl (Nat.le_of_ble_eq_true rfl) (Nat.le_of_ble_eq_true rfl) (Nat.le_of_ble_eq_true rfl) (fun _ => rfl) (fun _ => rfl) (fun r7 => ?_)
        refine A_aload_n (pc := 58) (i := 0) dX4_find_58 rfl rfl ?_
        refine A_callV (pc := 59) (M' := mX4_joinBerth) (As := []) (st := []) (0, 0) (fun r8 => []) (fun r8 => r8) (a_X4_joinBerth r7) kD_X4_joinBerth kM_X4_75 kI_X4_joinBerth kS_X4_joinBerth kN_X4 ⟨(Nat.le_of_ble_eq_true rfl), (Nat.le_of_ble_eq_true rfl)⟩ dX4_find_59 rfl rfl rfl (by decide) rfl (Nat.le_of_ble_eq_true rfl) (Nat.le_of_ble_eq_true rfl) (Nat.le_of_ble_eq_true rfl) (fun _ => rfl) (fun _ => rfl) (fun r8 => ?_)
        refine A_iinc (pc := 62) (i := 3) (v := (x3 + 1)) (ls2 := [some (vr 4 (some 0)), some (vr 5 (some 0)), none, some (vi (x3 + 1)), some (vr 0 (some k6))]) dX4_find_62 rfl rfl (Nat.le_of_ble_eq_true rfl) rfl ?_
        refine A_goto (pc := 65) (tgt := 30) dX4_find_65 (by decide) ?_
        exact Aw.weak (ls' := [some (vr 4 (some 0)), some (vr 5 (some 0)), none, some (vi (x3 + 1)), none]) ⟨rfl, ⟨rfl, ⟨rfl, trivial⟩⟩⟩ (ih (x3 + 1) r8)
def f_X4_find (x2 : Int32) (h : Hp) : Option (Int32 × Hp) := ((f_X4_rankBoats x2 h).bind fun r1 => ((f_X4_compareRanks r1).bind fun r2 => ((f_J7_fill_d0a16 (1099511627776 : Int64) r2).bind fun r3 => (fL_X4_find_30 FU (0 : Int32) (wL r3 17 0 (Int32.toNatClampNeg (0 : Int32)) (0 : Int64))))))
set_option maxRecDepth 100000 in
set_option maxHeartbeats 4000000 in
theorem a_X4_find (x2 : Int32) (h : Hp) : CtA eI mX4_find U0 U0 [vr 4 (some 0), vr 5 (some 0), vi x2] h (f_X4_find x2 h) := by
  refine Ct.of (ls := [some (vr 4 (some 0)), some (vr 5 (some 0)), some (vi x2), none, none]) (n := 2) (by decide +kernel) rfl rfl rfl ?_
  unfold f_X4_find
  refine A_aload_n (pc := 0) (i := 0) dX4_find_0 rfl rfl ?_
  refine A_aload_n (pc := 1) (i := 1) dX4_find_1 rfl rfl ?_
  refine A_iload_n (pc := 2) (i := 2) dX4_find_2 rfl rfl ?_
  refine A_callV (pc := 3) (M' := mX4_rankBoats) (As := [vr 5 (some 0), vi x2]) (st := []) (0, 0) (fun r1 => []) (fun r1 => r1) (a_X4_rankBoats x2 h) kD_X4_rankBoats kM_X4_48 kI_X4_rankBoats kS_X4_rankBoats kN_X4 ⟨(Nat.le_of_ble_eq_true rfl), (Nat.le_of_ble_eq_true rfl)⟩ dX4_find_3 rfl rfl rfl (by decide) rfl (Nat.le_of_ble_eq_true rfl) (Nat.le_of_ble_eq_true rfl) (Nat.le_of_ble_eq_true rfl) (fun _ => rfl) (fun _ => rfl) (fun r1 => ?_)
  refine A_aload_n (pc := 6) (i := 0) dX4_find_6 rfl rfl ?_
  refine A_aload_n (pc := 7) (i := 1) dX4_find_7 rfl rfl ?_
  refine A_callV (pc := 8) (M' := mX4_compareRanks) (As := [vr 5 (some 0)]) (st := []) (0, 0) (fun r2 => []) (fun r2 => r2) (a_X4_compareRanks r1) kD_X4_compareRanks kM_X4_52 kI_X4_compareRanks kS_X4_compareRanks kN_X4 ⟨(Nat.le_of_ble_eq_true rfl), (Nat.le_of_ble_eq_true rfl)⟩ dX4_find_8 rfl rfl rfl (by decide) rfl (Nat.le_of_ble_eq_true rfl) (Nat.le_of_ble_eq_true rfl) (Nat.le_of_ble_eq_true rfl) (fun _ => rfl) (fun _ => rfl) (fun r2 => ?_)
  refine A_aload_n (pc := 11) (i := 0) dX4_find_11 rfl rfl ?_
  refine A_getS (pc := 12) (k := 5) (tp := 17) clX4 (Nat.le_of_ble_eq_true rfl) dX4_find_12 kF_X4_31 rfl rfl rfl ?_
  refine A_ldc2 (pc := 15) (v := (1099511627776 : Int64)) dX4_find_15 kJ_X4_56 ?_
  refine A_callS (pc := 18) (M' := mJ7_fill_d0a16) (As := [vr 17 (some 0), vl (1099511627776 : Int64)]) (st := []) (0, 0) (fun r3 => []) (fun r3 => r3) (a_J7_fill_d0a16 (1099511627776 : Int64) r2) kD_J7_fill_d0a16 kM_X4_58 kT_J7_fill_d0a16 kN_J7 ⟨(Nat.le_of_ble_eq_true rfl), (Nat.le_of_ble_eq_true rfl)⟩ dX4_find_18 rfl rfl (Nat.le_of_ble_eq_true rfl) (Nat.le_of_ble_eq_true rfl) (Nat.le_of_ble_eq_true rfl) (fun _ => rfl) (fun _ => rfl) (fun r3 => ?_)
  refine A_aload_n (pc := 21) (i := 0) dX4_find_21 rfl rfl ?_
  refine A_getS (pc := 22) (k := 5) (tp := 17) clX4 (Nat.le_of_ble_eq_true rfl) dX4_find_22 kF_X4_31 rfl rfl rfl ?_
  refine A_iconst (pc := 25) (v := (0 : Int32)) dX4_find_25 (by decide) ?_
  refine A_lconst (pc := 26) (v := (0 : Int64)) dX4_find_26 (by decide) ?_
  refine Aw.ifT (q := 0 ≤ (0 : Int32) ∧ (0 : Int32) < 64) (Y := none) (by decide) ?_
  refine A_lastore (pc := 27) (n := 64) (by decide) (by decide) rfl dX4_find_27 (by decide) ?_
  refine A_iconst (pc := 28) (v := (0 : Int32)) dX4_find_28 (by decide) ?_
  refine A_istore_n (pc := 29) (i := 3) (ls2 := [some (vr 4 (some 0)), some (vr 5 (some 0)), some (vi x2), some (vi (0 : Int32)), none]) dX4_find_29 rfl (Nat.le_of_ble_eq_true rfl) rfl ?_
  exact Aw.weak (ls' := [some (vr 4 (some 0)), some (vr 5 (some 0)), none, some (vi (0 : Int32)), none]) ⟨rfl, ⟨rfl, ⟨rfl, trivial⟩⟩⟩ (aL_X4_find_30 FU (0 : Int32) (wL r3 17 0 (Int32.toNatClampNeg (0 : Int32)) (0 : Int64)))

abbrev mX4_spotFor : MD := (yX4_spotFor, cX4_spotFor, 4, (some .int), { frames := 1, cells := 0, slots := 0, locals := 21 }, none)
theorem kD_X4_spotFor : CodeIn mX4_spotFor 2 := ⟨kC_X4_spotFor, by decide +kernel⟩
def f_X4_spotFor (x1 : Int32) (x2 : Int32) (h : Hp) : Option Int32 := ((f_J6_bitCount_0f7a4 (x1 &&& (((1 : Int32) <<< (x2 &&& 31)) - (1 : Int32))) h).bind fun r1 => ((f_X4_spotShift r1 h).bind fun r2 => (some ((Int64.toInt32 ((gL h 4 0 7) >>> (Int32.toInt64 r2 &&& 63))) &&& (31 : Int32)))))
set_option maxRecDepth 100000 in
set_option maxHeartbeats 4000000 in
theorem a_X4_spotFor (x1 : Int32) (x2 : Int32) (h : Hp) : CtA (eIr h) mX4_spotFor U0 U0 [vr 4 (some 0), vi x1, vi x2] h (f_X4_spotFor x1 x2 h) := by
  refine Ct.of (ls := [some (vr 4 (some 0)), some (vi x1), some (vi x2), none]) (n := 1) (by decide +kernel) rfl rfl rfl ?_
  unfold f_X4_spotFor
  refine A_iload_n (pc := 0) (i := 1) dX4_spotFor_0 rfl rfl ?_
  refine A_iconst (pc := 1) (v := (1 : Int32)) dX4_spotFor_1 (by decide) ?_
  refine A_iload_n (pc := 2) (i := 2) dX4_spotFor_2 rfl rfl ?_
  refine A_ishl (pc := 3) dX4_spotFor_3 ?_
  refine A_iconst (pc := 4) (v := (1 : Int32)) dX4_spotFor_4 (by decide) ?_
  refine A_isub (pc := 5) dX4_spotFor_5 ?_
  refine A_iand (pc := 6) dX4_spotFor_6 ?_
  refine A_callS (pc := 7) (M' := mJ6_bitCount_0f7a4) (As := [vi (x1 &&& (((1 : Int32) <<< (x2 &&& 31)) - (1 : Int32)))]) (st := []) (0, 0) (fun r1 => [vi r1]) (fun _ => h) (a_J6_bitCount_0f7a4 (x1 &&& (((1 : Int32) <<< (x2 &&& 31)) - (1 : Int32))) h) kD_J6_bitCount_0f7a4 kM_X4_41 kT_J6_bitCount_0f7a4 kN_J6 ⟨(Nat.le_of_ble_eq_true rfl), (Nat.le_of_ble_eq_true rfl)⟩ dX4_spotFor_7 rfl rfl (Nat.le_of_ble_eq_true rfl) (Nat.le_of_ble_eq_true rfl) (Nat.le_of_ble_eq_true rfl) (fun _ => rfl) (fun _ => rfl) (fun r1 => ?_)
  refine A_istore_n (pc := 10) (i := 3) (ls2 := [some (vr 4 (some 0)), some (vi x1), some (vi x2), some (vi r1)]) dX4_spotFor_10 rfl (Nat.le_of_ble_eq_true rfl) rfl ?_
  refine A_aload_n (pc := 11) (i := 0) dX4_spotFor_11 rfl rfl ?_
  refine A_getL (pc := 12) (k := 7) clX4 (Nat.le_of_ble_eq_true rfl) dX4_spotFor_12 kF_X4_82 rfl ?_
  refine A_aload_n (pc := 15) (i := 0) dX4_spotFor_15 rfl rfl ?_
  refine A_iload_n (pc := 16) (i := 3) dX4_spotFor_16 rfl rfl ?_
  refine A_callV (pc := 17) (M' := mX4_spotShift) (As := [vi r1]) (st := [vl (gL h 4 0 7)]) (0, 0) (fun r2 => [vi r2, vl (gL h 4 0 7)]) (fun _ => h) (a_X4_spotShift r1 h) kD_X4_spotShift kM_X4_91 kI_X4_spotShift kS_X4_spotShift kN_X4 ⟨(Nat.le_of_ble_eq_true rfl), (Nat.le_of_ble_eq_true rfl)⟩ dX4_spotFor_17 rfl rfl rfl (by decide) rfl (Nat.le_of_ble_eq_true rfl) (Nat.le_of_ble_eq_true rfl) (Nat.le_of_ble_eq_true rfl) (fun _ => rfl) (fun _ => rfl) (fun r2 => ?_)
  refine A_lshr (pc := 20) dX4_spotFor_20 ?_
  refine A_l2i (pc := 21) dX4_spotFor_21 ?_
  refine A_bipush (pc := 22) (v := (31 : Int32)) dX4_spotFor_22 (by decide) ?_
  refine A_iand (pc := 24) dX4_spotFor_24 ?_
  exact A_retIr rfl dX4_spotFor_25

abbrev mX4_berthFor : MD := (yX4_berthFor, cX4_berthFor, 3, (some .int), { frames := 2, cells := 0, slots := 0, locals := 44 }, none)
theorem kD_X4_berthFor : CodeIn mX4_berthFor 2 := ⟨kC_X4_berthFor, by decide +kernel⟩
def f_X4_berthFor (x1 : Int32) (x2 : Int32) (h : Hp) : Option Int32 := ((f_X4_spotFor x1 x2 h).bind fun r1 => (some (r1 >>> ((3 : Int32) &&& 31))))
set_option maxRecDepth 100000 in
set_option maxHeartbeats 4000000 in
theorem a_X4_berthFor (x1 : Int32) (x2 : Int32) (h : Hp) : CtA (eIr h) mX4_berthFor U0 U0 [vr 4 (some 0), vi x1, vi x2] h (f_X4_berthFor x1 x2 h) := by
  refine Ct.of (ls := [some (vr 4 (some 0)), some (vi x1), some (vi x2)]) (n := 0) (by decide +kernel) rfl rfl rfl ?_
  unfold f_X4_berthFor
  refine A_aload_n (pc := 0) (i := 0) dX4_berthFor_0 rfl rfl ?_
  refine A_iload_n (pc := 1) (i := 1) dX4_berthFor_1 rfl rfl ?_
  refine A_iload_n (pc := 2) (i := 2) dX4_berthFor_2 rfl rfl ?_
  refine A_callV (pc := 3) (M' := mX4_spotFor) (As := [vi x1, vi x2]) (st := []) (0, 0) (fun r1 => [vi r1]) (fun _ => h) (a_X4_spotFor x1 x2 h) kD_X4_spotFor kM_X4_87 kI_X4_spotFor kS_X4_spotFor kN_X4 ⟨(Nat.le_of_ble_eq_true rfl), (Nat.le_of_ble_eq_true rfl)⟩ dX4_berthFor_3 rfl rfl rfl (by decide) rfl (Nat.le_of_ble_eq_true rfl) (Nat.le_of_ble_eq_true rfl) (Nat.le_of_ble_eq_true rfl) (fun _ => rfl) (fun _ => rfl) (fun r1 => ?_)
  refine A_iconst (pc := 6) (v := (3 : Int32)) dX4_berthFor_6 (by decide) ?_
  refine A_ishr (pc := 7) dX4_berthFor_7 ?_
  exact A_retIr rfl dX4_berthFor_8

abbrev mX4_placeFor : MD := (yX4_placeFor, cX4_placeFor, 3, (some .int), { frames := 2, cells := 0, slots := 0, locals := 44 }, none)
theorem kD_X4_placeFor : CodeIn mX4_placeFor 2 := ⟨kC_X4_placeFor, by decide +kernel⟩
def f_X4_placeFor (x1 : Int32) (x2 : Int32) (h : Hp) : Option Int32 := ((f_X4_spotFor x1 x2 h).bind fun r1 => (some (r1 &&& (7 : Int32))))
set_option maxRecDepth 100000 in
set_option maxHeartbeats 4000000 in
theorem a_X4_placeFor (x1 : Int32) (x2 : Int32) (h : Hp) : CtA (eIr h) mX4_placeFor U0 U0 [vr 4 (some 0), vi x1, vi x2] h (f_X4_placeFor x1 x2 h) := by
  refine Ct.of (ls := [some (vr 4 (some 0)), some (vi x1), some (vi x2)]) (n := 0) (by decide +kernel) rfl rfl rfl ?_
  unfold f_X4_placeFor
  refine A_aload_n (pc := 0) (i := 0) dX4_placeFor_0 rfl rfl ?_
  refine A_iload_n (pc := 1) (i := 1) dX4_placeFor_1 rfl rfl ?_
  refine A_iload_n (pc := 2) (i := 2) dX4_placeFor_2 rfl rfl ?_
  refine A_callV (pc := 3) (M' := mX4_spotFor) (As := [vi x1, vi x2]) (st := []) (0, 0) (fun r1 => [vi r1]) (fun _ => h) (a_X4_spotFor x1 x2 h) kD_X4_spotFor kM_X4_87 kI_X4_spotFor kS_X4_spotFor kN_X4 ⟨(Nat.le_of_ble_eq_true rfl), (Nat.le_of_ble_eq_true rfl)⟩ dX4_placeFor_3 rfl rfl rfl (by decide) rfl (Nat.le_of_ble_eq_true rfl) (Nat.le_of_ble_eq_true rfl) (Nat.le_of_ble_eq_true rfl) (fun _ => rfl) (fun _ => rfl) (fun r1 => ?_)
  refine A_bipush (pc := 6) (v := (7 : Int32)) dX4_placeFor_6 (by decide) ?_
  refine A_iand (pc := 8) dX4_placeFor_8 ?_
  exact A_retIr rfl dX4_placeFor_9

abbrev mX5_init : MD := (yX5_init, cX5_init, 1, none, { frames := 1, cells := 2, slots := 12, locals := 20 }, none)
theorem kD_X5_init : CodeIn mX5_init 0 := ⟨kC_X5_init, by decide +kernel⟩
def f_X5_init (h : Hp) : Option Hp := (if gN h 10 = 0 then (if gN (wN h 10) 11 = 0 then (some (wN (wN h 10) 11)) else none) else none)
set_option maxRecDepth 100000 in
set_option maxHeartbeats 4000000 in
theorem a_X5_init (U : US) (h : Hp) : CtA eV mX5_init U (uS (uS U 5 0 0) 5 0 1) [vr 5 (some 0)] h (f_X5_init h) := by
  refine Ct.of (ls := [some (vr 5 (some 0))]) (n := 0) (by decide +kernel) rfl rfl rfl ?_
  unfold f_X5_init
  refine A_aload_n (pc := 0) (i := 0) dX5_init_0 rfl rfl ?_
  refine A_objInit (pc := 1) dX5_init_1 kM_X5_3 kI_obj kC_obj (Nat.le_of_ble_eq_true rfl) (Nat.le_of_ble_eq_true rfl) ?_
  refine A_aload_n (pc := 4) (i := 0) dX5_init_4 rfl rfl ?_
  refine A_iconst (pc := 5) (v := (4 : Int32)) dX5_init_5 (by decide) ?_
  refine A_newQ (pc := 6) (t := 10) (i := 0) (C := RX0) (1, 8) (by decide) (by decide) (by decide) dX5_init_6 kL_X5_9 (by simp) rfl (by decide) (by decide) (by decide) (fun _ => rfl) (Nat.le_of_ble_eq_true rfl) (Nat.le_of_ble_eq_true rfl) ?_
  refine A_putS (pc := 9) (k := 0) (tp := 10) clX5 (Nat.le_of_ble_eq_true rfl) dX5_init_9 kF_X5_11 rfl rfl (by decide) (Or.inr ⟨rfl, rfl⟩) (fun _ => ⟨rfl, rfl⟩) ?_
  refine A_aload_n (pc := 12) (i := 0) dX5_init_12 rfl rfl ?_
  refine A_bipush (pc := 13) (v := (8 : Int32)) dX5_init_13 (by decide) ?_
  refine A_newQ (pc := 15) (t := 11) (i := 0) (C := RX1) (0, 0) (by decide) (by decide) (by decide) dX5_init_15 kL_X5_17 (by simp) rfl (by decide) (by decide) (by decide) (fun _ => rfl) (Nat.le_of_ble_eq_true rfl) (Nat.le_of_ble_eq_true rfl) ?_
  refine A_putS (pc := 18) (k := 1) (tp := 11) clX5 (Nat.le_of_ble_eq_true rfl) dX5_init_18 kF_X5_19 rfl rfl (by decide) (Or.inr ⟨rfl, rfl⟩) (fun _ => ⟨rfl, rfl⟩) ?_
  exact A_retV rfl dX5_init_21

abbrev mX5_addBerth : MD := (yX5_addBerth, cX5_addBerth, 5, (some .int), { frames := 2, cells := 1, slots := 4, locals := 44 }, none)
theorem kD_X5_addBerth : CodeIn mX5_addBerth 4 := ⟨kC_X5_addBerth, by decide +kernel⟩
def f_X5_addBerth (x1 : Int32) (x2 : Int32) (x3 : Int32) (x4 : Int32) (h : Hp) : Option (Int32 × Hp) := ((f_X7_isWithin x1 (0 : Int32) (90 : Int32) h).bind fun r1 => (if r1 = true then ((f_X7_isWithin x2 (0 : Int32) (9 : Int32) h).bind fun r2 => (if r2 = true then ((f_X7_isWithin x3 (1 : Int32) (6 : Int32) h).bind fun r3 => (if r3 = true then ((f_X7_isWithin x4 (0 : Int32) (6 : Int32) h).bind fun r4 => (if r4 = true then (if (gI h 5 0 2) < (4 : Int32) then ((f_X0_init (gN h 0) x1 x2 x3 x4 (wN h 0)).bind fun r5 => (if 0 ≤ (gI h 5 0 2) ∧ (gI h 5 0 2) < 4 then (some (((gI (wI (wP r5 10 0 (Int32.toNatClampNeg (gI h 5 0 2)) (some (gN h 0))) 5 0 2 ((gI (wP r5 10 0 (Int32.toNatClampNeg (gI h 5 0 2)) (some (gN h 0))) 5 0 2) + (1 : Int32))) 5 0 2) - (1 : Int32)), (wI (wP r5 10 0 (Int32.toNatClampNeg (gI h 5 0 2)) (some (gN h 0))) 5 0 2 ((gI (wP r5 10 0 (Int32.toNatClampNeg (gI h 5 0 2)) (some (gN h 0))) 5 0 2) + (1 : Int32))))) else none)) else (some ((-1000002 : Int32), h))) else (some ((-1000001 : Int32), h)))) else (some ((-1000001 : Int32), h)))) else (some ((-1000001 : Int32), h)))) else (some ((-1000001 : Int32), h))))
set_option maxRecDepth 100000 in
set_option maxHeartbeats 4000000 in
theorem a_X5_addBerth (x1 : Int32) (x2 : Int32) (x3 : Int32) (x4 : Int32) (h : Hp) : CtA eI mX5_addBerth U0 U0 [vr 5 (some 0), vi x1, vi x2, vi x3, vi x4] h (f_X5_addBerth x1 x2 x3 x4 h) := by
  refine Ct.of (ls := [some (vr 5 (some 0)), some (vi x1), some (vi x2), some (vi x3), some (vi x4)]) (n := 0) (by decide +kernel) rfl rfl rfl ?_
  unfold f_X5_addBerth
  refine A_iload_n (pc := 0) (i := 1) dX5_addBerth_0 rfl rfl ?_
  refine A_iconst (pc := 1) (v := (0 : Int32)) dX5_addBerth_1 (by decide) ?_
  refine A_bipush (pc := 2) (v := (90 : Int32)) dX5_addBerth_2 (by decide) ?_
  refine A_callN (pc := 4) (M' := mX7_isWithin) (host := RX7) (As := [vi x1, vi (0 : Int32), vi (90 : Int32)]) (st := []) (1, 4) (fun r1 => [vi (bi r1)]) (fun _ => h) (a_X7_isWithin x1 (0 : Int32) (90 : Int32) h) kD_X7_isWithin kQ_X5_23 kT_X7_isWithin kN_X7 ⟨(Nat.le_of_ble_eq_true rfl), (Nat.le_of_ble_eq_true rfl)⟩ dX5_addBerth_4 rfl rfl (Nat.le_of_ble_eq_true rfl) (Nat.le_of_ble_eq_true rfl) (Nat.le_of_ble_eq_true rfl) (fun _ => rfl) (fun _ => rfl) (fun r1 => ?_)
  refine A_ifb_eq (pc := 7) (tgt := 41) dX5_addBerth_7 (by decide) ?_ ?_
  · refine A_ldc (pc := 41) (v := (-1000001 : Int32)) dX5_addBerth_41 kK_X5_27 ?_
    exact A_retI rfl dX5_addBerth_43
  · refine A_iload_n (pc := 10) (i := 2) dX5_addBerth_10 rfl rfl ?_
    refine A_iconst (pc := 11) (v := (0 : Int32)) dX5_addBerth_11 (by decide) ?_
    refine A_bipush (pc := 12) (v := (9 : Int32)) dX5_addBerth_12 (by decide) ?_
    refine A_callN (pc := 14) (M' := mX7_isWithin) (host := RX7) (As := [vi x2, vi (0 : Int32), vi (9 : Int32)]) (st := []) (1, 4) (fun r2 => [vi (bi r2)]) (fun _ => h) (a_X7_isWithin x2 (0 : Int32) (9 : Int32) h) kD_X7_isWithin kQ_X5_23 kT_X7_isWithin kN_X7 ⟨(Nat.le_of_ble_eq_true rfl), (Nat.le_of_ble_eq_true rfl)⟩ dX5_addBerth_14 rfl rfl (Nat.le_of_ble_eq_true rfl) (Nat.le_of_ble_eq_true rfl) (Nat.le_of_ble_eq_true rfl) (fun _ => rfl) (fun _ => rfl) (fun r2 => ?_)
    refine A_ifb_eq (pc := 17) (tgt := 41) dX5_addBerth_17 (by decide) ?_ ?_
    · refine A_ldc (pc := 41) (v := (-1000001 : Int32)) dX5_addBerth_41 kK_X5_27 ?_
      exact A_retI rfl dX5_addBerth_43
    · refine A_iload_n (pc := 20) (i := 3) dX5_addBerth_20 rfl rfl ?_
      refine A_iconst (pc := 21) (v := (1 : Int32)) dX5_addBerth_21 (by decide) ?_
      refine A_bipush (pc := 22) (v := (6 : Int32)) dX5_addBerth_22 (by decide) ?_
      refine A_callN (pc := 24) (M' := mX7_isWithin) (host := RX7) (As := [vi x3, vi (1 : Int32), vi (6 : Int32)]) (st := []) (1, 4) (fun r3 => [vi (bi r3)]) (fun _ => h) (a_X7_isWithin x3 (1 : Int32) (6 : Int32) h) kD_X7_isWithin kQ_X5_23 kT_X7_isWithin kN_X7 ⟨(Nat.le_of_ble_eq_true rfl), (Nat.le_of_ble_eq_true rfl)⟩ dX5_addBerth_24 rfl rfl (Nat.le_of_ble_eq_true rfl) (Nat.le_of_ble_eq_true rfl) (Nat.le_of_ble_eq_true rfl) (fun _ => rfl) (fun _ => rfl) (fun r3 => ?_)
      refine A_ifb_eq (pc := 27) (tgt := 41) dX5_addBerth_27 (by decide) ?_ ?_
      · refine A_ldc (pc := 41) (v := (-1000001 : Int32)) dX5_addBerth_41 kK_X5_27 ?_
        exact A_retI rfl dX5_addBerth_43
      · refine A_iload (pc := 30) (i := 4) dX5_addBerth_30 rfl ?_
        refine A_iconst (pc := 32) (v := (0 : Int32)) dX5_addBerth_32 (by decide) ?_
        refine A_bipush (pc := 33) (v := (6 : Int32)) dX5_addBerth_33 (by decide) ?_
        refine A_callN (pc := 35) (M' := mX7_isWithin) (host := RX7) (As := [vi x4, vi (0 : Int32), vi (6 : Int32)]) (st := []) (1, 4) (fun r4 => [vi (bi r4)]) (fun _ => h) (a_X7_isWithin x4 (0 : Int32) (6 : Int32) h) kD_X7_isWithin kQ_X5_23 kT_X7_isWithin kN_X7 ⟨(Nat.le_of_ble_eq_true rfl), (Nat.le_of_ble_eq_true rfl)⟩ dX5_addBerth_35 rfl rfl (Nat.le_of_ble_eq_true rfl) (Nat.le_of_ble_eq_true rfl) (Nat.le_of_ble_eq_true rfl) (fun _ => rfl) (fun _ => rfl) (fun r4 => ?_)
        refine A_ifb_ne (pc := 38) (tgt := 44) dX5_addBerth_38 (by decide) ?_ ?_
        · refine A_aload_n (pc := 44) (i := 0) dX5_addBerth_44 rfl rfl ?_
          refine A_getI (pc := 45) (k := 2) clX5 (Nat.le_of_ble_eq_true rfl) dX5_addBerth_45 kF_X5_28 rfl ?_
          refine A_aload_n (pc := 48) (i := 0) dX5_addBerth_48 rfl rfl ?_
          refine A_getS (pc := 49) (k := 0) (tp := 10) clX5 (Nat.le_of_ble_eq_true rfl) dX5_addBerth_49 kF_X5_11 rfl rfl rfl ?_
          refine A_alen (pc := 52) (v := (4 : Int32)) (by decide) (by decide) (by decide) rfl dX5_addBerth_52 ?_
          refine A_icmp_lt (pc := 53) (tgt := 59) dX5_addBerth_53 (by decide) ?_ ?_
          · refine A_aload_n (pc := 59) (i := 0) dX5_addBerth_59 rfl rfl ?_
            refine A_getS (pc := 60) (k := 0) (tp := 10) clX5 (Nat.le_of_ble_eq_true rfl) dX5_addBerth_60 kF_X5_11 rfl rfl rfl ?_
            refine A_aload_n (pc := 63) (i := 0) dX5_addBerth_63 rfl rfl ?_
            refine A_getI (pc := 64) (k := 2) clX5 (Nat.le_of_ble_eq_true rfl) dX5_addBerth_64 kF_X5_28 rfl ?_
            refine A_newP (pc := 67) (0, 0) clX0 dX5_addBerth_67 kL_X5_9 kZ_X0 kN_X0 h0X0 h1X0 h2X0 (Nat.le_of_ble_eq_true rfl) (Nat.le_of_ble_eq_true rfl) ?_
            refine A_dup (pc := 70) dX5_addBerth_70 (fun _ => cv_catr _ _) ?_
            refine A_iload_n (pc := 71) (i := 1) dX5_addBerth_71 rfl rfl ?_
            refine A_iload_n (pc := 72) (i := 2) dX5_addBerth_72 rfl rfl ?_
            refine A_iload_n (pc := 73) (i := 3) dX5_addBerth_73 rfl rfl ?_
            refine A_iload (pc := 74) (i := 4) dX5_addBerth_74 rfl ?_
            refine A_callI (pc := 76) (M' := mX0_init) (As := [vi x1, vi x2, vi x3, vi x4]) (st := [vr 0 (some (gN h 0)), vi (gI h 5 0 2), vr 10 (some 0)]) (0, 0) (fun r5 => [vr 0 (some (gN h 0)), vi (gI h 5 0 2), vr 10 (some 0)]) (fun r5 => r5) (a_X0_init U0 (gN h 0) x1 x2 x3 x4 (wN h 0)) kD_X0_init rfl rfl kM_X5_33 kI_X0_init kN_X0 ⟨(Nat.le_of_ble_eq_true rfl), (Nat.le_of_ble_eq_true rfl)⟩ dX5_addBerth_76 rfl rfl (Nat.le_of_ble_eq_true rfl) (Nat.le_of_ble_eq_true rfl) (Nat.le_of_ble_eq_true rfl) (fun _ => rfl) (fun _ => rfl) (fun r5 => ?_)
            refine A_aastore (pc := 79) (n := 4) (te := 0) (by decide) (by decide) (by decide) rfl (by decide) rfl (fun _ => rfl) dX5_addBerth_79 (by decide) ?_
            refine A_aload_n (pc := 80) (i := 0) dX5_addBerth_80 rfl rfl ?_
            refine A_dup (pc := 81) dX5_addBerth_81 (fun _ => cv_catr _ _) ?_
            refine A_getI (pc := 82) (k := 2) clX5 (Nat.le_of_ble_eq_true rfl) dX5_addBerth_82 kF_X5_28 rfl ?_
            refine A_iconst (pc := 85) (v := (1 : Int32)) dX5_addBerth_85 (by decide) ?_
            refine A_iadd (pc := 86) dX5_addBerth_86 ?_
            refine A_putI (pc := 87) (k := 2) clX5 (Nat.le_of_ble_eq_true rfl) dX5_addBerth_87 kF_X5_28 rfl (Or.inl rfl) ⟨rfl, rfl⟩ ?_
            refine A_aload_n (pc := 90) (i := 0) dX5_addBerth_90 rfl rfl ?_
            refine A_getI (pc := 91) (k := 2) clX5 (Nat.le_of_ble_eq_true rfl) dX5_addBerth_91 kF_X5_28 rfl ?_
            refine A_iconst (pc := 94) (v := (1 : Int32)) dX5_addBerth_94 (by decide) ?_
            refine A_isub (pc := 95) dX5_addBerth_95 ?_
            exact A_retI rfl dX5_addBerth_96
          · refine A_ldc (pc := 56) (v := (-1000002 : Int32)) dX5_addBerth_56 kK_X5_32 ?_
            exact A_retI rfl dX5_addBerth_58
        · refine A_ldc (pc := 41) (v := (-1000001 : Int32)) dX5_addBerth_41 kK_X5_27 ?_
          exact A_retI rfl dX5_addBerth_43
