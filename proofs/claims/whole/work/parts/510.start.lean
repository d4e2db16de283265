/-! ===== from the law's entry to its function ===== -/
def hE : Hp := (fun _ => 0, fun _ _ _ => 0, fun _ _ _ => 0, fun _ _ _ => none)
set_option maxRecDepth 100000 in
set_option maxHeartbeats 4000000 in
theorem kk_start {s : State} {b : Nat} (hts : ∀ w ∈ lw_tbl, w.before #[Value.ref b] s = true) : ∃ Γ : GW, KK Γ s := by
  have htw : ∀ w ∈ WSG, w.before #[Value.ref b] s = true := fun w h => hts w (WSG_in h)
  obtain ⟨c0, iS0, hK0⟩ := u_known (C := RX0) (T := TX0) (N := 4) (n := 4) htw clX0.2.1 (htw _ kZ_X0)
  obtain ⟨c1, iS1, hK1⟩ := u_known (C := RX1) (T := TX1) (N := 12) (n := 12) htw clX1.2.1 (htw _ kZ_X1)
  obtain ⟨c2, iS2, hK2⟩ := u_known (C := RX2) (T := TX2) (N := 2) (n := 2) htw clX2.2.1 (htw _ kZ_X2)
  obtain ⟨c3, iS3, hK3⟩ := u_known (C := RX3) (T := TX3) (N := 6) (n := 6) htw clX3.2.1 (htw _ kZ_X3)
  obtain ⟨c4, iS4, hK4⟩ := u_known (C := RX4) (T := TX4) (N := 8) (n := 8) htw clX4.2.1 (htw _ kZ_X4)
  obtain ⟨c5, iS5, hK5⟩ := u_known (C := RX5) (T := TX5) (N := 6) (n := 6) htw clX5.2.1 (htw _ kZ_X5)
  obtain ⟨c6, iS6, hK6⟩ := u_known (C := RX6) (T := TX6) (N := 3) (n := 3) htw clX6.2.1 (htw _ kZ_X6)
  obtain ⟨c7, iS7, hK7⟩ := u_known (C := RX7) (T := TX7) (N := 6) (n := 6) htw clX7.2.1 (htw _ kZ_X7)
  obtain ⟨c8, iS8, hK8⟩ := u_known (C := RX8) (T := TX8) (N := 45) (n := 45) htw clX8.2.1 (htw _ kZ_X8)
  obtain ⟨dC, dI, hKc⟩ : ∃ (dC : Nat → ClassId) (dI : Nat → Nat → Nat), ∀ (k : Nat) (q : vw_C), vwCl[k]? = some q → u_Kn s q.1 q.2.1 q.2.2 (dC k) (dI k) := by
    refine ⟨fun k => match k with | 0 => c0 | 1 => c1 | 2 => c2 | 3 => c3 | 4 => c4 | 5 => c5 | 6 => c6 | 7 => c7 | _ => c8, fun k => match k with | 0 => iS0 | 1 => iS1 | 2 => iS2 | 3 => iS3 | 4 => iS4 | 5 => iS5 | 6 => iS6 | 7 => iS7 | _ => iS8, ?_⟩
    intro k q hq
    match k, hq with
    | 0, hq => cases hq; exact hK0
    | 1, hq => cases hq; exact hK1
    | 2, hq => cases hq; exact hK2
    | 3, hq => cases hq; exact hK3
    | 4, hq => cases hq; exact hK4
    | 5, hq => cases hq; exact hK5
    | 6, hq => cases hq; exact hK6
    | 7, hq => cases hq; exact hK7
    | 8, hq => cases hq; exact hK8
    | k + 9, hq => simp [vwCl] at hq
  obtain ⟨a0, k0, m0, f0, g0, e0⟩ := Cond.arrayClass_spec (htw _ kA_int)
  obtain ⟨a1, k1, m1, f1, g1, e1⟩ := Cond.arrayClass_spec (htw _ kA_long)
  obtain ⟨a2, k2, m2, f2, g2, e2⟩ := Cond.arrayClass_spec (htw _ kA_byte)
  obtain ⟨a3, k3, m3, f3, g3, e3⟩ := Cond.arrayClass_spec (htw _ kA_boolean)
  have w4 := (hts (.arrayOver (.object RX0)) (List.mem_append_right _ (by have q : (.arrayOver (.object RX0) : Cond) ∈ tables_1_1 := List.mem_of_getElem? (i := 29) rfl; exact List.mem_append_left _ q)))
  obtain ⟨m4, a4, k4, p4, -, g4, e4, f4⟩ := Cond.arrayOver_spec w4
  have w5 := (hts (.arrayOver (.object RX1)) (List.mem_append_right _ (by have q : (.arrayOver (.object RX1) : Cond) ∈ tables_1_1 := List.mem_of_getElem? (i := 31) rfl; exact List.mem_append_left _ q)))
  obtain ⟨m5, a5, k5, p5, -, g5, e5, f5⟩ := Cond.arrayOver_spec w5
  have w6 := (hts (.arrayOver (.object RX6)) (List.mem_append_right _ (by have q : (.arrayOver (.object RX6) : Cond) ∈ tables_1_1 := List.mem_of_getElem? (i := 138) rfl; exact List.mem_append_left _ q)))
  obtain ⟨m6, a6, k6, p6, -, g6, e6, f6⟩ := Cond.arrayOver_spec w6
  refine ⟨((dC, dI), fun k => match k with | 0 => a0 | 1 => a1 | 2 => a2 | 3 => a3 | 4 => a4 | 5 => a5 | _ => a6), ⟨hKc, fun k q hq => ?_⟩, fun q hq => ?_, fun C hC => ?_⟩
  · match k, hq with
    | 0, hq => cases hq; exact ⟨fun n z => ⟨fun k h => (by cases h), k0, g0, m0, e0⟩, f0⟩
    | 1, hq => cases hq; exact ⟨fun n z => ⟨fun k h => (by cases h), k1, g1, m1, e1⟩, f1⟩
    | 2, hq => cases hq; exact ⟨fun n z => ⟨fun k h => (by cases h), k2, g2, m2, e2⟩, f2⟩
    | 3, hq => cases hq; exact ⟨fun n z => ⟨fun k h => (by cases h), k3, g3, m3, e3⟩, f3⟩
    | 4, hq => cases hq; exact ⟨fun n z => ⟨fun k h => (by cases h), k4, g4, m4, e4⟩, k4, m4, g4, e4, p4, f4⟩
    | 5, hq => cases hq; exact ⟨fun n z => ⟨fun k h => (by cases h), k5, g5, m5, e5⟩, k5, m5, g5, e5, p5, f5⟩
    | 6, hq => cases hq; exact ⟨fun n z => ⟨fun k h => (by cases h), k6, g6, m6, e6⟩, k6, m6, g6, e6, p6, f6⟩
    | k + 7, hq => simp [tysOf] at hq
  · simp only [nestL, List.mem_cons, List.not_mem_nil, or_false] at hq
    rcases hq with rfl | rfl | rfl
    · exact va_Nw.of rfl (hts (.methodLinkNest RX5 23 yX7_isWithin RX7) (List.mem_append_right _ (by have q : (.methodLinkNest RX5 23 yX7_isWithin RX7 : Cond) ∈ tables_1_1 := List.mem_of_getElem? (i := 184) rfl; exact List.mem_append_left _ q)))
    · exact va_Nw.of rfl (hts (.methodLinkNest RX4 103 yX7_isInSet RX7) (List.mem_append_right _ (by have q : (.methodLinkNest RX4 103 yX7_isInSet RX7 : Cond) ∈ tables_1_3 := List.mem_of_getElem? (i := 2) rfl; exact List.mem_append_right _ (List.mem_append_right _ (List.mem_append_left _ q)))))
    · exact va_Nw.of rfl (hts (.methodLinkNest RX3 25 yX7_isWithin RX7) (List.mem_append_right _ (by have q : (.methodLinkNest RX3 25 yX7_isWithin RX7 : Cond) ∈ tables_1_3 := List.mem_of_getElem? (i := 123) rfl; exact List.mem_append_right _ (List.mem_append_right _ (List.mem_append_left _ q)))))
  · simp only [List.mem_cons, List.not_mem_nil, or_false] at hC
    rcases hC with rfl | rfl | rfl
    · exact va_AO.of w4
    · exact va_AO.of w5
    · exact va_AO.of w6
set_option maxRecDepth 100000 in
set_option maxHeartbeats 4000000 in
theorem start_of {p : Program} {e : Env} {s : State} {m : MethodId} {below : List Frame} {meth : Method} {c : Code} (l : Launch) {b L : Nat} {xs : Nat → Int32} (hL : L ≤ 3072) (C0 : lw_At p s m meth c b L xs) {h' : Hp} (hlaw : f_L_law L xs hE = some (true, h')) : W p l e room_1 s m #[Value.ref b] below meth c s.heap [] 0 0 (lw_Z below #[Value.ref b] s) (entryFrame m ([Value.ref b] : List Value).toArray 4) := by
  obtain ⟨hx, hb, hr, hml, hown, hts, hX, hbl, hlocks, hgv⟩ := C0
  obtain ⟨Γ, hKK⟩ := kk_start hts
  have hLi : (Int32.ofNat L).toInt = (L : Int) := nI_toInt (by omega)
  have hl := lv_entry ([.ref b]) (n := 4) (Nat.le_of_ble_eq_true rfl)
  rw [lg_entry_eq]
  generalize (lg_sl ([.ref b]) ++ List.replicate (4 - (lg_sl ([.ref b])).length) Slot.unset).toArray = la at hl ⊢
  have hl : lv_has la 4 [(0, .ref b)] := hl
  have cx : Cx (mL_law L xs) p room_1 s m #[Value.ref b] meth c Γ (fun _ _ => b) (fun q : Nat => s.heap.size ≤ q) := ⟨hx, hb, hml, hown, fun w h => hts w (WSG_in h), hKK, fun _ h => h, fun h => absurd h (show ¬ ("law" : String) = "<init>" by decide), rfl, fun L' xs' h => by
    cases h
    exact ⟨hX, hbl, Nat.not_le.mpr hbl⟩⟩
  refine a_L_law L xs hLi hE (true, h') hlaw p l e room_1 s m #[Value.ref b] below meth c Γ (fun _ _ => b) hE (fun q : Nat => s.heap.size ≤ q) _ cx ?_ s.heap [] 0 0 (fun _ _ => b) la ⟨⟨fun t i _ h => absurd h (Nat.not_lt_zero _), fun t i _ _ _ h => absurd h (Nat.not_lt_zero _), fun t i _ h => absurd h (Nat.not_lt_zero _), fun t i k _ h => absurd h (Nat.not_lt_zero _), fun t i j q _ h => absurd h (Nat.not_lt_zero _)⟩, va_S.rf, hl, trivial, ⟨Or.inl rfl, trivial⟩, Ext.rf _ _, by decide, by decide⟩
  intro H locs cells slots ad la' pc h1 h2 h3 h4 h5 h6 h7
  obtain ⟨d, -⟩ := h7
  refine va_forget (fun q hq => h2.2.2 q hq) ?_
  refine W.widen (k := 600000) (n := 7302250) h5 h6 ?_
  exact lw_ret hx hb hr hlocks d

