/-! ===== arrays, new cells, constants ===== -/
theorem in_of {j n : Int32} {N : Nat} (hn : n.toInt = (N : Int)) (hj : 0 ≤ j ∧ j < n) : vp_in j N := by
  rw [vp_in_iff, ← hn]
  exact ⟨Int32.le_iff_toInt_le.mp hj.1, Int32.lt_iff_toInt_lt.mp hj.2⟩
section
variable {ρ : Type} {ε : ρ → Option AV × Hp} {UF : US} {M : MD} {b : Nat × Nat} {U : US} {pc : Nat} {ls : List (Option AV)} {st : List AV} {h : Hp} {X Y : Option ρ}
theorem cell_i {Γ : GW} {U : US} {ad : AD} {h : Hp} {t i : Nat} (ht : ¬ t < 9) (h1 : ¬ aty t = 1) (h4 : aty t < 4) : cellOf Γ U ad h t i = .inl (Γ.2 (aty t), alen t, .inl (gI h t i)) := by
  rw [cellOf_a Γ U ad h ht, acont, if_neg h1, if_pos h4]
theorem cell_l {Γ : GW} {U : US} {ad : AD} {h : Hp} {t i : Nat} (ht : ¬ t < 9) (h1 : aty t = 1) : cellOf Γ U ad h t i = .inl (Γ.2 (aty t), alen t, .inr (.inl (gL h t i))) := by
  rw [cellOf_a Γ U ad h ht, acont, if_pos h1]
theorem cell_q {Γ : GW} {U : US} {ad : AD} {h : Hp} {t i : Nat} (ht : ¬ t < 9) (h4 : 4 ≤ aty t) : cellOf Γ U ad h t i = .inl (Γ.2 (aty t), alen t, .inr (.inr (.inr (.inr (fun j => (gP h t i j).map (ad (etag t))))))) := by
  rw [cellOf_a Γ U ad h ht, acont, if_neg (by omega), if_neg (by omega)]
theorem A_iaload {t i : Nat} {j n : Int32} (ht : ¬ t < 9) (hT : t < TT) (ha : aty t = 0) (d : decode (mb M) pc = .ok (.iaload, 1)) (hn : n.toInt = (alen t : Int)) (kk : Aw ε UF M b U (pc + 1) ls (vi (gI h t i j.toNatClampNeg) :: st) h X) : Aw ε UF M b U pc ls (vi j :: vr t (some i) :: st) h (if 0 ≤ j ∧ j < n then X else none) := by
  intro r hr p l e R s m args below meth c Γ ad0 h0 A0 Z cx rt H locs cells slots ad la hh
  split at hr
  case isFalse => cases hr
  case isTrue hj =>
    have hi := hh.sv.2.1.ref hT
    obtain ⟨q, -, hq⟩ := wsd_at (Γ := Γ) (U := U) (ad := ad) hT hi
    rw [cell_i ht (by omega) (by omega)] at hq
    exact va_iald cx.1 cx.2.1 cx.2.2.2.2.2.1.1 hh.1.toP q (aty t) hq (by rw [ha]; rfl) (in_of hn hj) d (kk r hr p l e R s m args below meth c Γ ad0 h0 A0 Z cx rt H locs cells slots ad la (hh.stk ⟨trivial, hh.sv.2.2⟩))
theorem A_laload {t i : Nat} {j n : Int32} (ht : ¬ t < 9) (hT : t < TT) (ha : aty t = 1) (d : decode (mb M) pc = .ok (.laload, 1)) (hn : n.toInt = (alen t : Int)) (kk : Aw ε UF M b U (pc + 1) ls (vl (gL h t i j.toNatClampNeg) :: st) h X) : Aw ε UF M b U pc ls (vi j :: vr t (some i) :: st) h (if 0 ≤ j ∧ j < n then X else none) := by
  intro r hr p l e R s m args below meth c Γ ad0 h0 A0 Z cx rt H locs cells slots ad la hh
  split at hr
  case isFalse => cases hr
  case isTrue hj =>
    have hi := hh.sv.2.1.ref hT
    obtain ⟨q, -, hq⟩ := wsd_at (Γ := Γ) (U := U) (ad := ad) hT hi
    rw [cell_l ht ha] at hq
    exact va_lald cx.1 cx.2.1 cx.2.2.2.2.2.1.1 hh.1.toP q (aty t) hq (by rw [ha]; rfl) (in_of hn hj) d (kk r hr p l e R s m args below meth c Γ ad0 h0 A0 Z cx rt H locs cells slots ad la (hh.stk ⟨trivial, hh.sv.2.2⟩))
theorem A_baload {t i : Nat} {j n : Int32} (ht : ¬ t < 9) (hT : t < TT) (ha : aty t = 2 ∨ aty t = 3) (d : decode (mb M) pc = .ok (.baload, 1)) (hn : n.toInt = (alen t : Int)) (kk : Aw ε UF M b U (pc + 1) ls (vi (gI h t i j.toNatClampNeg) :: st) h X) : Aw ε UF M b U pc ls (vi j :: vr t (some i) :: st) h (if 0 ≤ j ∧ j < n then X else none) := by
  intro r hr p l e R s m args below meth c Γ ad0 h0 A0 Z cx rt H locs cells slots ad la hh
  split at hr
  case isFalse => cases hr
  case isTrue hj =>
    have hi := hh.sv.2.1.ref hT
    obtain ⟨q, -, hq⟩ := wsd_at (Γ := Γ) (U := U) (ad := ad) hT hi
    rw [cell_i ht (by omega) (by omega)] at hq
    have k2 := kk r hr p l e R s m args below meth c Γ ad0 h0 A0 Z cx rt H locs cells slots ad la (hh.stk ⟨trivial, hh.sv.2.2⟩)
    rcases ha with ha | ha
    · exact va_bald cx.1 cx.2.1 cx.2.2.2.2.2.1.1 hh.1.toP q (aty t) hq (by rw [ha]; rfl) (in_of hn hj) d k2
    · exact va_zald cx.1 cx.2.1 cx.2.2.2.2.2.1.1 hh.1.toP q (aty t) hq (by rw [ha]; rfl) (in_of hn hj) d k2
theorem A_aaload {t i te : Nat} {j n : Int32} {C : String} (ht : ¬ t < 9) (hT : t < TT) (ha : 4 ≤ aty t) (hty : ∀ cA, (tysOf cA)[aty t]? = some (cA (aty t), .object C)) (he : etag t = te) (d : decode (mb M) pc = .ok (.aaload, 1)) (hn : n.toInt = (alen t : Int)) (kk : Aw ε UF M b U (pc + 1) ls (vr te (gP h t i j.toNatClampNeg) :: st) h X) : Aw ε UF M b U pc ls (vi j :: vr t (some i) :: st) h (if 0 ≤ j ∧ j < n then X else none) := by
  intro r hr p l e R s m args below meth c Γ ad0 h0 A0 Z cx rt H locs cells slots ad la hh
  subst he
  split at hr
  case isFalse => cases hr
  case isTrue hj =>
    have hi := hh.sv.2.1.ref hT
    obtain ⟨q, -, hq⟩ := wsd_at (Γ := Γ) (U := U) (ad := ad) hT hi
    rw [cell_q ht ha] at hq
    refine va_aldq cx.1 cx.2.1 cx.2.2.2.2.2.1.1 hh.1.toP q (aty t) hq (hty Γ.2) (in_of hn hj) d (kk r hr p l e R s m args below meth c Γ ad0 h0 A0 Z cx rt H locs cells slots ad la (hh.stk ⟨?_, hh.sv.2.2⟩))
    cases hg : gP h t i j.toNatClampNeg with
    | none => trivial
    | some q => exact Or.inr (hh.1.2.2.2.2 t i _ q hT hi hg)
theorem A_alen {t i : Nat} {v : Int32} (ht : ¬ t < 9) (hT : t < TT) (ha : aty t < 7) (hv : Int32.ofNat (alen t) = v) (d : decode (mb M) pc = .ok (.arraylength, 1)) (kk : Aw ε UF M b U (pc + 1) ls (vi v :: st) h X) : Aw ε UF M b U pc ls (vr t (some i) :: st) h X := by
  intro r hr p l e R s m args below meth c Γ ad0 h0 A0 Z cx rt H locs cells slots ad la hh
  have hi := hh.sv.1.ref hT
  obtain ⟨q, -, hq⟩ := wsd_at (Γ := Γ) (U := U) (ad := ad) hT hi
  rw [cellOf_a Γ U ad h ht] at hq
  have hx : ∃ ty, (tysOf Γ.2)[aty t]? = some (Γ.2 (aty t), ty) := by
    generalize aty t = k at ha
    match k, ha with
    | 0, _ => exact ⟨_, rfl⟩
    | 1, _ => exact ⟨_, rfl⟩
    | 2, _ => exact ⟨_, rfl⟩
    | 3, _ => exact ⟨_, rfl⟩
    | 4, _ => exact ⟨_, rfl⟩
    | 5, _ => exact ⟨_, rfl⟩
    | 6, _ => exact ⟨_, rfl⟩
    | k + 7, h => exact absurd h (by omega)
  obtain ⟨ty, hty⟩ := hx
  exact va_alen cx.1 cx.2.1 cx.2.2.2.2.2.1.1 hh.1.toP q (aty t) hq hty hv d (kk r hr p l e R s m args below meth c Γ ad0 h0 A0 Z cx rt H locs cells slots ad la (hh.stk ⟨trivial, hh.sv.2⟩))
theorem gI_upd (h : Hp) (t i k : Nat) (x : Int32) : gI (wI h t i k x) t i = upd (gI h t i) k x := by
  funext j
  simp [gI_wI, upd]
theorem gL_upd (h : Hp) (t i k : Nat) (x : Int64) : gL (wL h t i k x) t i = vp_updL (gL h t i) k x := by
  funext j
  simp [gL_wL, vp_updL]
theorem A_iastore {t i : Nat} {j n x : Int32} (ht : ¬ t < 9) (hT : t < TT) (ha : aty t = 0) (d : decode (mb M) pc = .ok (.iastore, 1)) (hn : n.toInt = (alen t : Int)) (kk : Aw ε UF M b U (pc + 1) ls st (wI h t i j.toNatClampNeg x) X) : Aw ε UF M b U pc ls (vi x :: vi j :: vr t (some i) :: st) h (if 0 ≤ j ∧ j < n then X else none) := by
  intro r hr p l e R s m args below meth c Γ ad0 h0 A0 Z cx rt H locs cells slots ad la hh
  split at hr
  case isFalse => cases hr
  case isTrue hj =>
    have hi := hh.sv.2.2.1.ref hT
    obtain ⟨q, -, hq⟩ := wsd_at (Γ := Γ) (U := U) (ad := ad) hT hi
    have hq0 := hq
    rw [cell_i ht (by omega) (by omega)] at hq
    refine va_iast cx.1 cx.2.1 cx.2.2.2.2.2.1.1 hh.1.toP hh.1.toD hh.2.1 q (aty t) hq (by rw [ha]; rfl) (in_of hn hj) d fun H1 locs1 g1 g2 g3 => ?_
    exact kk r hr p l e R s m args below meth c Γ ad0 h0 A0 Z cx rt H1 locs1 cells slots ad la (hh.wr rfl (hh.1.ofSet hq0 hT hi rfl (by rw [cell_i ht (by omega) (by omega), gI_upd]) g1 (fun a c hne => cellOf_wI hne) hh.1.2.2.2.1 hh.1.2.2.2.2) g3 hh.sv.2.2.2)
theorem A_bastore {t i : Nat} {j n x : Int32} (ht : ¬ t < 9) (hT : t < TT) (ha : aty t = 2) (d : decode (mb M) pc = .ok (.bastore, 1)) (hn : n.toInt = (alen t : Int)) (kk : Aw ε UF M b U (pc + 1) ls st (wI h t i j.toNatClampNeg (vp_nar .byte x)) X) : Aw ε UF M b U pc ls (vi x :: vi j :: vr t (some i) :: st) h (if 0 ≤ j ∧ j < n then X else none) := by
  intro r hr p l e R s m args below meth c Γ ad0 h0 A0 Z cx rt H locs cells slots ad la hh
  split at hr
  case isFalse => cases hr
  case isTrue hj =>
    have hi := hh.sv.2.2.1.ref hT
    obtain ⟨q, -, hq⟩ := wsd_at (Γ := Γ) (U := U) (ad := ad) hT hi
    have hq0 := hq
    rw [cell_i ht (by omega) (by omega)] at hq
    refine va_bast cx.1 cx.2.1 cx.2.2.2.2.2.1.1 hh.1.toP hh.1.toD hh.2.1 q (aty t) hq (by rw [ha]; rfl) (in_of hn hj) d fun H1 locs1 g1 g2 g3 => ?_
    exact kk r hr p l e R s m args below meth c Γ ad0 h0 A0 Z cx rt H1 locs1 cells slots ad la (hh.wr rfl (hh.1.ofSet hq0 hT hi rfl (by rw [cell_i ht (by omega) (by omega), gI_upd]) g1 (fun a c hne => cellOf_wI hne) hh.1.2.2.2.1 hh.1.2.2.2.2) g3 hh.sv.2.2.2)
theorem A_zastore {t i : Nat} {j n x : Int32} (ht : ¬ t < 9) (hT : t < TT) (ha : aty t = 3) (d : decode (mb M) pc = .ok (.bastore, 1)) (hn : n.toInt = (alen t : Int)) (kk : Aw ε UF M b U (pc + 1) ls st (wI h t i j.toNatClampNeg (vp_nar .boolean x)) X) : Aw ε UF M b U pc ls (vi x :: vi j :: vr t (some i) :: st) h (if 0 ≤ j ∧ j < n then X else none) := by
  intro r hr p l e R s m args below meth c Γ ad0 h0 A0 Z cx rt H locs cells slots ad la hh
  split at hr
  case isFalse => cases hr
  case isTrue hj =>
    have hi := hh.sv.2.2.1.ref hT
    obtain ⟨q, -, hq⟩ := wsd_at (Γ := Γ) (U := U) (ad := ad) hT hi
    have hq0 := hq
    rw [cell_i ht (by omega) (by omega)] at hq
    refine va_zast cx.1 cx.2.1 cx.2.2.2.2.2.1.1 hh.1.toP hh.1.toD hh.2.1 q (aty t) hq (by rw [ha]; rfl) (in_of hn hj) d fun H1 locs1 g1 g2 g3 => ?_
    exact kk r hr p l e R s m args below meth c Γ ad0 h0 A0 Z cx rt H1 locs1 cells slots ad la (hh.wr rfl (hh.1.ofSet hq0 hT hi rfl (by rw [cell_i ht (by omega) (by omega), gI_upd]) g1 (fun a c hne => cellOf_wI hne) hh.1.2.2.2.1 hh.1.2.2.2.2) g3 hh.sv.2.2.2)
theorem A_lastore {t i : Nat} {j n : Int32} {x : Int64} (ht : ¬ t < 9) (hT : t < TT) (ha : aty t = 1) (d : decode (mb M) pc = .ok (.lastore, 1)) (hn : n.toInt = (alen t : Int)) (kk : Aw ε UF M b U (pc + 1) ls st (wL h t i j.toNatClampNeg x) X) : Aw ε UF M b U pc ls (vl x :: vi j :: vr t (some i) :: st) h (if 0 ≤ j ∧ j < n then X else none) := by
  intro r hr p l e R s m args below meth c Γ ad0 h0 A0 Z cx rt H locs cells slots ad la hh
  split at hr
  case isFalse => cases hr
  case isTrue hj =>
    have hi := hh.sv.2.2.1.ref hT
    obtain ⟨q, -, hq⟩ := wsd_at (Γ := Γ) (U := U) (ad := ad) hT hi
    have hq0 := hq
    rw [cell_l ht ha] at hq
    refine va_last cx.1 cx.2.1 cx.2.2.2.2.2.1.1 hh.1.toP hh.1.toD hh.2.1 q (aty t) hq (by rw [ha]; rfl) (in_of hn hj) d fun H1 locs1 g1 g2 g3 => ?_
    exact kk r hr p l e R s m args below meth c Γ ad0 h0 A0 Z cx rt H1 locs1 cells slots ad la (hh.wr rfl (hh.1.ofSet hq0 hT hi rfl (by rw [cell_l ht ha, gL_upd]) g1 (fun a c hne => cellOf_wL hne) hh.1.2.2.2.1 hh.1.2.2.2.2) g3 hh.sv.2.2.2)
theorem cellOf_wP {Γ : GW} {U : US} {ad : AD} {h : Hp} {t i k : Nat} {x : Option Nat} {a c : Nat} (hne : ¬ (a = t ∧ c = i)) : cellOf Γ U ad (wP h t i k x) a c = cellOf Γ U ad h a c := by
  unfold cellOf
  split
  · rfl
  · congr 3
    unfold acont
    rw [gI_wP, gL_wP, show gP (wP h t i k x) a c = gP h a c from funext fun j => by rw [gP_wP, if_neg (fun q => hne ⟨q.1, q.2.1⟩)]]
theorem gP_upd (ad : AD) (h : Hp) (t i k : Nat) (x : Nat) : (fun j => (gP (wP h t i k (some x)) t i j).map (ad (etag t))) = va_up (fun j => (gP h t i j).map (ad (etag t))) k (some (ad (etag t) x)) := by
  funext j
  by_cases hj : j = k
  · simp [gP_wP, va_up, hj]
  · simp [gP_wP, va_up, hj]
theorem A_aastore {t i te v : Nat} {j n : Int32} {r0 : vw_C} (ht : ¬ t < 9) (hT : t < TT) (ha : 4 ≤ aty t) (he : etag t = te) (he9 : te < 9) (hcl : vwCl[te]? = some r0) (hty : ∀ cA, (tysOf cA)[aty t]? = some (cA (aty t), .object r0.1)) (d : decode (mb M) pc = .ok (.aastore, 1)) (hn : n.toInt = (alen t : Int)) (kk : Aw ε UF M b U (pc + 1) ls st (wP h t i j.toNatClampNeg (some v)) X) : Aw ε UF M b U pc ls (vr te (some v) :: vi j :: vr t (some i) :: st) h (if 0 ≤ j ∧ j < n then X else none) := by
  intro r hr p l e R s m args below meth c Γ ad0 h0 A0 Z cx rt H locs cells slots ad la hh
  subst he
  split at hr
  case isFalse => cases hr
  case isTrue hj =>
    have heT : etag t < TT := Nat.lt_trans he9 (by decide)
    have hi := hh.sv.2.2.1.ref hT
    have hv := hh.sv.1.ref heT
    obtain ⟨q, -, hq⟩ := wsd_at (Γ := Γ) (U := U) (ad := ad) hT hi
    obtain ⟨qv, -, hqv⟩ := wsd_at (Γ := Γ) (U := U) (ad := ad) heT hv
    have hq0 := hq
    rw [cell_q ht ha] at hq
    rw [cellOf_o Γ U ad h he9] at hqv
    refine va_astq cx.1 cx.2.1 cx.2.2.2.2.2.1.1 hh.1.toP hh.1.toD hh.2.1 q (aty t) qv (etag t) hq (hty Γ.2) hqv hcl (in_of hn hj) d fun H1 locs1 g1 g2 g3 => ?_
    refine kk r hr p l e R s m args below meth c Γ ad0 h0 A0 Z cx rt H1 locs1 cells slots ad la (hh.wr rfl (hh.1.ofSet hq0 hT hi rfl (by rw [cell_q ht ha, gP_upd]) g1 (fun a c hne => cellOf_wP hne) hh.1.2.2.2.1 ?_) g3 hh.sv.2.2.2)
    intro a c k q h1 h2 h3
    rw [gP_wP] at h3
    split at h3
    case isTrue hx =>
      obtain ⟨rfl, rfl, rfl⟩ := hx
      cases h3
      exact ⟨heT, hv⟩
    case isFalse => exact hh.1.2.2.2.2 a c k q h1 h2 h3
/-- constants, Object's constructor -/
theorem A_ldc {idx : Nat} {v : Int32} (d : decode (mb M) pc = .ok (.ldc idx, 2)) (hl : Cond.constant (my M).cls idx v ∈ WSG) (kk : Aw ε UF M b U (pc + 2) ls (vi v :: st) h X) : Aw ε UF M b U pc ls st h X :=
  fun r hr p l e R s m args below meth c Γ ad0 h0 A0 Z cx rt H locs cells slots ad la hh => lv_ldc cx.1 cx.2.1 cx.2.2.2.1 (cx.2.2.2.2.1 _ hl) d (kk r hr p l e R s m args below meth c Γ ad0 h0 A0 Z cx rt H locs cells slots ad la (hh.stk ⟨trivial, hh.sv⟩))
theorem A_ldcw {idx : Nat} {v : Int32} (d : decode (mb M) pc = .ok (.ldc_w idx, 3)) (hl : Cond.constant (my M).cls idx v ∈ WSG) (kk : Aw ε UF M b U (pc + 3) ls (vi v :: st) h X) : Aw ε UF M b U pc ls st h X :=
  fun r hr p l e R s m args below meth c Γ ad0 h0 A0 Z cx rt H locs cells slots ad la hh => lv_ldcw cx.1 cx.2.1 cx.2.2.2.1 (cx.2.2.2.2.1 _ hl) d (kk r hr p l e R s m args below meth c Γ ad0 h0 A0 Z cx rt H locs cells slots ad la (hh.stk ⟨trivial, hh.sv⟩))
theorem A_ldc2 {idx : Nat} {v : Int64} (d : decode (mb M) pc = .ok (.ldc2_w idx, 3)) (hl : Cond.constantLong (my M).cls idx v ∈ WSG) (kk : Aw ε UF M b U (pc + 3) ls (vl v :: st) h X) : Aw ε UF M b U pc ls st h X :=
  fun r hr p l e R s m args below meth c Γ ad0 h0 A0 Z cx rt H locs cells slots ad la hh => lv_ldc2 cx.1 cx.2.1 cx.2.2.2.1 (cx.2.2.2.2.1 _ hl) d (kk r hr p l e R s m args below meth c Γ ad0 h0 A0 Z cx rt H locs cells slots ad la (hh.stk ⟨trivial, hh.sv⟩))
def catv : AV → Nat
  | .inr (.inl _) => 2
  | _ => 1
def catL : List AV → Nat
  | [] => 0
  | v :: l => catv v + catL l
theorem catL_eq {ad : AD} : ∀ {l : List AV}, ((l.map (cv ad)).map fun v => v.category).sum = catL l
  | [] => rfl
  | .inl _ :: l => by rw [List.map_cons, List.map_cons, List.sum_cons, catL_eq (l := l)]; rfl
  | .inr (.inl _) :: l => by rw [List.map_cons, List.map_cons, List.sum_cons, catL_eq (l := l)]; rfl
  | .inr (.inr (t, o)) :: l => by rw [List.map_cons, List.map_cons, List.sum_cons, catL_eq (l := l), show (cv ad (.inr (.inr (t, o)))).category = 1 from cv_catr t o]; rfl
theorem A_objInit {t i idx : Nat} (d : decode (mb M) pc = .ok (.invokespecial idx, 3)) (hl : Cond.methodLink (my M).cls idx objectInit ∈ WSG) (hi : Cond.instanceMethod objectInit ∈ WSG) (hc : Cond.code objectInit ⟨#[0xb1]⟩ 1 none ∈ WSG) (hf : 1 ≤ (mrm M).frames) (hlo : catL st + 12 ≤ (mrm M).locals) (kk : Aw ε UF M b U (pc + 3) ls st h X) : Aw ε UF M b U pc ls (vr t (some i) :: st) h X := by
  intro r hr p l e R s m args below meth c Γ ad0 h0 A0 Z cx rt H locs cells slots ad la hh
  have hR := cx.2.2.2.2.2.2.2.2.1
  refine W.objInit (a := ad t i) (rest := st.map (cv ad)) cx.1 cx.2.1 cx.2.2.2.1 (cx.2.2.2.2.1 _ hl) (cx.2.2.2.2.1 _ hi) (cx.2.2.2.2.1 _ hc) rfl (by rw [cx.2.2.1]; exact hh.2.2.1.1) rfl d (by rw [hR]; exact hf) ?_ ?_
  · show 2 * 0 + _ + 12 ≤ R.locals
    rw [catL_eq, hR]
    omega
  · exact kk r hr p l e R s m args below meth c Γ ad0 h0 A0 Z cx rt H locs cells slots ad la (hh.stk hh.sv.2)
end
