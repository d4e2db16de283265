/-! ===== new cells ===== -/
def adN (ad : AD) (h : Hp) (t q : Nat) : AD := fun a c => if a = t ∧ c = gN h t then q else ad a c
theorem adN_old {ad : AD} {h : Hp} {t q a c : Nat} (hc : c < gN h a) : adN ad h t q a c = ad a c := if_neg (fun x => by obtain ⟨rfl, rfl⟩ := x; omega)
theorem fval_wN {U U' : US} {ad : AD} {h : Hp} {t q a c j : Nat} (hc : c < gN h a) (hU : U' a c j = U a c j) (c4 : fty a j = 2 → U a c j = false → c < gN h (ptag a j)) (h2 : fty a j = 0 ∨ fty a j = 1 ∨ fty a j = 2) : fval U' (adN ad h t q) (wN h t) a c j = fval U ad h a c j := by
  have hne : ¬ (a = t ∧ c = gN h t) := fun x => by obtain ⟨rfl, rfl⟩ := x; omega
  unfold fval
  rw [gI_wN, if_neg hne, gL_wN, if_neg hne, hU]
  split
  · rfl
  · split
    · rfl
    · split
      · rfl
      · rename_i g0 g1 g2
        rw [adN_old (c4 (by omega) (by simpa using g2))]
theorem fty_all : ∀ t, t < 9 → ∀ k, k < nfl t → fty t k = 0 ∨ fty t k = 1 ∨ fty t k = 2 := by decide +kernel
theorem cellOf_wN {Γ : GW} {U U' : US} {ad : AD} {A0 : Nat → Prop} {h : Hp} {H : Heap} (R : Rp Γ U ad A0 h H) {t q a c : Nat} (hT : a < TT) (hc : c < gN h a) (hU : ∀ j, U' a c j = U a c j) : cellOf Γ U' (adN ad h t q) (wN h t) a c = cellOf Γ U ad h a c := by
  have hne : ¬ (a = t ∧ c = gN h t) := fun x => by obtain ⟨rfl, rfl⟩ := x; omega
  unfold cellOf
  split
  case isTrue h9 =>
    congr 2
    refine List.map_congr_left fun j hj => ?_
    exact fval_wN hc (hU j) (fun h2 hu => (R.2.2.2.1 a c j h9 hc h2 hu).2) (fty_all a h9 j (List.mem_range.mp hj))
  case isFalse h9 =>
    congr 3
    unfold acont
    rw [show gI (wN h t) a c = gI h a c from funext fun j => by rw [gI_wN, if_neg hne], show gL (wN h t) a c = gL h a c from funext fun j => by rw [gL_wN, if_neg hne]]
    split
    · rfl
    · split
      · rfl
      · congr 4
        funext j
        rw [gP_wN, if_neg hne]
        cases hg : gP h a c j with
        | none => rfl
        | some x => exact congrArg some (adN_old (R.2.2.2.2 a c j x hT hc hg).2)
theorem Rp.ofPush {Γ : GW} {U U' : US} {ad : AD} {A0 : Nat → Prop} {h : Hp} {H H1 : Heap} {t q : Nat} {e : va_E} (R : Rp Γ U ad A0 h H) (hT : t < TT) (hP : va_P Γ.1 vwCl (wsd Γ U ad h ++ [(q, e)]) H1) (hD : va_D A0 (wsd Γ U ad h ++ [(q, e)]))
    (he : cellOf Γ U' (adN ad h t q) (wN h t) t (gN h t) = e) (hU : ∀ a c j, ¬ (a = t ∧ c = gN h t) → U' a c j = U a c j) (hUt : ∀ k, t < 9 → fty t k = 2 → U' t (gN h t) k = true) : Rp Γ U' (adN ad h t q) A0 (wN h t) H1 := by
  have hold : ∀ a c, c < gN (wN h t) a → ¬ (a = t ∧ c = gN h t) → c < gN h a := by
    intro a c h1 h2
    rw [gN_wN] at h1
    split at h1
    · rename_i hat
      subst hat
      have : c ≠ gN h a := fun x => h2 ⟨rfl, x⟩
      omega
    · exact h1
  have hpos : ∀ a c, a < TT → c < gN (wN h t) a → ∃ k, (wsd Γ U ad h ++ [(q, e)])[k]? = some (adN ad h t q a c, cellOf Γ U' (adN ad h t q) (wN h t) a c) ∧ ((a = t ∧ c = gN h t ∧ k = (wsd Γ U ad h).length) ∨ (k < (wsd Γ U ad h).length ∧ (dm h)[k]? = some (a, c))) := by
    intro a c h1 h2
    by_cases hac : a = t ∧ c = gN h t
    · refine ⟨(wsd Γ U ad h).length, ?_, Or.inl ⟨hac.1, hac.2, rfl⟩⟩
      rw [List.getElem?_append_right (Nat.le_refl _), Nat.sub_self]
      obtain ⟨rfl, rfl⟩ := hac
      rw [he, show adN ad h a q a (gN h a) = q from if_pos ⟨rfl, rfl⟩]
      rfl
    · have hc := hold a c h2 hac
      obtain ⟨k, hk1, hk2⟩ := wsd_at (Γ := Γ) (U := U) (ad := ad) h1 hc
      have hl := (List.getElem?_eq_some_iff.mp hk2).1
      refine ⟨k, ?_, Or.inr ⟨hl, hk1⟩⟩
      rw [List.getElem?_append_left hl, hk2, adN_old hc, cellOf_wN R h1 hc (fun j => hU a c j hac)]
  refine ⟨fun a c h1 h2 => ?_, fun a c a' c' h1 h2 h3 h4 hx => ?_, fun a c h1 h2 => ?_, fun a c k h1 h2 h3 h4 => ?_, fun a c j x h1 h2 h3 => ?_⟩
  · obtain ⟨k, hk, -⟩ := hpos a c h1 h2
    exact hP k _ hk
  · obtain ⟨k, hk, hk'⟩ := hpos a c h1 h2
    obtain ⟨k2, hk2, hk2'⟩ := hpos a' c' h3 h4
    have hkk := hD.1 k k2 _ _ hk hk2 hx
    subst hkk
    rcases hk' with ⟨e1, e2, e3⟩ | ⟨e1, e2⟩ <;> rcases hk2' with ⟨f1, f2, f3⟩ | ⟨f1, f2⟩
    · exact ⟨e1.trans f1.symm, e2.trans f2.symm⟩
    · omega
    · omega
    · have := Option.some.inj (e2.symm.trans f2)
      exact ⟨congrArg Prod.fst this, congrArg Prod.snd this⟩
  · obtain ⟨k, hk, -⟩ := hpos a c h1 h2
    exact hD.2 k _ hk
  · by_cases hac : a = t ∧ c = gN h t
    · obtain ⟨rfl, rfl⟩ := hac
      rw [hUt k h1 h3] at h4
      cases h4
    · have := R.2.2.2.1 a c k h1 (hold a c h2 hac) h3 (by rw [← hU a c k hac]; exact h4)
      refine ⟨this.1, Nat.lt_of_lt_of_le this.2 ?_⟩
      rw [gN_wN]
      split
      · rename_i hx; rw [hx]; omega
      · exact Nat.le_refl _
  · rw [gP_wN] at h3
    split at h3
    · cases h3
    · rename_i hac
      have := R.2.2.2.2 a c j x h1 (hold a c h2 hac) h3
      refine ⟨this.1, Nat.lt_of_lt_of_le this.2 ?_⟩
      rw [gN_wN]
      split
      · rename_i hx; rw [hx]; omega
      · exact Nat.le_refl _
theorem Ext.new {ad : AD} {h : Hp} {t q : Nat} (hT : t < TT) : Ext ad h (adN ad h t q) (wN h t) := ⟨fun a c _ h2 => adN_old h2, fun a => by
  rw [gN_wN]
  split
  · rename_i hx; rw [hx]; omega
  · exact Nat.le_refl _, fun a ha => funext fun c => if_neg (fun x => ha (by rw [x.1]; exact hT))⟩
theorem Hr.new {M : MD} {Γ : GW} {U U' : US} {ad0 : AD} {h0 : Hp} {ad : AD} {A0 : Nat → Prop} {s : State} {R : Room} {b b' : Nat × Nat} {ls : List (Option AV)} {st st' : List AV} {h : Hp} {H H1 : Heap} {locs : List Loc} {cells slots N t q : Nat} {la : Array Slot} (x : Hr M Γ U ad0 h0 ad A0 s R b ls st h H locs cells slots la) (hT : t < TT) (hR : Rp Γ U' (adN ad h t q) A0 (wN h t) H1) (hS : va_S A0 s.heap H1 locs) (v : VokL h st') (hb : b'.1 + 1 ≤ b.1) (hb2 : b'.2 + N ≤ b.2) : Hr M Γ U' ad0 h0 (adN ad h t q) A0 s R b' ls (vr t (some (gN h t)) :: st') (wN h t) H1 locs (cells + 1) (slots + N) la := by
  have ex : Ext ad h (adN ad h t q) (wN h t) := Ext.new hT
  refine ⟨hR, hS, by rw [lvo_cv ex x.2.2.2.2.1]; exact x.2.2.1, ⟨Or.inr ⟨hT, by rw [gN_wN, if_pos rfl]; omega⟩, v.mono ex.2.1⟩, x.2.2.2.2.1.mono ex.2.1, x.2.2.2.2.2.1.tr ex, ?_, ?_⟩
  · have := x.2.2.2.2.2.2.1
    omega
  · have := x.2.2.2.2.2.2.2
    omega
section
variable {ρ : Type} {ε : ρ → Option AV × Hp} {UF : US} {M : MD} {b : Nat × Nat} {U : US} {pc : Nat} {ls : List (Option AV)} {st : List AV} {h : Hp} {X Y : Option ρ}
/-- a new object's structural fields are unset -/
def uN (U : US) (t i : Nat) : US := fun a c k => if a = t ∧ c = i ∧ fty a k = 2 then true else U a c k
set_option maxHeartbeats 1000000 in
theorem A_newG {t idx : Nat} {C : String} {T : u_T} {N : Nat} {ty : Nat → FieldType} {U' : US} (b' : Nat × Nat) (F : ClF t C T N ty) (d : decode (mb M) pc = .ok (.new idx, 3)) (hl : Cond.classLink (my M).cls idx C ∈ WSG) (hi : Cond.instantiable C N ∈ WSG) (hini : Cond.initialized C ∈ WSG)
    (hdef : ∀ ad k, k < N → defaultValue (ty k) = fval U' ad (wN h t) t (gN h t) k) (hU : ∀ a c j, ¬ (a = t ∧ c = gN h t) → U' a c j = U a c j) (hUt : ∀ k, t < 9 → fty t k = 2 → U' t (gN h t) k = true) (hb : b'.1 + 1 ≤ b.1) (hb2 : b'.2 + N ≤ b.2)
    (kk : Aw ε UF M b' U' (pc + 3) ls (vr t (some (gN h t)) :: st) (wN h t) X) : Aw ε UF M b U pc ls st h X := by
  intro r hr p l e R s m args below meth c Γ ad0 h0 A0 Z cx rt H locs cells slots ad la hh
  obtain ⟨hc, hin, hty, hnm, hN, h9⟩ := F
  have hT : t < TT := Nat.lt_trans h9 (by decide)
  have g1 := hh.2.2.2.2.2.2.1
  have g2 := hh.2.2.2.2.2.2.2
  refine va_new (fs := (List.range (nfl t)).map (fval U' ad (wN h t) t (gN h t))) cx.1 cx.2.1 cx.2.2.2.2.1 hin ty hty cx.2.2.2.1 (cx.2.2.2.2.1 _ hl) (cx.2.2.2.2.1 _ hi) (cx.2.2.2.2.1 _ hini) cx.2.2.2.2.2.1.1 hh.1.toP hh.1.toD hh.2.1 cx.2.2.2.2.2.2.1 hc (fun j hj => ?_) (by omega) (by omega) d fun q H1 k1 k2 k3 => ?_
  · rw [hdef ad j hj, vp_V, List.getD_eq_getElem?_getD, List.getElem?_map, List.getElem?_range (by rw [hN]; exact hj)]
    rfl
  · have hcell : cellOf Γ U' (adN ad h t q) (wN h t) t (gN h t) = .inr (t, (List.range (nfl t)).map (fval U' ad (wN h t) t (gN h t))) := by
      rw [cellOf_o Γ U' _ _ h9]
      congr 2
      refine List.map_congr_left fun k hk => ?_
      rw [← hdef ad k (by rw [← hN]; exact List.mem_range.mp hk), hdef (adN ad h t q) k (by rw [← hN]; exact List.mem_range.mp hk)]
    have h3 := kk r hr p l e R s m args below meth c Γ ad0 h0 A0 Z cx rt H1 locs (cells + 1) (slots + N) (adN ad h t q) la (hh.new hT (hh.1.ofPush hT k1 k2 hcell hU hUt) k3 hh.sv hb hb2)
    rw [List.map_cons, VokL.cv (Ext.new (q := q) hT) hh.sv] at h3
    rw [show cv (adN ad h t q) (vr t (some (gN h t))) = .ref q from congrArg Value.ref (if_pos ⟨rfl, rfl⟩)] at h3
    exact h3
theorem ra_eq {s : State} {c1 c2 : ClassId} {ty : FieldType} (h1 : va_RA s c1 ty) (h2 : va_RA s c2 ty) : c1 = c2 := by
  cases ty with
  | object C =>
    obtain ⟨_, _, _, _, _, e1⟩ := h1
    obtain ⟨_, _, _, _, _, e2⟩ := h2
    exact Option.some.inj (e1.symm.trans e2)
  | _ => exact Option.some.inj (Eq.trans (Eq.symm h1) h2)
theorem ra_last {D : va_G} {cl : List vw_C} {tys : List (ClassId × FieldType)} {cA : ClassId} {ty : FieldType} {U : State} (h : va_K D cl (tys ++ [(cA, ty)]) U) : va_RA U cA ty := (h.2 tys.length (cA, ty) (by simp)).2
set_option maxHeartbeats 1000000 in
theorem A_newarr {t : Nat} {n : Int32} {N : Nat} {ty : FieldType} {atype : ArrayType} (b' : Nat × Nat) (ht : ¬ t < 9) (hT : t < TT) (d : decode (mb M) pc = .ok (.newarray atype, 2)) (hty : newarray.typeOf atype = ty) (harr : Cond.arrayClass (newarray.typeOf atype) ∈ WSG)
    (hN : alen t = N) (hn : ¬ n < 0) (hn2 : n.toNatClampNeg = N) (hby : N * componentBytes ty ≤ 536870912) (htys : ∀ cA, (tysOf cA)[aty t]? = some (cA (aty t), ty)) (hcon : ∀ (ad : AD) (cA : ClassId), vp_cell cA (N, acont ad (wN h t) t (gN h t)) = arrV cA N (fun _ => defaultValue ty)) (hac : ∀ ad ad' : AD, acont ad' (wN h t) t (gN h t) = acont ad (wN h t) t (gN h t)) (hb : b'.1 + 1 ≤ b.1) (hb2 : b'.2 + N ≤ b.2)
    (kk : Aw ε UF M b' U (pc + 2) ls (vr t (some (gN h t)) :: st) (wN h t) X) : Aw ε UF M b U pc ls (vi n :: st) h X := by
  intro r hr p l e R s m args below meth c Γ ad0 h0 A0 Z cx rt H locs cells slots ad la hh
  have g1 := hh.2.2.2.2.2.2.1
  have g2 := hh.2.2.2.2.2.2.2
  refine va_newa (a0 := (N, acont ad (wN h t) t (gN h t))) cx.1 cx.2.1 (cx.2.2.2.2.1 _ harr) hty cx.2.2.2.2.2.1.1 hh.1.toP hh.1.toD hh.2.1 cx.2.2.2.2.2.2.1 (hcon ad) hn hn2 hby (by omega) (by omega) d fun q cA H1 k0 k1 k2 k3 => ?_
  have hcA : cA = Γ.2 (aty t) := ra_eq (ra_last k0) (cx.2.2.2.2.2.1.1.2 (aty t) _ (htys Γ.2)).2
  subst hcA
  have hcell : cellOf Γ U (adN ad h t q) (wN h t) t (gN h t) = .inl (Γ.2 (aty t), N, acont ad (wN h t) t (gN h t)) := by
    rw [cellOf_a Γ U _ _ ht, hN, hac ad (adN ad h t q)]
  have h3 := kk r hr p l e R s m args below meth c Γ ad0 h0 A0 Z cx rt H1 locs (cells + 1) (slots + N) (adN ad h t q) la (hh.new hT (hh.1.ofPush hT k1 k2 hcell (fun _ _ _ _ => rfl) (fun k h9 => absurd h9 ht)) k3 hh.sv.2 hb hb2)
  rw [List.map_cons, VokL.cv (Ext.new (q := q) hT) hh.sv.2] at h3
  rw [show cv (adN ad h t q) (vr t (some (gN h t))) = .ref q from congrArg Value.ref (if_pos ⟨rfl, rfl⟩)] at h3
  exact h3
set_option maxHeartbeats 1000000 in
theorem A_anew {t idx : Nat} {n : Int32} {N : Nat} {C : String} (b' : Nat × Nat) (ht : ¬ t < 9) (hT : t < TT) (ha : 4 ≤ aty t) (d : decode (mb M) pc = .ok (.anewarray idx, 3)) (hl : Cond.classLink (my M).cls idx C ∈ WSG) (hC : C ∈ [RX0, RX1, RX6])
    (hN : alen t = N) (hn : ¬ n < 0) (hn2 : n.toNatClampNeg = N) (hby : N * 4 ≤ 536870912) (htys : ∀ cA, (tysOf cA)[aty t]? = some (cA (aty t), .object C)) (hb : b'.1 + 1 ≤ b.1) (hb2 : b'.2 + N ≤ b.2)
    (kk : Aw ε UF M b' U (pc + 3) ls (vr t (some (gN h t)) :: st) (wN h t) X) : Aw ε UF M b U pc ls (vi n :: st) h X := by
  intro r hr p l e R s m args below meth c Γ ad0 h0 A0 Z cx rt H locs cells slots ad la hh
  have g1 := hh.2.2.2.2.2.2.1
  have g2 := hh.2.2.2.2.2.2.2
  refine va_newq cx.1 cx.2.1 cx.2.2.2.1 (cx.2.2.2.2.1 _ hl) (cx.2.2.2.2.2.1.2.2 C hC) cx.2.2.2.2.2.1.1 hh.1.toP hh.1.toD hh.2.1 cx.2.2.2.2.2.2.1 hn hn2 hby (by omega) (by omega) d fun q cA H1 k0 k1 k2 k3 => ?_
  have hcA : cA = Γ.2 (aty t) := ra_eq (ra_last k0) (cx.2.2.2.2.2.1.1.2 (aty t) _ (htys Γ.2)).2
  subst hcA
  have hcell : cellOf Γ U (adN ad h t q) (wN h t) t (gN h t) = .inl (Γ.2 (aty t), N, .inr (.inr (.inr (.inr (fun _ => none))))) := by
    rw [cell_q ht ha, hN]
    congr 7
    funext j
    rw [gP_wN, if_pos ⟨rfl, rfl⟩]
    rfl
  have h3 := kk r hr p l e R s m args below meth c Γ ad0 h0 A0 Z cx rt H1 locs (cells + 1) (slots + N) (adN ad h t q) la (hh.new hT (hh.1.ofPush hT k1 k2 hcell (fun _ _ _ _ => rfl) (fun k h9 => absurd h9 ht)) k3 hh.sv.2 hb hb2)
  rw [List.map_cons, VokL.cv (Ext.new (q := q) hT) hh.sv.2] at h3
  rw [show cv (adN ad h t q) (vr t (some (gN h t))) = .ref q from congrArg Value.ref (if_pos ⟨rfl, rfl⟩)] at h3
  exact h3
end
