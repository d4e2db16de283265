/-! ===== calls, switches, the script ===== -/
abbrev eI : Int32 × Hp → Option AV × Hp := fun r => (some (vi r.1), r.2)
abbrev eIr (h : Hp) : Int32 → Option AV × Hp := fun r => (some (vi r), h)
abbrev eB : Bool × Hp → Option AV × Hp := fun r => (some (vi (bi r.1)), r.2)
abbrev eBr (h : Hp) : Bool → Option AV × Hp := fun r => (some (vi (bi r)), h)
abbrev eLr (h : Hp) : Int64 → Option AV × Hp := fun r => (some (vl r), h)
abbrev eRr (t : Nat) (h : Hp) : Option Nat → Option AV × Hp := fun r => (some (vr t r), h)
abbrev eV : Hp → Option AV × Hp := fun r => (none, r)
theorem call_go {p : Program} {l : Launch} {e : Env} {R : Room} {s : State} {m : MethodId} {args : Array Value} {below : List Frame} {meth : Method} {c : Code} {H : Heap} {locs : List Loc} {cells slots mc ms pc : Nat} {la : Array Slot} {stk rest : List Value} {Γ : GW} {UF' : US} {ad : AD} {h : Hp} {res : Option AV × Hp} {a' : Array Value} {A0 : Nat → Prop} {H0 : Heap} {Z : State → Prop}
    (hr : va_Run p l e R s m args below meth c H locs cells slots mc ms (F0 m pc la stk) rest (QcM Γ UF' ad (AA ad h H.size) h res a') (AA ad h H.size)) (hS : va_S A0 H0 H locs) (hA : ∀ q, AA ad h H.size q → A0 q)
    (kk : ∀ (ad' : AD) (H1 : Heap) (locs1 : List Loc), Rp Γ UF' ad' A0 res.2 H1 → Ext ad h ad' res.2 → VokL res.2 res.1.toList → va_S A0 H0 H1 locs1 → W p l e R s m args below meth c H1 locs1 (cells + mc) (slots + ms) Z (F0 m (pc + 3) la (res.1.toList.map (cv ad') ++ rest))) : W p l e R s m args below meth c H locs cells slots Z (F0 m pc la stk) := by
  intro T hT X
  obtain ⟨v, st₀, t, T', L, h0, X', hL, e1, e2, ⟨ad', hv, hRp, hEx, hVk, hz, hk⟩, go⟩ := hr T hT X
  cases hv
  rw [h0] at hz hk
  have hS1 : va_S A0 H0 T'.heap (locs ++ L) := ⟨Nat.le_trans hS.1 (by rw [e1]; exact hz), fun q h1 h2 => by
    rw [e1, hk q (Nat.lt_of_lt_of_le h1 hS.1) (fun z => h2 (hA q z))]
    exact hS.2.1 q h1 h2, fun q hq => by
    rcases List.mem_append.mp hq with h | h
    · exact hS.2.2 q h
    · exact hA _ (hL q h)⟩
  obtain ⟨t2, a1, b1⟩ := kk ad' T'.heap (locs ++ L) ((by rw [e1]; exact hRp : Rp Γ UF' ad' (AA ad h H.size) res.2 T'.heap).mono hA) hEx hVk hS1 T' rfl X'
  refine ⟨t2, go t2 ?_, b1⟩
  have : (res.1.map (cv ad')).toList = res.1.toList.map (cv ad') := by cases res.1 <;> rfl
  rw [← this] at a1
  exact a1
def CodeIn (M' : MD) (n : Nat) : Prop := Cond.code (my M') (mb M') (mL M') (mr M') ∈ WSG ∧ ((my M').cls ≠ "java/lang/invoke/MethodHandle" ∧ (my M').cls ≠ "java/lang/invoke/VarHandle" ∧ (parseMethodDescriptor (my M').desc).map (fun d => d.parameters.length) = some n)
def RoomIn (M M' : MD) : Prop := (mrm M').frames + 1 ≤ (mrm M).frames ∧ 8 + (mL M' + 11) + (mrm M').locals ≤ (mrm M).locals
section
variable {ρ : Type} {ε : ρ → Option AV × Hp} {UF : US} {M : MD} {b : Nat × Nat} {U : US} {pc : Nat} {ls : List (Option AV)} {st stk : List AV} {h : Hp} {X Y : Option ρ}
variable {M' : MD} {ρ' : Type} {ε' : ρ' → Option AV × Hp} {F : Option ρ'} {K : ρ' → Option ρ} {idx n : Nat} {As : List AV} {UF' : US}
theorem blind {Γ : GW} {U : US} {ad : AD} {h : Hp} {sz : Nat} {av : List AV} : FrameBlind (PcM Γ U ad h sz av) := fun a T g mk q => ⟨q.1, q.2.1, q.2.2.1, q.2.2.2.call g mk a⟩
theorem pre_at {Γ : GW} {U : US} {ad : AD} {A0 : Nat → Prop} {h : Hp} {H : Heap} {s : State} {av : List AV} (hR : Rp Γ U ad A0 h H) (hK : KK Γ s) (T : State) (hT : T.heap = H) (hW : s.WarmedH T.vm) : PcM Γ U ad h H.size av (av.map (cv ad)).toArray T := ⟨rfl, by rw [hT], by rw [hT]; exact hR.mono (fun _ _ => trivial), hK.warm hW⟩
theorem free_in {Γ : GW} {U : US} {ad : AD} {A0 : Nat → Prop} {h : Hp} {H H0 : Heap} {locs : List Loc} (hR : Rp Γ U ad A0 h H) (hS : va_S A0 H0 H locs) (hA : ∀ q, H0.size ≤ q → A0 q) : ∀ q, AA ad h H.size q → A0 q := by
  rintro q (⟨t, i, h1, h2, rfl⟩ | h1)
  · exact hR.2.2.1 t i h1 h2
  · exact hA q (Nat.le_trans hS.1 h1)
/-- behind a call -/
theorem aft {Γ : GW} {ad0 : AD} {h0 : Hp} {ad ad' : AD} {A0 : Nat → Prop} {s : State} {R : Room} {b' : Nat × Nat} {H1 : Heap} {locs1 : List Loc} {H : Heap} {locs : List Loc} {cells slots : Nat} {la : Array Slot} {r' : ρ'} {sv : List AV} (hh : Hr M Γ U ad0 h0 ad A0 s R b ls stk h H locs cells slots la) (hst : VokL h st) (hv : (ε' r').1.toList ++ st = sv) (hb : b'.1 + (mrm M').cells ≤ b.1) (hb2 : b'.2 + (mrm M').slots ≤ b.2) (k1 : Rp Γ UF' ad' A0 (ε' r').2 H1) (k2 : Ext ad h ad' (ε' r').2) (k3 : VokL (ε' r').2 (ε' r').1.toList) (k4 : va_S A0 s.heap H1 locs1) :
    Hr M Γ UF' ad0 h0 ad' A0 s R b' ls sv (ε' r').2 H1 locs1 (cells + (mrm M').cells) (slots + (mrm M').slots) la ∧ (ε' r').1.toList.map (cv ad') ++ st.map (cv ad) = sv.map (cv ad') := by
  refine ⟨⟨k1, k4, by rw [lvo_cv k2 hh.2.2.2.2.1]; exact hh.2.2.1, by rw [← hv]; exact k3.app (hst.mono k2.2.1), hh.2.2.2.2.1.mono k2.2.1, hh.2.2.2.2.2.1.tr k2, ?_, ?_⟩, ?_⟩
  · have := hh.2.2.2.2.2.2.1
    omega
  · have := hh.2.2.2.2.2.2.2
    omega
  · rw [← hv, List.map_append, hst.cv k2]
set_option maxHeartbeats 1000000 in
theorem A_callV {t i : Nat} {r0 : vw_C} (b' : Nat × Nat) (sv : ρ' → List AV) (hv' : ρ' → Hp) (hC : CtA ε' M' U UF' (vr t (some i) :: As) h F) (cd : CodeIn M' n) (hl : Cond.methodLink (my M).cls idx (my M') ∈ WSG) (hi : Cond.instanceMethod (my M') ∈ WSG) (hs : Cond.selects (my M').cls (my M') (my M') ∈ WSG) (hini : Cond.initialized (my M').cls ∈ WSG) (hR : RoomIn M M')
    (d : decode (mb M) pc = .ok (.invokevirtual idx, 3)) (hn : As.length = n) (hcl : vwCl[t]? = some r0) (hcn : r0.1 = (my M').cls) (h9 : t < 9) (hst : stk = As.reverse ++ vr t (some i) :: st) (hcat : catL st ≤ 8) (hb : b'.1 + (mrm M').cells ≤ b.1) (hb2 : b'.2 + (mrm M').slots ≤ b.2) (hsv : ∀ r, (ε' r).1.toList ++ st = sv r) (hhv : ∀ r, (ε' r).2 = hv' r)
    (kk : ∀ r, Aw ε UF M b' UF' (pc + 3) ls (sv r) (hv' r) (K r)) : Aw ε UF M b U pc ls stk h (F.bind K) := by
  intro r hr p l e R s m args below meth c Γ ad0 h0 A0 Z cx rt H locs cells slots ad la hh
  obtain ⟨r', hF, hKr⟩ := Option.bind_eq_some_iff.mp hr
  have hsk := hh.sv
  rw [hst] at hsk
  have hT : t < TT := Nat.lt_trans h9 (by decide)
  have hi0 := hsk.right.1.ref hT
  have hM := hC r' hF l Γ ad H.size ⟨hsk.right.1, hsk.left.rev⟩
  have hRm : R = mrm M := cx.2.2.2.2.2.2.2.2.1
  have g1 := hh.2.2.2.2.2.2.1
  have g2 := hh.2.2.2.2.2.2.2
  have hrec : ∃ cellB : Cell, H[ad t i]? = some cellB ∧ cellB.vm.isStatics = false ∧ s.vm.findClass (my M').cls = some cellB.cls := by
    obtain ⟨q, -, hq⟩ := wsd_at (Γ := Γ) (U := U) (ad := ad) hT hi0
    rw [cellOf_o Γ U ad h h9] at hq
    rw [← hcn]
    exact va_recv cx.2.2.2.2.2.1.1 hh.1.toP hcl hq
  have hG : GoodIn WSG (wsV (my M).cls idx (my M').cls (my M') (wsM M')) := WSG_g fun w hw => by
    unfold wsV at hw
    rcases List.mem_append.mp hw with hw | hw
    · simp only [List.mem_cons, List.not_mem_nil, or_false] at hw
      rcases hw with rfl | rfl | rfl | rfl
      · exact hl
      · exact hi
      · exact hs
      · exact hini
    · exact WSG_c cd.1 w hw
  have run := va_runV (As := As.map (cv ad)) (rest := st.map (cv ad)) (g := F0 m pc la (stk.map (cv ad))) (H := H) (locs := locs) (cells := cells) (slots := slots) (R := R) (p := p) (e := e) (below := below) (meth := meth) (b := ad t i) ⟨cx.1, cx.2.1, cx.2.2.1, cx.2.2.2.1, cx.2.2.2.2.1⟩ hM (cwV n cx.2.2.2.2.1 hG rfl rfl rfl ⟨rfl, cd.2⟩ (by rw [hRm]; exact hR)) ⟨blind, hrec, fun T hT' hW => pre_at (av := vr t (some i) :: As) hh.1 cx.2.2.2.2.2.1 T hT' hW⟩ rfl (by rw [List.length_map]; exact hn) hh.2.2.1.1 (by show stk.map (cv ad) = _; rw [hst, List.map_append, List.map_reverse]; rfl) (lv_room (by rw [catL_eq]; exact hcat)) d ⟨by omega, by omega⟩
  refine call_go run hh.2.1 (free_in hh.1 hh.2.1 cx.2.2.2.2.2.2.1) fun ad' H1 locs1 k1 k2 k3 k4 => ?_
  obtain ⟨q1, q2⟩ := aft (M' := M') (ε' := ε') (r' := r') (sv := sv r') hh hsk.right.2 (hsv r') hb hb2 k1 k2 k3 k4
  rw [q2]
  have := kk r'
  rw [← hhv r'] at this
  exact this r hKr p l e R s m args below meth c Γ ad0 h0 A0 Z cx rt H1 locs1 _ _ ad' la q1
set_option maxHeartbeats 1000000 in
theorem A_callS (b' : Nat × Nat) (sv : ρ' → List AV) (hv' : ρ' → Hp) (hC : CtA ε' M' U UF' As h F) (cd : CodeIn M' n) (hl : Cond.methodLink (my M).cls idx (my M') ∈ WSG) (hs : Cond.static (my M') ∈ WSG) (hini : Cond.initialized (my M').cls ∈ WSG) (hR : RoomIn M M')
    (d : decode (mb M) pc = .ok (.invokestatic idx, 3)) (hn : As.length = n) (hst : stk = As.reverse ++ st) (hcat : catL st ≤ 8) (hb : b'.1 + (mrm M').cells ≤ b.1) (hb2 : b'.2 + (mrm M').slots ≤ b.2) (hsv : ∀ r, (ε' r).1.toList ++ st = sv r) (hhv : ∀ r, (ε' r).2 = hv' r)
    (kk : ∀ r, Aw ε UF M b' UF' (pc + 3) ls (sv r) (hv' r) (K r)) : Aw ε UF M b U pc ls stk h (F.bind K) := by
  intro r hr p l e R s m args below meth c Γ ad0 h0 A0 Z cx rt H locs cells slots ad la hh
  obtain ⟨r', hF, hKr⟩ := Option.bind_eq_some_iff.mp hr
  have hsk := hh.sv
  rw [hst] at hsk
  have hM := hC r' hF l Γ ad H.size hsk.left.rev
  have hRm : R = mrm M := cx.2.2.2.2.2.2.2.2.1
  have g1 := hh.2.2.2.2.2.2.1
  have g2 := hh.2.2.2.2.2.2.2
  have hG : GoodIn WSG (va_wsS (my M).cls idx (my M') (wsM M')) := WSG_g fun w hw => by
    unfold va_wsS at hw
    rcases List.mem_append.mp hw with hw | hw
    · simp only [List.mem_cons, List.not_mem_nil, or_false] at hw
      rcases hw with rfl | rfl | rfl
      · exact hl
      · exact hs
      · exact hini
    · exact WSG_c cd.1 w hw
  have run := va_runS (As := As.map (cv ad)) (rest := st.map (cv ad)) (g := F0 m pc la (stk.map (cv ad))) (H := H) (locs := locs) (cells := cells) (slots := slots) (R := R) (p := p) (e := e) (below := below) (meth := meth) ⟨cx.1, cx.2.1, cx.2.2.1, cx.2.2.2.1, cx.2.2.2.2.1⟩ hM (va_cwS n cx.2.2.2.2.1 hG rfl rfl rfl cd.2 (by rw [hRm]; exact hR)) ⟨blind, fun T hT' hW => pre_at (av := As) hh.1 cx.2.2.2.2.2.1 T hT' hW⟩ rfl (by rw [List.length_map]; exact hn) hh.2.2.1.1 (by show stk.map (cv ad) = _; rw [hst, List.map_append, List.map_reverse]) (lv_room (by rw [catL_eq]; exact hcat)) d ⟨by omega, by omega⟩
  refine call_go run hh.2.1 (free_in hh.1 hh.2.1 cx.2.2.2.2.2.2.1) fun ad' H1 locs1 k1 k2 k3 k4 => ?_
  obtain ⟨q1, q2⟩ := aft (M' := M') (ε' := ε') (r' := r') (sv := sv r') hh hsk.right (hsv r') hb hb2 k1 k2 k3 k4
  rw [q2]
  have := kk r'
  rw [← hhv r'] at this
  exact this r hKr p l e R s m args below meth c Γ ad0 h0 A0 Z cx rt H1 locs1 _ _ ad' la q1
set_option maxHeartbeats 1000000 in
/-- a private static method of a nest mate -/
theorem A_callN {host : String} (b' : Nat × Nat) (sv : ρ' → List AV) (hv' : ρ' → Hp) (hC : CtA ε' M' U UF' As h F) (cd : CodeIn M' n) (hl : ((my M).cls, idx, my M', host) ∈ nestL) (hs : Cond.static (my M') ∈ WSG) (hini : Cond.initialized (my M').cls ∈ WSG) (hR : RoomIn M M')
    (d : decode (mb M) pc = .ok (.invokestatic idx, 3)) (hn : As.length = n) (hst : stk = As.reverse ++ st) (hcat : catL st ≤ 8) (hb : b'.1 + (mrm M').cells ≤ b.1) (hb2 : b'.2 + (mrm M').slots ≤ b.2) (hsv : ∀ r, (ε' r).1.toList ++ st = sv r) (hhv : ∀ r, (ε' r).2 = hv' r)
    (kk : ∀ r, Aw ε UF M b' UF' (pc + 3) ls (sv r) (hv' r) (K r)) : Aw ε UF M b U pc ls stk h (F.bind K) := by
  intro r hr p l e R s m args below meth c Γ ad0 h0 A0 Z cx rt H locs cells slots ad la hh
  obtain ⟨r', hF, hKr⟩ := Option.bind_eq_some_iff.mp hr
  have hsk := hh.sv
  rw [hst] at hsk
  have hM := hC r' hF l Γ ad H.size hsk.left.rev
  have hRm : R = mrm M := cx.2.2.2.2.2.2.2.2.1
  have g1 := hh.2.2.2.2.2.2.1
  have g2 := hh.2.2.2.2.2.2.2
  have hG : GoodIn WSG (wsM M') := WSG_g (WSG_c cd.1)
  have run := va_runSN (As := As.map (cv ad)) (rest := st.map (cv ad)) (g := F0 m pc la (stk.map (cv ad))) (H := H) (locs := locs) (cells := cells) (slots := slots) (R := R) (p := p) (e := e) (below := below) (meth := meth) (host := host) ⟨cx.1, cx.2.1, cx.2.2.1, cx.2.2.2.1, cx.2.2.2.2.1⟩ hM ⟨va_cnB n cx.2.2.2.2.1 hG rfl rfl rfl (cx.2.2.2.2.2.1.2.1 _ hl) (cx.2.2.2.2.1 _ hini) cd.2 (by rw [hRm]; exact hR), cx.2.2.2.2.1 _ hs, trivial⟩ ⟨blind, fun T hT' hW => pre_at (av := As) hh.1 cx.2.2.2.2.2.1 T hT' hW⟩ rfl (by rw [List.length_map]; exact hn) hh.2.2.1.1 (by show stk.map (cv ad) = _; rw [hst, List.map_append, List.map_reverse]) (lv_room (by rw [catL_eq]; exact hcat)) d ⟨by omega, by omega⟩
  refine call_go run hh.2.1 (free_in hh.1 hh.2.1 cx.2.2.2.2.2.2.1) fun ad' H1 locs1 k1 k2 k3 k4 => ?_
  obtain ⟨q1, q2⟩ := aft (M' := M') (ε' := ε') (r' := r') (sv := sv r') hh hsk.right (hsv r') hb hb2 k1 k2 k3 k4
  rw [q2]
  have := kk r'
  rw [← hhv r'] at this
  exact this r hKr p l e R s m args below meth c Γ ad0 h0 A0 Z cx rt H1 locs1 _ _ ad' la q1
set_option maxHeartbeats 1000000 in
/-- a constructor -/
theorem A_callI {t i : Nat} (b' : Nat × Nat) (sv : ρ' → List AV) (hv' : ρ' → Hp) (hC : CtA ε' M' U UF' (vr t (some i) :: As) h F) (cd : CodeIn M' n) (hr0 : mr M' = none) (hnm : (my M').name = "<init>") (hl : Cond.methodLink (my M).cls idx (my M') ∈ WSG) (hi : Cond.instanceMethod (my M') ∈ WSG) (hini : Cond.initialized (my M').cls ∈ WSG) (hR : RoomIn M M')
    (d : decode (mb M) pc = .ok (.invokespecial idx, 3)) (hn : As.length = n) (hst : stk = As.reverse ++ vr t (some i) :: st) (hcat : catL st ≤ 8) (hb : b'.1 + (mrm M').cells ≤ b.1) (hb2 : b'.2 + (mrm M').slots ≤ b.2) (hsv : ∀ r, (ε' r).1.toList ++ st = sv r) (hhv : ∀ r, (ε' r).2 = hv' r)
    (kk : ∀ r, Aw ε UF M b' UF' (pc + 3) ls (sv r) (hv' r) (K r)) : Aw ε UF M b U pc ls stk h (F.bind K) := by
  intro r hr p l e R s m args below meth c Γ ad0 h0 A0 Z cx rt H locs cells slots ad la hh
  obtain ⟨r', hF, hKr⟩ := Option.bind_eq_some_iff.mp hr
  have hsk := hh.sv
  rw [hst] at hsk
  have hM := hC r' hF l Γ ad H.size ⟨hsk.right.1, hsk.left.rev⟩
  have hRm : R = mrm M := cx.2.2.2.2.2.2.2.2.1
  have g1 := hh.2.2.2.2.2.2.1
  have g2 := hh.2.2.2.2.2.2.2
  have hw : wsM M' = Cond.code (my M') (mb M') (mL M') none :: WSG := by rw [wsM, hr0]
  have run := va_runI (As := As.map (cv ad)) (rest := st.map (cv ad)) (g := F0 m pc la (stk.map (cv ad))) (H := H) (locs := locs) (cells := cells) (slots := slots) (R := R) (p := p) (e := e) (below := below) (meth := meth) (b := ad t i) ⟨cx.1, cx.2.1, cx.2.2.1, cx.2.2.2.1, cx.2.2.2.2.1⟩ hM (cwI n cx.2.2.2.2.1 (WSG_g (WSG_c cd.1)) hw rfl rfl (cx.2.2.2.2.1 _ hini) (cx.2.2.2.2.1 _ hl) (cx.2.2.2.2.1 _ hi) hnm cd.2 (by rw [hRm]; exact hR)) ⟨blind, fun T hT' hW => pre_at (av := vr t (some i) :: As) hh.1 cx.2.2.2.2.2.1 T hT' hW⟩ rfl (by rw [List.length_map]; exact hn) hh.2.2.1.1 (by show stk.map (cv ad) = _; rw [hst, List.map_append, List.map_reverse]; rfl) (lv_room (by rw [catL_eq]; exact hcat)) d ⟨by omega, by omega⟩
  refine call_go run hh.2.1 (free_in hh.1 hh.2.1 cx.2.2.2.2.2.2.1) fun ad' H1 locs1 k1 k2 k3 k4 => ?_
  obtain ⟨q1, q2⟩ := aft (M' := M') (ε' := ε') (r' := r') (sv := sv r') hh hsk.right.2 (hsv r') hb hb2 k1 k2 k3 k4
  rw [q2]
  have := kk r'
  rw [← hhv r'] at this
  exact this r hKr p l e R s m args below meth c Γ ad0 h0 A0 Z cx rt H1 locs1 _ _ ad' la q1
/-- a condition that the machine doesn't ask -/
theorem A_ite {q : Prop} [Decidable q] (k1 : q → Aw ε UF M b U pc ls st h X) (k2 : ¬ q → Aw ε UF M b U pc ls st h Y) : Aw ε UF M b U pc ls st h (if q then X else Y) := by
  by_cases hq : q
  · rw [if_pos hq]; exact k1 hq
  · rw [if_neg hq]; exact k2 hq
/-- switches -/
def nif (x : Int32) : Nat → List (Option ρ) → Option ρ → Option ρ
  | _, [], D => D
  | k, X :: l, D => if x = Int32.ofNat k then X else nif x (k + 1) l D
def AwL (G : Nat → Option ρ → Prop) (pc : Nat) (offs : Array Int) : Nat → List (Option ρ) → Prop
  | _, [] => True
  | i, X :: l => (∃ tgt : Nat, (offs[i]?).map (fun o => (pc : Int) + o) = some (tgt : Int) ∧ G tgt X) ∧ AwL G pc offs (i + 1) l
theorem nif_out {x : Int32} {D : Option ρ} : ∀ {l : List (Option ρ)} {k : Nat}, k + l.length < 2 ^ 31 → (x.toInt < (k : Int) ∨ ((k + l.length : Nat) : Int) ≤ x.toInt) → nif x k l D = D
  | [], _, _, _ => rfl
  | X :: l, k, hk, hx => by
    rw [List.length_cons] at hk hx
    have hne : ¬ x = Int32.ofNat k := by
      rintro rfl
      have := nI_toInt (n := k) (by omega)
      unfold nI at this
      omega
    rw [nif, if_neg hne]
    exact nif_out (by omega) (by omega)
theorem nif_in {x : Int32} {D : Option ρ} {r : ρ} {G : Nat → Option ρ → Prop} {pc : Nat} {offs : Array Int} : ∀ {l : List (Option ρ)} {k : Nat}, k + l.length < 2 ^ 31 → AwL G pc offs k l → (k : Int) ≤ x.toInt → x.toInt < ((k + l.length : Nat) : Int) → nif x k l D = some r → ∃ (off : Int) (tgt : Nat) (X : Option ρ), offs[x.toInt.toNat]? = some off ∧ (pc : Int) + off = (tgt : Int) ∧ G tgt X ∧ X = some r
  | [], k, _, _, h1, h2, _ => by rw [List.length_nil] at h2; omega
  | X :: l, k, hk, hA, h1, h2, hr => by
    rw [List.length_cons] at hk h2
    by_cases hx : x = Int32.ofNat k
    · rw [nif, if_pos hx] at hr
      obtain ⟨⟨tgt, ho, hG⟩, -⟩ := hA
      have ht : x.toInt.toNat = k := by
        rw [hx]
        have := nI_toInt (n := k) (by omega)
        unfold nI at this
        omega
      cases ho2 : offs[k]? with
      | none => rw [ho2] at ho; cases ho
      | some off => rw [ho2] at ho; exact ⟨off, tgt, X, by rw [ht]; exact ho2, Option.some.inj ho, hG, hr⟩
    · rw [nif, if_neg hx] at hr
      have hne : x.toInt ≠ (k : Int) := by
        intro q
        apply hx
        apply Int32.toInt_inj.mp
        rw [q]
        have := nI_toInt (n := k) (by omega)
        unfold nI at this
        exact this.symm
      exact nif_in (by omega) hA.2 (by omega) (by omega) hr
theorem A_table {x : Int32} {dflt hi : Int} {offs : Array Int} {len tgt : Nat} {l : List (Option ρ)} {D : Option ρ} (d : decode (mb M) pc = .ok (.tableswitch dflt 0 hi offs, len)) (hl : hi + 1 = (l.length : Int)) (hs : l.length < 2 ^ 31) (ht : (pc : Int) + dflt = (tgt : Int)) (kd : Aw ε UF M b U tgt ls st h D) (kk : AwL (fun t X => Aw ε UF M b U t ls st h X) pc offs 0 l) : Aw ε UF M b U pc ls (vi x :: st) h (nif x 0 l D) := by
  intro r hr p le e R s m args below meth c Γ ad0 h0 A0 Z cx rt H locs cells slots ad la hh
  by_cases hx : x.toInt < 0 ∨ hi < x.toInt
  · rw [nif_out (by omega) (by omega)] at hr
    exact lv_tableOut cx.1 cx.2.1 d hx ht (kd r hr p le e R s m args below meth c Γ ad0 h0 A0 Z cx rt H locs cells slots ad la (hh.stk hh.sv.2))
  · obtain ⟨off, tg, X, h1, h2, h3, h4⟩ := nif_in (by omega) kk (by omega) (by omega) hr
    exact lv_tableIn cx.1 cx.2.1 d (by omega) (by omega) (by rw [Int.sub_zero]; exact h1) h2 (h3 r h4 p le e R s m args below meth c Γ ad0 h0 A0 Z cx rt H locs cells slots ad la (hh.stk hh.sv.2))
def lif (x : Int32) : List (Int32 × Option ρ) → Option ρ → Option ρ
  | [], D => D
  | (k, X) :: l, D => if x = k then X else lif x l D
def LwL (G : Nat → Option ρ → Prop) (pc : Nat) : List (Int × Int) → List (Int32 × Option ρ) → Prop
  | [], [] => True
  | (a, o) :: ps, (k, X) :: l => (k.toInt = a ∧ ∃ tgt : Nat, (pc : Int) + o = (tgt : Int) ∧ G tgt X) ∧ LwL G pc ps l
  | _, _ => False
theorem lif_go {x : Int32} {D : Option ρ} {r : ρ} {G : Nat → Option ρ → Prop} {pc tgtD : Nat} {dflt : Int} (hD : (pc : Int) + dflt = (tgtD : Int)) (kD : G tgtD D) : ∀ {ps : List (Int × Int)} {l : List (Int32 × Option ρ)}, LwL G pc ps l → lif x l D = some r → ∃ (tgt : Nat) (X : Option ρ), (pc : Int) + Op.lookupswitch.offset ps dflt x.toInt = (tgt : Int) ∧ G tgt X ∧ X = some r
  | [], [], _, hr => ⟨tgtD, D, hD, kD, hr⟩
  | (a, o) :: ps, (k, X) :: l, hA, hr => by
    obtain ⟨⟨hk, tgt, ht, hG⟩, hA2⟩ := hA
    by_cases hx : x = k
    · rw [lif, if_pos hx] at hr
      refine ⟨tgt, X, ?_, hG, hr⟩
      rw [hx, Op.lookupswitch.offset_cons, if_pos (by first | exact hk.symm | exact hk | simp [hk])]
      exact ht
    · rw [lif, if_neg hx] at hr
      rw [lv_osw hx hk]
      exact lif_go hD kD hA2 hr
  | [], _ :: _, hA, _ => hA.elim
  | _ :: _, [], hA, _ => hA.elim
theorem A_lookup {x : Int32} {dflt : Int} {ps : Array (Int × Int)} {len tgt : Nat} {l : List (Int32 × Option ρ)} {D : Option ρ} (d : decode (mb M) pc = .ok (.lookupswitch dflt ps, len)) (hp : (ps.toList.zip (ps.toList.drop 1)).all (fun (a, next) => a.1 < next.1) = true) (ht : (pc : Int) + dflt = (tgt : Int)) (kd : Aw ε UF M b U tgt ls st h D) (kk : LwL (fun t X => Aw ε UF M b U t ls st h X) pc ps.toList l) : Aw ε UF M b U pc ls (vi x :: st) h (lif x l D) := by
  intro r hr p le e R s m args below meth c Γ ad0 h0 A0 Z cx rt H locs cells slots ad la hh
  obtain ⟨tg, X, h1, h2, h3⟩ := lif_go ht kd kk hr
  exact lv_lookup cx.1 cx.2.1 d hp rfl h1 (h2 r h3 p le e R s m args below meth c Γ ad0 h0 A0 Z cx rt H locs cells slots ad la (hh.stk hh.sv.2))
/-- the script -/
theorem A_sld {j : Int32} {L : Nat} {xs : Nat → Int32} (hm : msc M = some (L, xs)) (d : decode (mb M) pc = .ok (.iaload, 1)) (hj : vp_in j L) (kk : Aw ε UF M b U (pc + 1) ls (vi (xs j.toNatClampNeg) :: st) h X) : Aw ε UF M b U pc ls (vi j :: vr 99 (some 0) :: st) h X := by
  intro r hr p l e R s m args below meth c Γ ad0 h0 A0 Z cx rt H locs cells slots ad la hh
  obtain ⟨g1, g2, g3⟩ := cx.2.2.2.2.2.2.2.2.2 L xs hm
  have k2 := kk r hr p l e R s m args below meth c Γ ad0 h0 A0 Z cx rt H locs cells slots ad la (hh.stk ⟨trivial, hh.sv.2.2⟩)
  have := va_sld (i := j) (pc := pc) (ls := la) (rest := st.map (cv ad)) cx.1 cx.2.1 g1 g2 g3 hh.2.1 hj d k2
  have e1 : ad 99 0 = ad0 99 0 := by rw [hh.2.2.2.2.2.1.2.2 99 (by decide)]
  rw [← e1] at this
  exact this
theorem A_slen {L : Nat} {xs : Nat → Int32} (hm : msc M = some (L, xs)) (d : decode (mb M) pc = .ok (.arraylength, 1)) (kk : Aw ε UF M b U (pc + 1) ls (vi (Int32.ofNat L) :: st) h X) : Aw ε UF M b U pc ls (vr 99 (some 0) :: st) h X := by
  intro r hr p l e R s m args below meth c Γ ad0 h0 A0 Z cx rt H locs cells slots ad la hh
  obtain ⟨g1, g2, g3⟩ := cx.2.2.2.2.2.2.2.2.2 L xs hm
  have k2 := kk r hr p l e R s m args below meth c Γ ad0 h0 A0 Z cx rt H locs cells slots ad la (hh.stk ⟨trivial, hh.sv.2⟩)
  have := va_slen (pc := pc) (ls := la) (rest := st.map (cv ad)) cx.1 cx.2.1 g1 g2 g3 hh.2.1 d k2
  have e1 : ad 99 0 = ad0 99 0 := by rw [hh.2.2.2.2.2.1.2.2 99 (by decide)]
  rw [← e1] at this
  exact this
end
