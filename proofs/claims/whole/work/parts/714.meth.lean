/-! ===== run: an hour ===== -/
def cntB (p : Nat → Bool) : Nat → Nat
  | 0 => 0
  | n + 1 => cntB p n + (if p n = true then 1 else 0)
theorem cntB_le (p : Nat → Bool) : ∀ n, cntB p n ≤ n
  | 0 => Nat.le_refl 0
  | n + 1 => by
    have := cntB_le p n
    unfold cntB
    split <;> omega
theorem cntB_c {p q : Nat → Bool} : ∀ n, (∀ j, j < n → q j = p j) → cntB q n = cntB p n
  | 0, _ => rfl
  | n + 1, hh => by rw [cntB, cntB, cntB_c n (fun j hj => hh j (by omega)), hh n (by omega)]
theorem cntB_dec {p q : Nat → Bool} {i : Nat} (hp : p i = true) (hq : q i = false) : ∀ n, i < n → (∀ j, j < n → j ≠ i → q j = p j) → cntB q n + 1 = cntB p n
  | 0, hi, _ => by omega
  | n + 1, hi, hh => by
    by_cases e : n = i
    · subst e
      rw [cntB, cntB, cntB_c n (fun j hj => hh j (by omega) (by omega)), if_pos hp, if_neg (by rw [hq]; decide)]
    · have := cntB_dec hp hq n (by omega) (fun j hj => hh j (by omega))
      rw [cntB, cntB, hh n (by omega) e]
      omega
def lyB (h : Hp) (i : Nat) : Bool := decide (i < gN h 1 ∧ ¬ gI h 1 i 8 = -1)
theorem lyB_tk {h : Hp} {i b k j : Nat} : lyB (tkC h i b k) j = decide (j < gN h 1 ∧ ¬ (if j = i then (-1 : Int32) else gI h 1 j 8) = -1) := by
  unfold lyB
  have g : gI (tkC h i b k) 1 j 8 = if j = i then (-1 : Int32) else gI h 1 j 8 := by
    rw [tkC_I, if_neg (by omega), if_neg (by omega), if_neg (by omega), hA0_I]
    by_cases e : j = i
    · rw [if_pos ⟨rfl, e, Or.inl rfl⟩, if_pos e]
    · rw [if_neg (fun w => e w.2.1), if_neg e]
  have n : gN (tkC h i b k) = gN h := (tkC_F h i b k).1.1
  rw [g, n]
theorem L_send : ∀ (d n1 n2 j : Nat) (acc : Int32) (hc hm : Hp), Rel (ov hm hc) → j + d = 8 → cntB (lyB hc) 8 ≤ d → d < n1 → d + 1 < n2 →
    ∃ v hc' hm', fL_X2_sendOff_4 n1 acc (nI j) hc = some (v, hc') ∧ fL_X8_doHour_23 n2 acc 1 hm = fL_X8_doHour_65 FU v 0 hm' ∧ Rel (ov hm' hc') ∧ MP hc' hc ∧ CP hm' hm ∧ Gw 0 d hm hm' := by
  intro d
  induction d with
  | zero =>
    intro n1 n2 j acc hc hm R hj hl h1 h2
    obtain ⟨n1, rfl⟩ : ∃ k, n1 = k + 1 := ⟨n1 - 1, by omega⟩
    obtain ⟨n2, rfl⟩ : ∃ k, n2 = k + 2 := ⟨n2 - 2, by omega⟩
    obtain rfl : j = 8 := by omega
    refine ⟨acc, hc, hm, by rw [fL_X2_sendOff_4, if_pos (by decide)], ?_, R, fun _ _ => rfl, CP.rfl' hm, Gw.rfl' hm⟩
    obtain ⟨o, o1, o2⟩ := e_next R
    rcases o2 with ⟨-, o2⟩ | ⟨i, i1, i2, i3, i4⟩
    · have nx : f_X8_nextToLeave hm = some (-1) := (lm_next (fun t ht => (xIm ht).symm)).trans o2
      rw [fL_X8_doHour_23, if_neg (by decide), nx, bnd_some, if_pos (by decide)]
      unfold fJ_X8_doHour_41
      rw [if_pos rfl, fL_X8_doHour_23, if_pos rfl]
    · exfalso
      have hT : gN (ov hm hc) 1 ≤ 8 := R.t8
      rw [xIc rfl] at i2
      have := cntB_dec (p := lyB hc) (q := fun j => if j = i then false else lyB hc j) (i := i) (decide_eq_true ⟨i1, i2⟩) (if_pos rfl) 8 (by omega) (fun j _ e => if_neg e)
      omega
  | succ d ih =>
    intro n1 n2 j acc hc hm R hj hl h1 h2
    obtain ⟨n1, rfl⟩ : ∃ k, n1 = k + 1 := ⟨n1 - 1, by omega⟩
    obtain ⟨n2, rfl⟩ : ∃ k, n2 = k + 2 := ⟨n2 - 2, by omega⟩
    have hT : gN (ov hm hc) 1 ≤ 8 := R.t8
    have hB : gN (ov hm hc) 0 ≤ 4 := R.b4
    have E : CE hc (ov hm hc) := CE.ov hm hc
    have EMm : MP hm (ov hm hc) := fun t ht => (xIm ht).symm
    have nle : ¬ (8 : Int32) ≤ nI j := fun q => by have := (nIl (n := 8) (by omega) (by omega)).mp q; omega
    obtain ⟨o, o1, o2⟩ := e_next R
    have o1' : f_X2_nextToLeave hc = some o := (lc_next E).trans o1
    rcases o2 with ⟨rfl, o2⟩ | ⟨i, i1, i2, rfl, i4⟩
    · have nx : f_X8_nextToLeave hm = some (-1) := (lm_next EMm).trans o2
      refine ⟨acc, hc, hm, ?_, ?_, R, fun _ _ => rfl, CP.rfl' hm, (Gw.rfl' hm).le (by omega) (by omega)⟩
      · rw [fL_X2_sendOff_4, if_neg nle, o1', bnd_some]
      · rw [fL_X8_doHour_23, if_neg (by decide), nx, bnd_some, if_pos (by decide)]
        unfold fJ_X8_doHour_41
        rw [if_pos rfl, fL_X8_doHour_23, if_pos rfl]
    · have nx : f_X8_nextToLeave hm = some (nI i) := (lm_next EMm).trans i4
      rcases R.lies? i1 with ⟨q1, -⟩ | ⟨b, k, q1, q2, q3, q4, q5, q6, q7⟩
      · exact absurd q1 i2
      · rw [xIc rfl] at i2 q3 q4
        rw [cnA_ov] at q2
        rw [rwA_ov] at q5
        have c6 := (R.pos.2.1 b q1).1
        rw [cnA_ov] at c6
        have sp := q7 hm R.rmM (fun _ => by rw [xIm rfl]) (fun _ => by rw [xIm rfl])
        obtain ⟨t1, t2, t3, t4, t5, t6⟩ := take2 R i1 q1 q2 q3 q4 q5
        have less : cntB (lyB (tkC hc i b k)) 8 ≤ d := by
          have i1' : i < gN hc 1 := i1
          have := cntB_dec (p := lyB hc) (q := lyB (tkC hc i b k)) (i := i) (decide_eq_true ⟨i1, i2⟩) (by rw [lyB_tk]; exact decide_eq_false (fun w => w.2 (if_pos rfl))) 8 (by omega) (fun j _ e => by rw [lyB_tk]; unfold lyB; rw [if_neg e])
          omega
        obtain ⟨v, hc', hm', a1, a2, a3, a4, a5, a6⟩ := ih n1 (n2 + 1) (j + 1) (acc + 1) (tkC hc i b k) (lvM hm b k) t3 (by omega) less (by omega) (by omega)
        refine ⟨v, hc', hm', ?_, ?_, a3, a4.trans t4, a5.trans t5, (t6.trans a6).le (by omega) (by omega)⟩
        · rw [fL_X2_sendOff_4, if_neg nle, o1', bnd_some]
          simp only []
          rw [t1, bnd_some, nI_s]
          exact a1
        · rw [fL_X8_doHour_23, if_neg (by decide), nx, bnd_some, if_neg (nI_pos (by omega))]
          unfold fJ_X8_doHour_41
          rw [if_neg (by decide), sp, bnd_some, t2, bnd_some]
          exact a2
theorem wI_self (h : Hp) (t i k : Nat) : wI h t i k (gI h t i k) = h := by
  unfold wI
  have : (fun a b c => if a = t ∧ b = i ∧ c = k then gI h t i k else gI h a b c) = gI h := by
    funext a b c
    by_cases e : a = t ∧ b = i ∧ c = k
    · rw [if_pos e, e.1, e.2.1, e.2.2]
    · rw [if_neg e]
  rw [this]
  rfl
theorem L_lateE {h : Hp} (S : BoA h) (x : Int32) : ∀ (m n j : Nat), j + m = 8 → m < n → gN h 1 ≤ j → fL_X2_passHour_36 n x 8 (nI j) h = some (x, wI h 2 0 0 (if gI h 2 0 0 < 23 then gI h 2 0 0 + 1 else 0)) := by
  intro m
  induction m with
  | zero =>
    intro n j hj hn hk
    obtain ⟨n, rfl⟩ : ∃ k, n = k + 1 := ⟨n - 1, by omega⟩
    obtain rfl : j = 8 := by omega
    rw [fL_X2_passHour_36, if_pos (by decide)]
    by_cases q : gI h 2 0 0 < 23
    · rw [if_pos q, if_pos q]
    · rw [if_neg q, if_neg q]
  | succ m ih =>
    intro n j hj hn hk
    obtain ⟨n, rfl⟩ : ∃ k, n = k + 1 := ⟨n - 1, by omega⟩
    have hS := S j (by omega)
    rw [if_neg (by omega)] at hS
    rw [fL_X2_passHour_36, if_neg (fun q => by have := (nIl (n := 8) (by omega) (by omega)).mp q; omega), if_pos (show 0 ≤ nI j ∧ nI j < 8 from nIr (k := 8) (by omega) (by omega)), nI_clamp (by omega), hS, nI_s]
    exact ih n (j + 1) (by omega) (by omega) (by omega)
theorem r_hour {h : Hp} (R : Rel h) {c : Nat} (hc : c < 24) : Rel (wI (wI h 2 0 0 (nI c)) 8 0 19 (nI c)) := by
  obtain ⟨-, -, ⟨c1, c2⟩, P, ⟨e1, e2, e3, e4, e5, e6, e7, e8⟩, -⟩ := id R
  have g : ∀ t, t ≠ 2 → t ≠ 8 → ∀ a b, gI (wI (wI h 2 0 0 (nI c)) 8 0 19 (nI c)) t a b = gI h t a b := fun t t2 t8 a b => by rw [xI_wI, if_neg (fun q => t8 q.1), xI_wI, if_neg (fun q => t2 q.1)]
  refine R.fr ((Fr.w rfl).trans (Fr.w rfl)) ?_ ?_ ?_ ?_ ?_ ?_
  · simp only [g 1 (by decide) (by decide), g 43 (by decide) (by decide), g 44 (by decide) (by decide)]
    exact P
  · rw [xI_wI, if_neg (by omega), xI_wI, if_pos ⟨rfl, rfl, rfl⟩, xI_wI, if_pos ⟨rfl, rfl, rfl⟩]
  · rw [xI_wI, if_pos ⟨rfl, rfl, rfl⟩]
    exact ⟨(nIr (n := c) (k := 24) hc (by omega)).1, (nIl (k := 23) (by omega) (by omega)).mpr (by omega)⟩
  · rw [g 5 (by decide) (by decide), xI_wI, if_neg (by omega), xI_wI, if_neg (by omega)]
    exact e4
  · intro i hi
    rw [g 1 (by decide) (by decide), g 1 (by decide) (by decide), g 41 (by decide) (by decide), g 42 (by decide) (by decide)]
    exact ⟨(c1 i hi).2.2.2.2.2.2.2.2.1, (c1 i hi).2.2.2.2.2.2.2.2.2.1⟩
  · intro i h1 h2
    rw [g 41 (by decide) (by decide), g 42 (by decide) (by decide)]
    exact (c2 i h1 h2).2
theorem r_late {h : Hp} (R : Rel h) {j : Nat} (hj : j < gN h 1) {v : Int32} (ev : gI h 1 j 10 + 1 = v) : Rel (wI (wI h 1 j 10 v) 41 0 j v) := by
  obtain ⟨-, -, ⟨c1, c2⟩, P, ⟨e1, e2, e3, e4, e5, e6, e7, e8⟩, -⟩ := id R
  have hT := R.t8
  have g : ∀ t, t ≠ 1 → t ≠ 41 → ∀ a b, gI (wI (wI h 1 j 10 v) 41 0 j v) t a b = gI h t a b := fun t t2 t8 a b => by rw [xI_wI, if_neg (fun q => t8 q.1), xI_wI, if_neg (fun q => t2 q.1)]
  have g1 : ∀ a b, b ≠ 10 → gI (wI (wI h 1 j 10 v) 41 0 j v) 1 a b = gI h 1 a b := fun a b hb => by rw [xI_wI, if_neg (by omega), xI_wI, if_neg (by omega)]
  refine R.fr ((Fr.w rfl).trans (Fr.w rfl)) ?_ ?_ ?_ ?_ ?_ ?_
  · simp only [g1 _ 8 (by decide), g1 _ 9 (by decide), g 43 (by decide) (by decide), g 44 (by decide) (by decide)]
    exact P
  · rw [g 2 (by decide) (by decide), g 8 (by decide) (by decide)]
    exact e2
  · rw [g 8 (by decide) (by decide)]
    exact e7
  · rw [g 5 (by decide) (by decide), g 8 (by decide) (by decide)]
    exact e4
  · intro i hi
    have q := c1 i hi
    have q10 : gI h 1 i 10 = gI h 41 0 i := q.2.2.2.2.2.2.2.2.1
    rw [g1 _ 11 (by decide), g 42 (by decide) (by decide)]
    refine ⟨?_, q.2.2.2.2.2.2.2.2.2.1⟩
    by_cases e : i = j
    · subst e
      rw [xI_wI, if_neg (by omega), xI_wI, if_pos ⟨rfl, rfl, rfl⟩, xI_wI, if_pos ⟨rfl, rfl, rfl⟩]
    · rw [xI_wI, if_neg (by omega), xI_wI, if_neg (by omega), xI_wI, if_neg (by omega), xI_wI, if_neg (by omega), q10]
  · intro i h1 h2
    rw [g 42 (by decide) (by decide), xI_wI, if_neg (by omega), xI_wI, if_neg (by omega)]
    exact (c2 i h1 h2).2
theorem hr24 {x : Int32} (hx : 0 ≤ x ∧ x ≤ 23) : ∃ c, c < 24 ∧ (if x < 23 then x + 1 else 0) = nI c ∧ (x + 1) - (x + 1) / 24 * 24 = nI c := by
  obtain ⟨j, hj, rfl⟩ := ofR (x := x) (n := 24) (by decide) hx.1 (Int32.lt_of_le_of_lt hx.2 (by decide))
  have m : nI j + 1 - (nI j + 1) / 24 * 24 = nI ((j + 1) % 24) := by
    rw [nI_s]
    exact pk_rem (d := 24) (by omega) (by decide) (by decide)
  refine ⟨(j + 1) % 24, by omega, ?_, m⟩
  rw [nq23]
  by_cases q : j < 23
  · rw [if_pos ((nI_ltI (b := 23) (by omega) (by omega)).mpr q), nI_s, Nat.mod_eq_of_lt (by omega)]
  · rw [if_neg (fun w => q ((nI_ltI (b := 23) (by omega) (by omega)).mp w)), show (j + 1) % 24 = 0 by omega]
    rfl
/-- growth of the hours late alone, of the boats from j on, by one at most -/
def Gl (j : Nat) (h h2 : Hp) : Prop := ∀ i, (i < j → gI h2 41 0 i = gI h 41 0 i) ∧ (∃ x, x ≤ 1 ∧ gI h2 41 0 i = gI h 41 0 i + nI x) ∧ gI h2 42 0 i = gI h 42 0 i
theorem L_late : ∀ (m n1 n2 j : Nat) (x : Int32) (hc hm : Hp), Rel (ov hm hc) → j + m = gN hc 1 → 8 < n1 + j → m < n2 →
    ∃ hc' hm', fL_X2_passHour_36 n1 x 8 (nI j) hc = some (x, hc') ∧ fL_X8_doHour_65 n2 x (nI j) hm = some (x, hm') ∧ Rel (ov hm' hc') ∧ MP hc' hc ∧ CP hm' hm ∧ Gl j hm hm' := by
  intro m
  induction m with
  | zero =>
    intro n1 n2 j x hc hm R hj h1 h2
    obtain ⟨n2, rfl⟩ : ∃ k, n2 = k + 1 := ⟨n2 - 1, by omega⟩
    have hT : gN hc 1 ≤ 8 := R.t8
    have nt := R.nt
    rw [xIm rfl] at nt
    have nt' : gI hm 8 0 6 = nI (gN hc 1) := nt
    have e2 : gI (ov hm hc) 2 0 0 = gI (ov hm hc) 8 0 19 := R.2.2.2.2.1.2.1
    have e7 : 0 ≤ gI (ov hm hc) 8 0 19 ∧ gI (ov hm hc) 8 0 19 ≤ 23 := R.2.2.2.2.1.2.2.2.2.2.2.1
    rw [xIc rfl, xIm rfl] at e2
    rw [xIm rfl] at e7
    obtain ⟨c, c24, cc, cm⟩ := hr24 e7
    refine ⟨wI hc 2 0 0 (nI c), wI hm 8 0 19 (nI c), ?_, ?_, ?_, MP.w rfl, CP.w rfl, ?_⟩
    · rw [L_lateE (h := hc) R.boA x (8 - j) n1 j (by omega) (by omega) (by omega), e2, cc]
    · rw [fL_X8_doHour_65, nt', if_pos ((nIl (by omega) (by omega)).mpr (by omega)), cm]
    · rw [ov_wm rfl, ov_wc rfl]
      exact r_hour R c24
    · intro i
      have g41 : gI (wI hm 8 0 19 (nI c)) 41 0 i = gI hm 41 0 i := by rw [xI_wI, if_neg (by omega)]
      have g42 : gI (wI hm 8 0 19 (nI c)) 42 0 i = gI hm 42 0 i := by rw [xI_wI, if_neg (by omega)]
      exact ⟨fun _ => g41, ⟨0, by omega, by rw [g41]; exact (Int32.add_zero _).symm⟩, g42⟩
  | succ m ih =>
    intro n1 n2 j x hc hm R hj h1 h2
    have hT : gN hc 1 ≤ 8 := R.t8
    obtain ⟨n1, rfl⟩ : ∃ k, n1 = k + 1 := ⟨n1 - 1, by omega⟩
    obtain ⟨n2, rfl⟩ : ∃ k, n2 = k + 1 := ⟨n2 - 1, by omega⟩
    have hjt : j < gN hc 1 := by omega
    have hjR : j < gN (ov hm hc) 1 := hjt
    have nt := R.nt
    rw [xIm rfl] at nt
    have nt' : gI hm 8 0 6 = nI (gN hc 1) := nt
    have E : CE hc (ov hm hc) := CE.ov hm hc
    have hS : gP hc 11 0 j = some j := by
      have := R.boA j (by omega)
      rw [if_pos hjR] at this
      exact this
    have j8 : 0 ≤ nI j ∧ nI j < 8 := nIr (k := 8) (by omega) (by omega)
    have cj : (nI j).toNatClampNeg = j := nI_clamp (by omega)
    have wt := e_wants R hjR
    rw [← lc_wants E] at wt
    rw [xIc rfl, xIm rfl, xIm rfl] at wt
    have EC : fL_X2_passHour_36 (n1 + 1) x 8 (nI j) hc = if (decide (¬ gI hc 1 j 8 = -1 ∧ gI hm 38 0 j ≤ gI hm 8 0 19)) = true then fL_X2_passHour_36 n1 x 8 (nI (j + 1)) (wI hc 1 j 10 (gI hc 1 j 10 + 1)) else fL_X2_passHour_36 n1 x 8 (nI (j + 1)) hc := by
      rw [fL_X2_passHour_36, if_neg (fun q => by have := (nIl (n := 8) (by omega) (by omega)).mp q; omega), if_pos j8, cj, hS, nI_s]
      simp only []
      rw [wt, bnd_some]
    have self : wI hm 41 0 j (gI hm 41 0 j + 0) = hm := by rw [Int32.add_zero, wI_self]
    have EM : fL_X8_doHour_65 (n2 + 1) x (nI j) hm = (f_X8_spotOf (nI j) hm).bind fun r1 => if r1 < 0 then fL_X8_doHour_65 n2 x (nI (j + 1)) hm else if gI hm 8 0 19 < gI hm 38 0 j then fL_X8_doHour_65 n2 x (nI (j + 1)) hm else fL_X8_doHour_65 n2 x (nI (j + 1)) (wI hm 41 0 j (gI hm 41 0 j + 1)) := by
      rw [fL_X8_doHour_65, nt', if_neg (fun q => by have := (nIl (by omega) (by omega)).mp q; omega), if_pos j8]
      simp only [j8, and_self, if_true, cj, fJ_X8_doHour_105, nI_s, self]
    have skip : fL_X2_passHour_36 (n1 + 1) x 8 (nI j) hc = fL_X2_passHour_36 n1 x 8 (nI (j + 1)) hc → fL_X8_doHour_65 (n2 + 1) x (nI j) hm = fL_X8_doHour_65 n2 x (nI (j + 1)) hm → ∃ hc' hm', fL_X2_passHour_36 (n1 + 1) x 8 (nI j) hc = some (x, hc') ∧ fL_X8_doHour_65 (n2 + 1) x (nI j) hm = some (x, hm') ∧ Rel (ov hm' hc') ∧ MP hc' hc ∧ CP hm' hm ∧ Gl j hm hm' := by
      intro a b
      obtain ⟨hc', hm', a1, a2, a3, a4, a5, a6⟩ := ih n1 n2 (j + 1) x hc hm R (by omega) (by omega) (by omega)
      refine ⟨hc', hm', by rw [a, a1], by rw [b, a2], a3, a4, a5, fun i => ⟨fun w => (a6 i).1 (by omega), (a6 i).2⟩⟩
    rcases R.lies? hjR with ⟨q1, q2, q3, q4⟩ | ⟨b0, k0, q1, q2, q3, q4, q5, q6, q7⟩
    · have sp := q4 hm R.rmM (fun _ => by rw [xIm rfl]) (fun _ => by rw [xIm rfl])
      rw [xIc rfl] at q1
      refine skip ?_ ?_
      · rw [EC, if_neg (by rw [decide_eq_false (fun w => w.1 q1)]; decide)]
      · rw [EM, sp, bnd_some, if_pos (by decide)]
    · have sp := q7 hm R.rmM (fun _ => by rw [xIm rfl]) (fun _ => by rw [xIm rfl])
      have hB : gN (ov hm hc) 0 ≤ 4 := R.b4
      have c6 := (R.pos.2.1 b0 q1).1
      have s0 : ¬ nI (6 * b0 + k0) < 0 := nI_pos (by omega)
      rw [xIc rfl] at q3
      have ly : ¬ gI hc 1 j 8 = -1 := by rw [q3]; exact fun w => nI_m1 (by omega) w.symm
      by_cases wq : gI hm 38 0 j ≤ gI hm 8 0 19
      · have RR := r_late R hjR rfl
        have q10 : gI (ov hm hc) 1 j 10 = gI (ov hm hc) 41 0 j := (R.boa hjR).2.2.2.2.2.2.2.2.1
        rw [xIc rfl, xIm rfl] at q10
        rw [xIc rfl] at RR
        have RR' : Rel (ov (wI hm 41 0 j (gI hm 41 0 j + 1)) (wI hc 1 j 10 (gI hc 1 j 10 + 1))) := by
          rw [ov_wm rfl, ov_wc rfl, ← q10]
          exact RR
        obtain ⟨hc', hm', a1, a2, a3, a4, a5, a6⟩ := ih n1 n2 (j + 1) x _ _ RR' (by show j + 1 + m = gN hc 1; omega) (by omega) (by omega)
        refine ⟨hc', hm', ?_, ?_, a3, a4.trans (MP.w rfl), a5.trans (CP.w rfl), ?_⟩
        · rw [EC, if_pos (decide_eq_true ⟨ly, wq⟩), a1]
        · rw [EM, sp, bnd_some, if_neg s0, if_neg (Int32.not_lt.mpr wq), a2]
        · intro i
          obtain ⟨b1, b2, b3⟩ := a6 i
          have g42 : gI (wI hm 41 0 j (gI hm 41 0 j + 1)) 42 0 i = gI hm 42 0 i := by rw [xI_wI, if_neg (by omega)]
          by_cases e : i = j
          · subst e
            have g41 : gI (wI hm 41 0 i (gI hm 41 0 i + 1)) 41 0 i = gI hm 41 0 i + 1 := by rw [xI_wI, if_pos ⟨rfl, rfl, rfl⟩]
            refine ⟨fun w => by omega, ⟨1, by omega, ?_⟩, b3.trans g42⟩
            rw [b1 (by omega), g41]
            rfl
          · have g41 : gI (wI hm 41 0 j (gI hm 41 0 j + 1)) 41 0 i = gI hm 41 0 i := by rw [xI_wI, if_neg (by omega)]
            rw [g41] at b1 b2
            exact ⟨fun w => b1 (by omega), b2, b3.trans g42⟩
      · refine skip ?_ ?_
        · rw [EC, if_neg (by rw [decide_eq_false (fun w => wq w.2)]; decide)]
        · rw [EM, sp, bnd_some, if_neg s0, if_pos (Int32.not_le.mp wq)]
theorem FU_s : FU - 1 + 1 = FU := Nat.sub_add_cancel (FUb (m := 0) (by omega))
theorem dh0 (x : Int32) (h : Hp) : fL_X8_doHour_23 FU x 0 h = fL_X8_doHour_65 FU x 0 h := by
  have : ∀ n, fL_X8_doHour_23 (n + 1) x 0 h = fL_X8_doHour_65 FU x 0 h := fun n => by rw [fL_X8_doHour_23, if_pos rfl]
  have := this (FU - 1)
  rw [FU_s] at this
  exact this
theorem Gl.gw {h h2 : Hp} (A : Gl 0 h h2) : Gw 1 0 h h2 := fun i _ => ⟨(A i).2.1, ⟨0, by omega, by rw [(A i).2.2]; exact (Int32.add_zero _).symm⟩⟩
theorem s_hour : Sm 1 8 f_X2_passHour f_X8_doHour := by
  intro hc hm R
  have hT : gN hc 1 ≤ 8 := R.t8
  have e2 : gI (ov hm hc) 2 0 0 = gI (ov hm hc) 8 0 19 := R.2.2.2.2.1.2.1
  have e3 : gI (ov hm hc) 2 0 1 = gI (ov hm hc) 8 0 20 := R.2.2.2.2.1.2.2.1
  rw [xIc rfl, xIm rfl] at e2 e3
  obtain ⟨t, ht, et⟩ := pk_andE ((gI hm 8 0 20) >>> ((gI hm 8 0 19) &&& 31)) (m := 1) 1 (by decide)
  unfold f_X2_passHour f_X8_doHour fJ_X2_passHour_23
  rw [e2, e3, et]
  by_cases t0 : t = 0
  · subst t0
    rw [if_pos (show nI 0 = 0 from rfl), if_neg (by decide), dh0]
    obtain ⟨hc', hm', a1, a2, a3, a4, a5, a6⟩ := L_late (gN hc 1) FU FU 0 0 hc hm R (by omega) (by have := FUb (m := 8) (by omega); omega) (FUb (by omega))
    exact ⟨0, hc', hm', a1, a2, a3, a4, a5, a6.gw.le (by omega) (by omega)⟩
  · obtain rfl : t = 1 := by omega
    rw [if_neg (by decide), if_pos (show nI 1 = 1 from rfl)]
    obtain ⟨v, hc1, hm1, b1, b2, b3, b4, b5, b6⟩ := L_send 8 FU FU 0 0 hc hm R (by omega) (cntB_le _ 8) (FUb (by omega)) (by have := FUb (m := 10) (by omega); omega)
    have hT1 : gN hc1 1 ≤ 8 := b3.t8
    obtain ⟨hc', hm', a1, a2, a3, a4, a5, a6⟩ := L_late (gN hc1 1) FU FU 0 v hc1 hm1 b3 (by omega) (by have := FUb (m := 8) (by omega); omega) (FUb (by omega))
    refine ⟨v, hc', hm', ?_, ?_, a3, a4.trans b4, a5.trans b5, (b6.trans a6.gw).le (by omega) (by omega)⟩
    · have b1' : f_X2_sendOff hc = some (v, hc1) := b1
      rw [b1', bnd_some]
      exact a1
    · rw [b2]
      exact a2
theorem L_run {n : Nat} (hn : n ≤ 24) : ∀ (m n1 n2 j : Nat) (acc : Int32) (hc hm : Hp), Rel (ov hm hc) → j + m = n → m < n1 → m < n2 →
    ∃ v hc' hm', fL_X7_run_21 n1 (nI n) acc (nI j) hc = some (v, hc') ∧ fL_X8_run_21 n2 (nI n) acc (nI j) hm = some (v, hm') ∧ Rel (ov hm' hc') ∧ MP hc' hc ∧ CP hm' hm ∧ Gw m (8 * m) hm hm' := by
  intro m
  induction m with
  | zero =>
    intro n1 n2 j acc hc hm R hj h1 h2
    obtain ⟨n1, rfl⟩ : ∃ k, n1 = k + 1 := ⟨n1 - 1, by omega⟩
    obtain ⟨n2, rfl⟩ : ∃ k, n2 = k + 1 := ⟨n2 - 1, by omega⟩
    obtain rfl : j = n := by omega
    exact ⟨acc, hc, hm, by rw [fL_X7_run_21, if_pos (Int32.le_refl _)], by rw [fL_X8_run_21, if_pos (Int32.le_refl _)], R, fun _ _ => rfl, CP.rfl' hm, Gw.rfl' hm⟩
  | succ m ih =>
    intro n1 n2 j acc hc hm R hj h1 h2
    obtain ⟨n1, rfl⟩ : ∃ k, n1 = k + 1 := ⟨n1 - 1, by omega⟩
    obtain ⟨n2, rfl⟩ : ∃ k, n2 = k + 1 := ⟨n2 - 1, by omega⟩
    obtain ⟨v, hc1, hm1, b1, b2, b3, b4, b5, b6⟩ := s_hour hc hm R
    obtain ⟨w, hc', hm', a1, a2, a3, a4, a5, a6⟩ := ih n1 n2 (j + 1) (acc + v) hc1 hm1 b3 (by omega) (by omega) (by omega)
    have nle : ¬ nI n ≤ nI j := fun q => by have := (nIl (by omega) (by omega)).mp q; omega
    refine ⟨w, hc', hm', ?_, ?_, a3, a4.trans b4, a5.trans b5, (b6.trans a6).le (by omega) (by omega)⟩
    · rw [fL_X7_run_21, if_neg nle, b1, bnd_some, nI_s]
      exact a1
    · rw [fL_X8_run_21, if_neg nle, b2, bnd_some, nI_s]
      exact a2
theorem p_run {h : Hp} (R : Rel h) (x : Int32) : Pm h (f_X7_run x) (f_X8_run x) := by
  by_cases hx : 1 ≤ x ∧ x ≤ 24
  · obtain ⟨n, hn, rfl⟩ := ofR (x := x) (n := 25) (by decide) (Int32.le_trans (by decide) hx.1) (Int32.lt_of_le_of_lt hx.2 (by decide))
    refine Pm.two (a := n) (m := 8 * n) (by omega) (by omega) (fun hm P => ?_)
    have RR : Rel (ov hm h) := by rw [ov_c P]; exact R
    obtain ⟨v, hc', hm', a1, a2, a3⟩ := L_run (n := n) (by omega) n FU FU 0 0 h hm RR (by omega) (FUb (by omega)) (FUb (by omega))
    refine ⟨v, hc', hm', ?_, ?_, a3⟩
    · unfold f_X7_run
      rw [w_isWithin, bnd_some, decide_eq_true hx, if_pos rfl]
      exact a1
    · unfold f_X8_run
      rw [w_within, bnd_some, decide_eq_true hx, if_pos rfl]
      exact a2
  · refine Pm.find R (-1000001) ?_ ?_
    · unfold f_X7_run
      rw [w_isWithin, bnd_some, decide_eq_false hx, if_neg (by decide), c_find (by decide)]
      rfl
    · unfold f_X8_run
      rw [w_within, bnd_some, decide_eq_false hx, if_neg (by decide), fnd_eta]
