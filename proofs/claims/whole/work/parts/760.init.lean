/-! ===== new objects ===== -/
def Gd (h : Hp) : Prop := (∀ a b c, ¬ (a = 2 ∧ b = 0 ∧ c = 1) → ¬ (a = 8 ∧ b = 0 ∧ c = 20) → gI h a b c = 0) ∧ (∀ b c, gP h 10 b c = none) ∧ (∀ b c, gP h 11 b c = none)
theorem Gd.n {h : Hp} (g : Gd h) (t : Nat) : Gd (wN h t) := by
  refine ⟨fun a b c h1 h2 => ?_, fun b c => ?_, fun b c => ?_⟩
  · rw [xI_wN]
    by_cases e : a = t ∧ b = gN h t
    · rw [if_pos e]
    · rw [if_neg e]; exact g.1 a b c h1 h2
  · rw [xP_wN]
    by_cases e : 10 = t ∧ b = gN h t
    · rw [if_pos e]
    · rw [if_neg e]; exact g.2.1 b c
  · rw [xP_wN]
    by_cases e : 11 = t ∧ b = gN h t
    · rw [if_pos e]
    · rw [if_neg e]; exact g.2.2 b c
theorem Gd.p {h : Hp} (g : Gd h) (i k : Nat) (v : Option Nat) : Gd (wP h 22 i k v) := by
  refine ⟨fun a b c h1 h2 => ?_, fun b c => ?_, fun b c => ?_⟩
  · rw [xI_wP]; exact g.1 a b c h1 h2
  · rw [xP_wP, if_neg (by omega)]; exact g.2.1 b c
  · rw [xP_wP, if_neg (by omega)]; exact g.2.2 b c
theorem Gd.i2 {h : Hp} (g : Gd h) (v : Int32) : Gd (wI h 2 0 1 v) := by
  refine ⟨fun a b c h1 h2 => ?_, g.2.1, g.2.2⟩
  rw [xI_wI, if_neg h1]; exact g.1 a b c h1 h2
theorem Gd.i8 {h : Hp} (g : Gd h) (v : Int32) : Gd (wI h 8 0 20 v) := by
  refine ⟨fun a b c h1 h2 => ?_, g.2.1, g.2.2⟩
  rw [xI_wI, if_neg h2]; exact g.1 a b c h1 h2
theorem xN_hE (a : Nat) : gN hE a = 0 := (rfl)
theorem Gd.e : Gd hE := ⟨fun _ _ _ _ _ => rfl, fun _ _ => rfl, fun _ _ => rfl⟩
def Ini (l : List Nat) (h : Hp) : Prop := Gd h ∧ ∀ t, t ∉ l → gN h t = 0
theorem Ini.n {l : List Nat} {h : Hp} (I : Ini l h) (t : Nat) : Ini (t :: l) (wN h t) := by
  refine ⟨I.1.n t, fun a ha => ?_⟩
  rw [List.mem_cons, not_or] at ha
  rw [xN_wN, if_neg ha.1]
  exact I.2 a ha.2
theorem k_n {h : Hp} {t a b c : Nat} (ht : a ≠ t) : gI (wN h t) a b c = gI h a b c := by rw [xI_wN, if_neg (fun w => ht w.1)]
theorem kP_n {h : Hp} {t a b c : Nat} (ht : a ≠ t) : gP (wN h t) a b c = gP h a b c := by rw [xP_wN, if_neg (fun w => ht w.1)]
theorem kN_n {h : Hp} {t a : Nat} (ht : a ≠ t) : gN (wN h t) a = gN h a := by rw [xN_wN, if_neg ht]
theorem i_5 {l : List Nat} {h : Hp} (I : Ini l h) (n10 : 10 ∉ l) (n11 : 11 ∉ l) : ∃ r, f_X5_init h = some r ∧ Ini (11 :: 10 :: l) r ∧ gI r 2 0 1 = gI h 2 0 1 := by
  have c10 : gN h 10 = 0 := by
    exact I.2 _ n10
  have c11 : gN (wN h 10) 11 = 0 := by
    rw [kN_n (show 11 ≠ 10 by decide)]; exact I.2 _ n11
  refine ⟨(wN (wN h 10) 11), ?_, (I.n 10).n 11, ?_⟩
  · unfold f_X5_init
    rw [if_pos c10, if_pos c11]
  · rw [k_n (by decide), k_n (by decide)]
theorem i_4 {l : List Nat} {h : Hp} (I : Ini l h) (n12 : 12 ∉ l) (n13 : 13 ∉ l) (n14 : 14 ∉ l) (n15 : 15 ∉ l) (n16 : 16 ∉ l) (n17 : 17 ∉ l) : ∃ r, f_X4_init h = some r ∧ Ini (17 :: 16 :: 15 :: 14 :: 13 :: 12 :: l) r ∧ gI r 2 0 1 = gI h 2 0 1 := by
  have c12 : gN h 12 = 0 := by
    exact I.2 _ n12
  have c13 : gN (wN h 12) 13 = 0 := by
    rw [kN_n (show 13 ≠ 12 by decide)]; exact I.2 _ n13
  have c14 : gN (wN (wN h 12) 13) 14 = 0 := by
    rw [kN_n (show 14 ≠ 13 by decide), kN_n (show 14 ≠ 12 by decide)]; exact I.2 _ n14
  have c15 : gN (wN (wN (wN h 12) 13) 14) 15 = 0 := by
    rw [kN_n (show 15 ≠ 14 by decide), kN_n (show 15 ≠ 13 by decide), kN_n (show 15 ≠ 12 by decide)]; exact I.2 _ n15
  have c16 : gN (wN (wN (wN (wN h 12) 13) 14) 15) 16 = 0 := by
    rw [kN_n (show 16 ≠ 15 by decide), kN_n (show 16 ≠ 14 by decide), kN_n (show 16 ≠ 13 by decide), kN_n (show 16 ≠ 12 by decide)]; exact I.2 _ n16
  have c17 : gN (wN (wN (wN (wN (wN h 12) 13) 14) 15) 16) 17 = 0 := by
    rw [kN_n (show 17 ≠ 16 by decide), kN_n (show 17 ≠ 15 by decide), kN_n (show 17 ≠ 14 by decide), kN_n (show 17 ≠ 13 by decide), kN_n (show 17 ≠ 12 by decide)]; exact I.2 _ n17
  refine ⟨(wN (wN (wN (wN (wN (wN h 12) 13) 14) 15) 16) 17), ?_, (((((I.n 12).n 13).n 14).n 15).n 16).n 17, ?_⟩
  · unfold f_X4_init
    rw [if_pos c12, if_pos c13, if_pos c14, if_pos c15, if_pos c16, if_pos c17]
  · rw [k_n (by decide), k_n (by decide), k_n (by decide), k_n (by decide), k_n (by decide), k_n (by decide)]
theorem i_3 {l : List Nat} {h : Hp} (I : Ini l h) (n18 : 18 ∉ l) (n19 : 19 ∉ l) (n20 : 20 ∉ l) (n21 : 21 ∉ l) : ∃ r, f_X3_init h = some r ∧ Ini (21 :: 20 :: 19 :: 18 :: l) r ∧ gI r 2 0 1 = gI h 2 0 1 := by
  have c18 : gN h 18 = 0 := by
    exact I.2 _ n18
  have c19 : gN (wN h 18) 19 = 0 := by
    rw [kN_n (show 19 ≠ 18 by decide)]; exact I.2 _ n19
  have c20 : gN (wN (wN h 18) 19) 20 = 0 := by
    rw [kN_n (show 20 ≠ 19 by decide), kN_n (show 20 ≠ 18 by decide)]; exact I.2 _ n20
  have c21 : gN (wN (wN (wN h 18) 19) 20) 21 = 0 := by
    rw [kN_n (show 21 ≠ 20 by decide), kN_n (show 21 ≠ 19 by decide), kN_n (show 21 ≠ 18 by decide)]; exact I.2 _ n21
  refine ⟨(wN (wN (wN (wN h 18) 19) 20) 21), ?_, (((I.n 18).n 19).n 20).n 21, ?_⟩
  · unfold f_X3_init
    rw [if_pos c18, if_pos c19, if_pos c20, if_pos c21]
  · rw [k_n (by decide), k_n (by decide), k_n (by decide), k_n (by decide)]
theorem i_2 {l : List Nat} {h : Hp} (I : Ini l h) : ∃ r, f_X2_init h = some r ∧ Ini l r ∧ gI r 2 0 1 = 16777215 := by
  refine ⟨wI h 2 0 1 16777215, rfl, ⟨I.1.i2 _, I.2⟩, ?_⟩
  rw [xI_wI, if_pos ⟨rfl, rfl, rfl⟩]
/-- k sheets are made -/
def Shd (l : List Nat) (k : Nat) (h : Hp) : Prop := Ini l h ∧ gN h 6 = k ∧ gN h 23 = k ∧ (∀ s, s < k → gP h 22 0 s = some s) ∧ gI h 2 0 1 = 16777215
theorem i_6 {l : List Nat} {k : Nat} {h : Hp} (S : Shd l k h) : ∃ r, f_X6_init k (wN h 6) = some r ∧ Shd (23 :: 6 :: l) (k + 1) (wP r 22 0 k (some k)) := by
  obtain ⟨I, s6', s23, sp, s2⟩ := S
  have c : gN (wN h 6) 23 = k := by rw [kN_n (by decide)]; exact s23
  refine ⟨wN (wN h 6) 23, ?_, ⟨((I.n 6).n 23).1.p _ _ _, ((I.n 6).n 23).2⟩, ?_, ?_, fun s hs => ?_, ?_⟩
  · unfold f_X6_init
    rw [if_pos c]
  · rw [xN_wP, kN_n (by decide), xN_wN, if_pos rfl, s6']
  · rw [xN_wP, xN_wN, if_pos rfl, c]
  · rw [xP_wP]
    by_cases e : s = k
    · rw [if_pos ⟨rfl, rfl, e⟩, e]
    · rw [if_neg (fun w => e w.2.2), kP_n (by decide), kP_n (by decide)]
      exact sp s (by omega)
  · rw [xI_wP, k_n (by decide), k_n (by decide)]
    exact s2
theorem init7 : ∃ l r, f_X7_init (wN hE 7) = some r ∧ Shd l 4 r ∧ (∀ t, t ∈ l → t < 30 ∧ t ≠ 0 ∧ t ≠ 1 ∧ t ≠ 8) := by
  have I0 : Ini [7] (wN hE 7) := Ini.n (l := []) ⟨Gd.e, fun t _ => xN_hE t⟩ 7
  obtain ⟨r1, e1, I1, -⟩ := i_5 (I0.n 5) (by decide) (by decide)
  obtain ⟨r2, e2, I2, k2⟩ := i_2 (I1.n 2)
  obtain ⟨r3, e3, I3, k3⟩ := i_4 (I2.n 4) (by decide) (by decide) (by decide) (by decide) (by decide) (by decide)
  obtain ⟨r4, e4, I4, k4⟩ := i_3 (I3.n 3) (by decide) (by decide) (by decide) (by decide)
  have K4 : gI r4 2 0 1 = 16777215 := by rw [k4, k_n (by decide), k3, k_n (by decide), k2]
  have I5 := I4.n 22
  have S0 : Shd _ 0 (wN r4 22) := ⟨I5, I5.2 6 (by decide), I5.2 23 (by decide), fun s hs => by omega, by rw [k_n (by decide)]; exact K4⟩
  obtain ⟨r5, e5, S1⟩ := i_6 S0
  obtain ⟨r6, e6, S2⟩ := i_6 S1
  obtain ⟨r7, e7, S3⟩ := i_6 S2
  obtain ⟨r8, e8, S4⟩ := i_6 S3
  refine ⟨_, _, ?_, S4, ?_⟩
  · have c0 : Int32.toNatClampNeg 0 = 0 := by decide
    have c1 : Int32.toNatClampNeg 1 = 1 := by decide
    have c2 : Int32.toNatClampNeg 2 = 2 := by decide
    have c3 : Int32.toNatClampNeg 3 = 3 := by decide
    unfold f_X7_init
    rw [c0, c1, c2, c3, if_pos (I0.2 5 (by decide)), e1, bnd_some, if_pos (I1.2 2 (by decide)), e2, bnd_some, if_pos (I2.2 4 (by decide)), e3, bnd_some, if_pos (I3.2 3 (by decide)), e4, bnd_some, if_pos (I4.2 22 (by decide)), if_pos (I5.2 6 (by decide)), e5, bnd_some, if_pos S1.2.1, e6, bnd_some, if_pos S2.2.1, e7, bnd_some, if_pos S3.2.1, e8, bnd_some]
  · decide
def InB (m : Nat) (h : Hp) : Prop := Gd h ∧ ∀ t, m ≤ t → gN h t = 0
def Kt (h h' : Hp) : Prop := gI h' 2 0 1 = gI h 2 0 1 ∧ gI h' 8 0 20 = gI h 8 0 20 ∧ (∀ a b, gP h' 22 a b = gP h 22 a b) ∧ (∀ t, t < 30 → gN h' t = gN h t)
theorem Kt.trans {a b c : Hp} (X : Kt a b) (Y : Kt b c) : Kt a c := ⟨Y.1.trans X.1, Y.2.1.trans X.2.1, fun i j => (Y.2.2.1 i j).trans (X.2.2.1 i j), fun t ht => (Y.2.2.2 t ht).trans (X.2.2.2 t ht)⟩
theorem InB.step {m m' : Nat} {h : Hp} (I : InB m h) (hm : 30 ≤ m) (e : m + 1 = m') : gN h m = 0 ∧ InB m' (wN h m) ∧ Kt h (wN h m) := by
  refine ⟨I.2 m (Nat.le_refl m), ⟨I.1.n m, fun t ht => ?_⟩, k_n (by omega), k_n (by omega), fun a b => kP_n (by omega), fun t ht => kN_n (by omega)⟩
  rw [kN_n (by omega)]
  exact I.2 t (by omega)
theorem InB.i8 {m : Nat} {h : Hp} (I : InB m h) (v : Int32) : InB m (wI h 8 0 20 v) ∧ gI (wI h 8 0 20 v) 8 0 20 = v ∧ gI (wI h 8 0 20 v) 2 0 1 = gI h 2 0 1 ∧ (∀ a b, gP (wI h 8 0 20 v) 22 a b = gP h 22 a b) ∧ (∀ t, t < 30 → gN (wI h 8 0 20 v) t = gN h t) := by
  refine ⟨⟨I.1.i8 v, fun t ht => by rw [xN_wI]; exact I.2 t ht⟩, ?_, ?_, fun a b => by rw [xP_wI], fun t _ => by rw [xN_wI]⟩
  · rw [xI_wI, if_pos ⟨rfl, rfl, rfl⟩]
  · rw [xI_wI, if_neg (by omega)]
theorem init8 {h : Hp} (I : InB 30 h) : ∃ r, f_X8_init h = some r ∧ Gd r ∧ gI r 8 0 20 = 16777215 ∧ gI r 2 0 1 = gI h 2 0 1 ∧ (∀ a b, gP r 22 a b = gP h 22 a b) ∧ (∀ t, t < 30 → gN r t = gN h t) := by
  unfold f_X8_init
  obtain ⟨c30, I30, K30⟩ := I.step (m := 30) (m' := 31) (by omega) rfl
  rw [if_pos c30]
  generalize wN h 30 = h30 at I30 K30 ⊢
  obtain ⟨c31, I31, K31⟩ := I30.step (m := 31) (m' := 32) (by omega) rfl
  rw [if_pos c31]
  generalize wN h30 31 = h31 at I31 K31 ⊢
  obtain ⟨c32, I32, K32⟩ := I31.step (m := 32) (m' := 33) (by omega) rfl
  rw [if_pos c32]
  generalize wN h31 32 = h32 at I32 K32 ⊢
  obtain ⟨c33, I33, K33⟩ := I32.step (m := 33) (m' := 34) (by omega) rfl
  rw [if_pos c33]
  generalize wN h32 33 = h33 at I33 K33 ⊢
  obtain ⟨c34, I34, K34⟩ := I33.step (m := 34) (m' := 35) (by omega) rfl
  rw [if_pos c34]
  generalize wN h33 34 = h34 at I34 K34 ⊢
  obtain ⟨c35, I35, K35⟩ := I34.step (m := 35) (m' := 36) (by omega) rfl
  rw [if_pos c35]
  generalize wN h34 35 = h35 at I35 K35 ⊢
  obtain ⟨c36, I36, K36⟩ := I35.step (m := 36) (m' := 37) (by omega) rfl
  rw [if_pos c36]
  generalize wN h35 36 = h36 at I36 K36 ⊢
  obtain ⟨c37, I37, K37⟩ := I36.step (m := 37) (m' := 38) (by omega) rfl
  rw [if_pos c37]
  generalize wN h36 37 = h37 at I37 K37 ⊢
  obtain ⟨c38, I38, K38⟩ := I37.step (m := 38) (m' := 39) (by omega) rfl
  rw [if_pos c38]
  generalize wN h37 38 = h38 at I38 K38 ⊢
  obtain ⟨c39, I39, K39⟩ := I38.step (m := 39) (m' := 40) (by omega) rfl
  rw [if_pos c39]
  generalize wN h38 39 = h39 at I39 K39 ⊢
  obtain ⟨c40, I40, K40⟩ := I39.step (m := 40) (m' := 41) (by omega) rfl
  rw [if_pos c40]
  generalize wN h39 40 = h40 at I40 K40 ⊢
  obtain ⟨c41, I41, K41⟩ := I40.step (m := 41) (m' := 42) (by omega) rfl
  rw [if_pos c41]
  generalize wN h40 41 = h41 at I41 K41 ⊢
  obtain ⟨c42, I42, K42⟩ := I41.step (m := 42) (m' := 43) (by omega) rfl
  rw [if_pos c42]
  generalize wN h41 42 = h42 at I42 K42 ⊢
  obtain ⟨c43, I43, K43⟩ := I42.step (m := 43) (m' := 44) (by omega) rfl
  rw [if_pos c43]
  generalize wN h42 43 = h43 at I43 K43 ⊢
  obtain ⟨c44, I44, K44⟩ := I43.step (m := 44) (m' := 45) (by omega) rfl
  rw [if_pos c44]
  generalize wN h43 44 = h44 at I44 K44 ⊢
  obtain ⟨J45, q8, q2, qp, qn⟩ := I44.i8 (16777215 : Int32)
  generalize wI h44 8 0 20 (16777215 : Int32) = g45 at J45 q8 q2 qp qn ⊢
  obtain ⟨c45, I45, K45⟩ := J45.step (m := 45) (m' := 46) (by omega) rfl
  rw [if_pos c45]
  generalize wN g45 45 = h45 at I45 K45 ⊢
  obtain ⟨c46, I46, K46⟩ := I45.step (m := 46) (m' := 47) (by omega) rfl
  rw [if_pos c46]
  generalize wN h45 46 = h46 at I46 K46 ⊢
  obtain ⟨c47, I47, K47⟩ := I46.step (m := 47) (m' := 48) (by omega) rfl
  rw [if_pos c47]
  generalize wN h46 47 = h47 at I47 K47 ⊢
  obtain ⟨c48, I48, K48⟩ := I47.step (m := 48) (m' := 49) (by omega) rfl
  rw [if_pos c48]
  generalize wN h47 48 = h48 at I48 K48 ⊢
  obtain ⟨c49, I49, K49⟩ := I48.step (m := 49) (m' := 50) (by omega) rfl
  rw [if_pos c49]
  generalize wN h48 49 = h49 at I49 K49 ⊢
  obtain ⟨c50, I50, K50⟩ := I49.step (m := 50) (m' := 51) (by omega) rfl
  rw [if_pos c50]
  generalize wN h49 50 = h50 at I50 K50 ⊢
  obtain ⟨c51, I51, K51⟩ := I50.step (m := 51) (m' := 52) (by omega) rfl
  rw [if_pos c51]
  generalize wN h50 51 = h51 at I51 K51 ⊢
  obtain ⟨c52, I52, K52⟩ := I51.step (m := 52) (m' := 53) (by omega) rfl
  rw [if_pos c52]
  generalize wN h51 52 = h52 at I52 K52 ⊢
  obtain ⟨c53, I53, K53⟩ := I52.step (m := 53) (m' := 54) (by omega) rfl
  rw [if_pos c53]
  generalize wN h52 53 = h53 at I53 K53 ⊢
  obtain ⟨c54, I54, K54⟩ := I53.step (m := 54) (m' := 55) (by omega) rfl
  rw [if_pos c54]
  generalize wN h53 54 = h54 at I54 K54 ⊢
  obtain ⟨c55, I55, K55⟩ := I54.step (m := 55) (m' := 56) (by omega) rfl
  rw [if_pos c55]
  generalize wN h54 55 = h55 at I55 K55 ⊢
  obtain ⟨c56, I56, K56⟩ := I55.step (m := 56) (m' := 57) (by omega) rfl
  rw [if_pos c56]
  generalize wN h55 56 = h56 at I56 K56 ⊢
  obtain ⟨c57, I57, K57⟩ := I56.step (m := 57) (m' := 58) (by omega) rfl
  rw [if_pos c57]
  generalize wN h56 57 = h57 at I57 K57 ⊢
  obtain ⟨c58, I58, K58⟩ := I57.step (m := 58) (m' := 59) (by omega) rfl
  rw [if_pos c58]
  generalize wN h57 58 = h58 at I58 K58 ⊢
  obtain ⟨c59, I59, K59⟩ := I58.step (m := 59) (m' := 60) (by omega) rfl
  rw [if_pos c59]
  generalize wN h58 59 = h59 at I59 K59 ⊢
  obtain ⟨c60, I60, K60⟩ := I59.step (m := 60) (m' := 61) (by omega) rfl
  rw [if_pos c60]
  generalize wN h59 60 = h60 at I60 K60 ⊢
  obtain ⟨c61, I61, K61⟩ := I60.step (m := 61) (m' := 62) (by omega) rfl
  rw [if_pos c61]
  generalize wN h60 61 = h61 at I61 K61 ⊢
  have KA := ((((((((((((((K30).trans K31).trans K32).trans K33).trans K34).trans K35).trans K36).trans K37).trans K38).trans K39).trans K40).trans K41).trans K42).trans K43).trans K44
  have KB := ((((((((((((((((K45).trans K46).trans K47).trans K48).trans K49).trans K50).trans K51).trans K52).trans K53).trans K54).trans K55).trans K56).trans K57).trans K58).trans K59).trans K60).trans K61
  refine ⟨h61, rfl, I61.1, by rw [KB.2.1]; exact q8, by rw [KB.1, q2, KA.1], fun a b => by rw [KB.2.2.1, qp, KA.2.2.1], fun t ht => by rw [KB.2.2.2 t ht, qn t ht, KA.2.2.2 t ht]⟩
theorem law_start (L : Nat) (xs : Nat → Int32) : ∃ r, f_L_law L xs hE = fL_L_law_18 L xs 513 0 r ∧ Rel r ∧ Bd 0 r := by
  obtain ⟨l, r1, e1, S, hl⟩ := init7
  have n8 : gN r1 8 = 0 := S.1.2 8 (fun w => (hl 8 w).2.2.2 rfl)
  obtain ⟨r, e2, I1, g8, g2, gp, gn⟩ := init8 (h := wN r1 8) ⟨S.1.1.n 8, fun t ht => by
    rw [kN_n (by omega)]
    exact S.1.2 t (fun w => by have := (hl t w).1; omega)⟩
  refine ⟨r, ?_, ?_, ?_⟩
  · unfold f_L_law
    rw [if_pos (xN_hE 7), e1, bnd_some, if_pos n8, e2, bnd_some]
  · have n0 : gN r 0 = 0 := by rw [gn 0 (by omega), kN_n (by decide)]; exact S.1.2 0 (fun w => (hl 0 w).2.1 rfl)
    have n1 : gN r 1 = 0 := by rw [gn 1 (by omega), kN_n (by decide)]; exact S.1.2 1 (fun w => (hl 1 w).2.2.1 rfl)
    have z : ∀ a b c, a ≠ 2 → a ≠ 8 → gI r a b c = 0 := fun a b c h2 h8 => I1.1 a b c (fun w => h2 w.1) (fun w => h8 w.1)
    have z8 : ∀ c, c ≠ 20 → gI r 8 0 c = 0 := fun c hc => I1.1 8 0 c (by omega) (fun w => hc w.2.2)
    have z2 : gI r 2 0 0 = 0 := I1.1 2 0 0 (by omega) (by omega)
    have t2 : gI r 2 0 1 = 16777215 := by rw [g2, k_n (by decide)]; exact S.2.2.2.2
    have p22 : ∀ s, s < 4 → gP r 22 0 s = some s := fun s hs => by rw [gp, kP_n (by decide)]; exact S.2.2.2.1 s hs
    unfold Rel
    simp only [n0, n1]
    refine ⟨⟨by omega, by omega, fun b _ => ?_, fun i _ => ?_, p22, ?_, ?_, ?_, ?_⟩, fun b hb => by omega, ⟨fun i hi => by omega, fun i _ _ => ⟨?_, ?_, ?_⟩⟩, ⟨fun b hb => by omega, fun b _ _ => ?_, fun b k hb => by omega, fun i hi => by omega⟩, ⟨?_, ?_, ?_, ?_, ?_, ?_, ?_, ?_⟩, ⟨?_, 0, by omega, ?_, fun r hr => by omega⟩, ⟨?_, 0, by omega, ?_, fun j hj => by omega⟩, fun s hs => ⟨?_, ?_, ?_, ?_, fun j hj => ?_⟩⟩
    · rw [if_neg (by omega)]; exact I1.2.1 0 b
    · rw [if_neg (by omega)]; exact I1.2.2 0 i
    · rw [z 5 _ _ (by omega) (by omega)]; rfl
    · rw [z8 0 (by omega)]; rfl
    · rw [z 5 _ _ (by omega) (by omega)]; rfl
    · rw [z8 6 (by omega)]; rfl
    · exact z 38 _ _ (by omega) (by omega)
    · exact z 41 _ _ (by omega) (by omega)
    · exact z 42 _ _ (by omega) (by omega)
    · exact z 43 _ _ (by omega) (by omega)
    · rw [z 5 _ _ (by omega) (by omega), z8 5 (by omega)]
    · rw [z2, z8 19 (by omega)]
    · rw [t2, g8]
    · rw [z 5 _ _ (by omega) (by omega), z8 16 (by omega)]
    · rw [z 7 _ _ (by omega) (by omega), z8 30 (by omega)]
    · rw [z8 5 (by omega)]; decide
    · rw [z8 19 (by omega)]; decide
    · rw [g8]; decide
    · rw [z 3 _ _ (by omega) (by omega), z8 21 (by omega)]
    · rw [z8 21 (by omega)]; rfl
    · rw [z 3 _ _ (by omega) (by omega), z8 26 (by omega)]
    · rw [z8 26 (by omega)]; rfl
    · show gI r 6 s 1 = gI r 49 0 s
      rw [z 6 _ _ (by omega) (by omega), z 49 _ _ (by omega) (by omega)]
    · show gI r 6 s 2 = gI r 50 0 s
      rw [z 6 _ _ (by omega) (by omega), z 50 _ _ (by omega) (by omega)]
    · exact Or.inl (z 49 _ _ (by omega) (by omega))
    · show 0 ≤ gI r 50 0 s ∧ gI r 50 0 s ≤ 8
      rw [z 50 _ _ (by omega) (by omega)]; decide
    · show gI r 23 s j = gI r 51 0 (8 * s + j)
      rw [z 23 _ _ (by omega) (by omega), z 51 _ _ (by omega) (by omega)]
  · intro i hi
    have z : ∀ a b c, a ≠ 2 → a ≠ 8 → gI r a b c = 0 := fun a b c h2 h8 => I1.1 a b c (fun w => h2 w.1) (fun w => h8 w.1)
    rw [z 41 _ _ (by omega) (by omega), z 42 _ _ (by omega) (by omega)]
    decide
