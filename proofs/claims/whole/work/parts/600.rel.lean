/-! ===== numbers ===== -/
theorem nI_ti {n : Nat} (h : n < 2147483648) : Lean.Grind.ToInt.toInt (nI n) = (n : Int) := nI_toInt (by omega)
theorem ix_ti {x : Int32} (h : 0 ≤ x) : ((x.toNatClampNeg : Nat) : Int) = Lean.Grind.ToInt.toInt x := by
  obtain ⟨j, hj, rfl⟩ := nI_of (Int32.not_lt.mpr h)
  rw [nI_clamp hj]
  exact (nI_toInt hj).symm
theorem nI_ix {x : Int32} (h : 0 ≤ x) : nI x.toNatClampNeg = x := by
  obtain ⟨j, hj, rfl⟩ := nI_of (Int32.not_lt.mpr h)
  rw [nI_clamp hj]
theorem ofR {x : Int32} {n : Nat} (hn : n < 2147483648) (h : 0 ≤ x) (h2 : x < nI n) : ∃ j, j < n ∧ x = nI j := by
  obtain ⟨j, hj, rfl⟩ := nI_of (Int32.not_lt.mpr h)
  exact ⟨j, (nI_ltI hj (by omega)).mp h2, rfl⟩
theorem nq0 : (0 : Int32) = nI 0 := rfl
theorem nq1 : (1 : Int32) = nI 1 := rfl
theorem nq2 : (2 : Int32) = nI 2 := rfl
theorem nq3 : (3 : Int32) = nI 3 := rfl
theorem nq4 : (4 : Int32) = nI 4 := rfl
theorem nq5 : (5 : Int32) = nI 5 := rfl
theorem nq6 : (6 : Int32) = nI 6 := rfl
theorem nq7 : (7 : Int32) = nI 7 := rfl
theorem nq8 : (8 : Int32) = nI 8 := rfl
theorem nq9 : (9 : Int32) = nI 9 := rfl
theorem nq10 : (10 : Int32) = nI 10 := rfl
theorem nq11 : (11 : Int32) = nI 11 := rfl
theorem nq12 : (12 : Int32) = nI 12 := rfl
theorem nq13 : (13 : Int32) = nI 13 := rfl
theorem nq14 : (14 : Int32) = nI 14 := rfl
theorem nq15 : (15 : Int32) = nI 15 := rfl
theorem nq16 : (16 : Int32) = nI 16 := rfl
theorem nq17 : (17 : Int32) = nI 17 := rfl
theorem nq18 : (18 : Int32) = nI 18 := rfl
theorem nq19 : (19 : Int32) = nI 19 := rfl
theorem nq20 : (20 : Int32) = nI 20 := rfl
theorem nq21 : (21 : Int32) = nI 21 := rfl
theorem nq22 : (22 : Int32) = nI 22 := rfl
theorem nq23 : (23 : Int32) = nI 23 := rfl
theorem nq24 : (24 : Int32) = nI 24 := rfl
theorem nq40 : (40 : Int32) = nI 40 := rfl
theorem nq48 : (48 : Int32) = nI 48 := rfl
theorem nq57 : (57 : Int32) = nI 57 := rfl
theorem nq58 : (58 : Int32) = nI 58 := rfl
theorem nq59 : (59 : Int32) = nI 59 := rfl
theorem nq80 : (80 : Int32) = nI 80 := rfl
theorem nq90 : (90 : Int32) = nI 90 := rfl
theorem nq98 : (98 : Int32) = nI 98 := rfl
theorem nq99 : (99 : Int32) = nI 99 := rfl
theorem nq108 : (108 : Int32) = nI 108 := rfl
theorem nq114 : (114 : Int32) = nI 114 := rfl
theorem bnd_some {α β : Type} (a : α) (f : α → Option β) : (some a).bind f = f a := rfl
/-- a sum of numbers of a row -/
def sm (f : Nat → Int32) : Nat → Int32
  | 0 => 0
  | n + 1 => sm f n + f n
/-! ===== the relation ===== -/
def ShpR (nb nt : Nat) (p10 p11 p22 : Nat → Option Nat) (cb mb ct mt : Int32) : Prop := nb ≤ 4 ∧ nt ≤ 8 ∧ (∀ b, b < 4 → p10 b = if b < nb then some b else none) ∧ (∀ i, i < 8 → p11 i = if i < nt then some i else none) ∧ (∀ s, s < 4 → p22 s = some s) ∧ cb = nI nb ∧ mb = nI nb ∧ ct = nI nt ∧ mt = nI nt
def BerR (nb : Nat) (d0 d1 d2 d3 m0 m1 m2 m3 : Nat → Int32) : Prop := ∀ b, b < nb → d0 b = m0 b ∧ d1 b = m1 b ∧ d2 b = m2 b ∧ d3 b = m3 b ∧ (0 ≤ m0 b ∧ m0 b ≤ 90) ∧ (0 ≤ m1 b ∧ m1 b ≤ 9) ∧ (1 ≤ m2 b ∧ m2 b ≤ 6) ∧ (0 ≤ m3 b ∧ m3 b ≤ 6)
def BoaR (nt : Nat) (f0 f1 f2 f3 f4 f5 f6 f7 f10 f11 m1 m2 m3 m4 m5 m6 m7 m10 m11 : Nat → Int32) : Prop :=
  (∀ i, i < nt → f0 i = nI i ∧ f1 i = m1 i ∧ f2 i = m2 i ∧ f3 i = m3 i ∧ f4 i = m4 i ∧ f5 i = m5 i ∧ f6 i = m6 i ∧ f7 i = m7 i ∧ f10 i = m10 i ∧ f11 i = m11 i ∧ (0 ≤ m1 i ∧ m1 i ≤ 3) ∧ (1 ≤ m2 i ∧ m2 i ≤ 40) ∧ (0 ≤ m3 i ∧ m3 i ≤ 99) ∧ (m4 i = 0 ∨ m4 i = 1) ∧ (0 ≤ m5 i ∧ m5 i ≤ m6 i ∧ m6 i ≤ 23) ∧ (0 ≤ m7 i ∧ m7 i ≤ 16777215)) ∧
  (∀ i, nt ≤ i → i < 8 → m5 i = 0 ∧ m10 i = 0 ∧ m11 i = 0)
def PosR (nb nt : Nat) (bt pl mny row plc : Nat → Int32) : Prop :=
  (∀ b, b < nb → ∃ c : Nat, c ≤ 6 ∧ mny b = nI c ∧ mny b ≤ plc b) ∧
  (∀ b, nb ≤ b → b < 4 → mny b = 0) ∧
  (∀ b k, b < nb → k < (mny b).toNatClampNeg → ∃ i, i < nt ∧ row (6 * b + k) = nI i ∧ bt i = nI b ∧ pl i = nI k) ∧
  (∀ i, i < nt → (bt i = -1 ∧ pl i = -1) ∨ ∃ b k, b < nb ∧ k < (mny b).toNatClampNeg ∧ bt i = nI b ∧ pl i = nI k ∧ row (6 * b + k) = nI i)
def ScaR (ov mov hr mhr td mtd mv mmv fd mfd : Int32) : Prop := ov = mov ∧ hr = mhr ∧ td = mtd ∧ mv = mmv ∧ fd = mfd ∧ (0 ≤ mov ∧ mov ≤ 20) ∧ (0 ≤ mhr ∧ mhr ≤ 23) ∧ (0 ≤ mtd ∧ mtd ≤ 16777215)
def DueR (n mn : Int32) (k l p mk ml mp : Nat → Int32) : Prop := n = mn ∧ ∃ c : Nat, c ≤ 8 ∧ mn = nI c ∧ ∀ r, r < c → k r = mk r ∧ l r = ml r ∧ p r = mp r ∧ (0 ≤ mk r ∧ mk r ≤ 3) ∧ (0 ≤ ml r ∧ ml r ≤ 99) ∧ (0 ≤ mp r ∧ mp r ≤ 99)
def TapR (n mn : Int32) (t mt : Nat → Int32) : Prop := n = mn ∧ ∃ c : Nat, c ≤ 80 ∧ mn = nI c ∧ ∀ j, j < c → t j = (mt j).toInt8.toInt32 ∧ 0 ≤ mt j ∧ mt j ≤ 255
def SheR (w sz : Nat → Int32) (nu : Nat → Nat → Int32) (mw msz mnu : Nat → Int32) : Prop := ∀ s, s < 4 → w s = mw s ∧ sz s = msz s ∧ (mw s = 0 ∨ mw s = 8 ∨ mw s = 16 ∨ mw s = 32) ∧ (0 ≤ msz s ∧ msz s ≤ 8) ∧ ∀ j, j < 8 → nu s j = mnu (8 * s + j)
def Rel (h : Hp) : Prop :=
  ShpR (gN h 0) (gN h 1) (fun b => gP h 10 0 b) (fun i => gP h 11 0 i) (fun s => gP h 22 0 s) (gI h 5 0 2) (gI h 8 0 0) (gI h 5 0 3) (gI h 8 0 6) ∧
  BerR (gN h 0) (fun b => gI h 0 b 0) (fun b => gI h 0 b 1) (fun b => gI h 0 b 2) (fun b => gI h 0 b 3) (fun b => gI h 30 0 b) (fun b => gI h 31 0 b) (fun b => gI h 32 0 b) (fun b => gI h 33 0 b) ∧
  BoaR (gN h 1) (fun i => gI h 1 i 0) (fun i => gI h 1 i 1) (fun i => gI h 1 i 2) (fun i => gI h 1 i 3) (fun i => gI h 1 i 4) (fun i => gI h 1 i 5) (fun i => gI h 1 i 6) (fun i => gI h 1 i 7) (fun i => gI h 1 i 10) (fun i => gI h 1 i 11) (fun i => gI h 34 0 i) (fun i => gI h 35 0 i) (fun i => gI h 36 0 i) (fun i => gI h 37 0 i) (fun i => gI h 38 0 i) (fun i => gI h 39 0 i) (fun i => gI h 40 0 i) (fun i => gI h 41 0 i) (fun i => gI h 42 0 i) ∧
  PosR (gN h 0) (gN h 1) (fun i => gI h 1 i 8) (fun i => gI h 1 i 9) (fun b => gI h 43 0 b) (fun k => gI h 44 0 k) (fun b => gI h 32 0 b) ∧
  ScaR (gI h 5 0 4) (gI h 8 0 5) (gI h 2 0 0) (gI h 8 0 19) (gI h 2 0 1) (gI h 8 0 20) (gI h 5 0 5) (gI h 8 0 16) (gI h 7 0 5) (gI h 8 0 30) ∧
  DueR (gI h 3 0 5) (gI h 8 0 21) (fun r => gI h 19 0 r) (fun r => gI h 20 0 r) (fun r => gI h 21 0 r) (fun r => gI h 45 0 r) (fun r => gI h 46 0 r) (fun r => gI h 47 0 r) ∧
  TapR (gI h 3 0 4) (gI h 8 0 26) (fun j => gI h 18 0 j) (fun j => gI h 48 0 j) ∧
  SheR (fun s => gI h 6 s 1) (fun s => gI h 6 s 2) (fun s j => gI h 23 s j) (fun s => gI h 49 0 s) (fun s => gI h 50 0 s) (fun j => gI h 51 0 j)
