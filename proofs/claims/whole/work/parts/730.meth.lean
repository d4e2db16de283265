/-! ===== bits of small sets ===== -/
def popc (m : Nat) : Nat := cntB (fun r => m.testBit r) 8
theorem bcF : ∀ m : Fin 256, ∀ h : Hp, f_J6_bitCount_0f7a4 (nI m.val) h = some (nI (popc m.val)) := by
  have : ∀ m : Fin 256, f_J6_bitCount_0f7a4 (nI m.val) hE = some (nI (popc m.val)) := by decide +kernel
  intro m h
  exact this m
theorem bc {m : Nat} (hm : m < 256) (h : Hp) : f_J6_bitCount_0f7a4 (nI m) h = some (nI (popc m)) := bcF ⟨m, hm⟩ h
def dif (p q : Nat) : Nat := p &&& (63 ^^^ q)
theorem dif_bit {p q : Nat} (hp : p < 64) (r : Nat) : (dif p q).testBit r = true ↔ (p.testBit r = true ∧ ¬ q.testBit r = true) := by
  unfold dif
  rw [Nat.testBit_and, Nat.testBit_xor, show (63 : Nat) = 2 ^ 6 - 1 by decide, Nat.testBit_two_pow_sub_one]
  by_cases h6 : r < 6
  · simp [h6]
  · have : p.testBit r = false := Nat.testBit_lt_two_pow (Nat.lt_of_lt_of_le hp (by
      have : 2 ^ 6 ≤ 2 ^ r := Nat.pow_le_pow_right (by omega) (by omega)
      exact this))
    simp [this]
theorem dif_lt {p q : Nat} (hp : p < 64) : dif p q < 64 := Nat.lt_of_le_of_lt Nat.and_le_left hp
theorem difI {p q : Nat} (hp : p < 64) (hq : q < 64) : nI p &&& (nI q ^^^ (-1)) = nI (dif p q) := by
  have : ∀ p : Fin 64, ∀ q : Fin 64, nI p.val &&& (nI q.val ^^^ (-1)) = nI (dif p.val q.val) := by decide +kernel
  exact this ⟨p, hp⟩ ⟨q, hq⟩
theorem shlI {j : Nat} (hj : j < 8) : (1 : Int32) <<< (nI j &&& 31) = nI (2 ^ j) := by
  have : ∀ j : Fin 8, (1 : Int32) <<< (nI j.val &&& 31) = nI (2 ^ j.val) := by decide +kernel
  exact this ⟨j, hj⟩
theorem rmI {p j : Nat} (hp : p < 64) (hj : j < 6) : nI p &&& (((1 : Int32) <<< (nI j &&& 31)) ^^^ (-1)) = nI (dif p (2 ^ j)) := by
  have : 2 ^ j ≤ 2 ^ 5 := Nat.pow_le_pow_right (by omega) (by omega)
  rw [shlI (by omega), difI hp (by omega)]
theorem andI {a b : Nat} (ha : a < 64) (hb : b < 64) : nI a &&& nI b = nI (a &&& b) := by
  have : ∀ p : Fin 64, ∀ q : Fin 64, nI p.val &&& nI q.val = nI (p.val &&& q.val) := by decide +kernel
  exact this ⟨a, ha⟩ ⟨b, hb⟩
theorem tstI {m j : Nat} (hm : m < 256) (hj : j < 8) : ((nI m >>> (nI j &&& 31)) &&& (1 : Int32)) = if m.testBit j = true then 1 else 0 := by
  have : ∀ m : Fin 256, ∀ j : Fin 8, ((nI m.val >>> (nI j.val &&& 31)) &&& (1 : Int32)) = if m.val.testBit j.val = true then 1 else 0 := by decide +kernel
  exact this ⟨m, hm⟩ ⟨j, hj⟩
theorem tst0 {m j : Nat} (hm : m < 256) (hj : j < 8) : ((nI m >>> (nI j &&& 31)) &&& (1 : Int32)) = 0 ↔ ¬ m.testBit j = true := by
  rw [tstI hm hj]
  by_cases e : m.testBit j = true
  · rw [if_pos e]; simp [e]
  · rw [if_neg e]; simp [e]
theorem spI {b k : Nat} (hb : b < 4) (hk : k < 8) : (nI b <<< ((3 : Int32) &&& 31)) ||| nI k = nI (8 * b + k) := by
  have : ∀ b : Fin 4, ∀ k : Fin 8, (nI b.val <<< ((3 : Int32) &&& 31)) ||| nI k.val = nI (8 * b.val + k.val) := by decide +kernel
  exact this ⟨b, hb⟩ ⟨k, hk⟩
/-- the next smaller part of a set -/
theorem sub_le : ∀ (x y p : Nat), y &&& p = y → x &&& p = x → y < x → y ≤ (x - 1) &&& p := by
  intro x
  induction x using Nat.strongRecOn with
  | ind x ih =>
    intro y p hy hx lt
    have y2 : y / 2 &&& p / 2 = y / 2 := by rw [← Nat.and_div_two, hy]
    have x2 : x / 2 &&& p / 2 = x / 2 := by rw [← Nat.and_div_two, hx]
    have yb : y % 2 = 1 → p % 2 = 1 := by
      intro w
      rw [← hy] at w
      exact (Nat.and_mod_two_eq_one.mp w).2
    have X2 : ((x - 1) &&& p) / 2 = (x - 1) / 2 &&& p / 2 := Nat.and_div_two
    by_cases bx : x % 2 = 1
    · have e : (x - 1) / 2 = x / 2 := by omega
      rw [e, x2] at X2
      omega
    · have e : (x - 1) / 2 = x / 2 - 1 := by omega
      have i := ih (x / 2) (by omega) (y / 2) (p / 2) y2 x2 (by omega)
      rw [e] at X2
      have b1 : y % 2 = 1 → ((x - 1) &&& p) % 2 = 1 := fun w => Nat.and_mod_two_eq_one.mpr ⟨by omega, yb w⟩
      omega
/-! ===== numbers of 64 bits ===== -/
theorem lshl (n : Nat) {k : Nat} (hk : k < 64) : lN n <<< ((nI k).toInt64 &&& 63) = lN (n * 2 ^ k) := by
  have c : ∀ k, k < 64 → ((nI k).toInt64 &&& 63) = lN k := by decide +kernel
  have sm : ∀ k, k < 64 → (BitVec.ofNat 64 k).smod 64 = BitVec.ofNat 64 k := by decide +kernel
  have tb : ∀ n, (lN n).toBitVec = BitVec.ofNat 64 n := fun n => rfl
  rw [c k hk]
  apply Int64.toBitVec_inj.mp
  rw [Int64.toBitVec_shiftLeft, tb, tb, tb, sm k hk]
  apply BitVec.eq_of_toNat_eq
  rw [BitVec.shiftLeft_eq', BitVec.toNat_shiftLeft, BitVec.toNat_ofNat, BitVec.toNat_ofNat, BitVec.toNat_ofNat, Nat.mod_eq_of_lt (show k < 2 ^ 64 by omega), Nat.shiftLeft_eq, Nat.mod_mul_mod]
theorem lshr {n : Nat} (hn : n < 2 ^ 62) {k : Nat} (hk : k < 64) : lN n >>> ((nI k).toInt64 &&& 63) = lN (n / 2 ^ k) := by
  have c : ∀ k, k < 64 → (((nI k).toInt64 &&& 63).toBitVec.smod 64).toNat = k := by decide +kernel
  have hd : n / 2 ^ k ≤ n := Nat.div_le_self _ _
  apply Int64.toInt_inj.mp
  have key : ∀ D : Int64, (D.toBitVec.smod 64).toNat = k → (lN n >>> D).toInt = (lN n).toInt >>> k := by
    intro D hD
    rw [← hD]
    exact BitVec.toInt_sshiftRight ..
  have e := key _ (c k hk)
  rw [e, Int.shiftRight_eq_div_pow, pk_lT (by omega), pk_lT (by omega)]
  rfl
theorem lminI {a b : Nat} (ha : a < 2 ^ 62) (hb : b < 2 ^ 62) : lmin (lN a) (lN b) = lN (min a b) := by
  unfold lmin
  by_cases q : b < a
  · rw [if_pos ((pk_lLT (by omega) (by omega)).mpr q), Nat.min_eq_right (by omega)]
  · rw [if_neg (fun w => q ((pk_lLT (by omega) (by omega)).mp w)), Nat.min_eq_left (by omega)]
