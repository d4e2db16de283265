/-! ===== placings: rows of ranks, the outermost first; a list of rows, the last berth first ===== -/
def mkL : List Nat → Nat
  | [] => 0
  | r :: l => 2 ^ r ||| mkL l
def mkP : List (List Nat) → Nat
  | [] => 0
  | l :: P => mkL l ||| mkP P
def inP (P : List (List Nat)) (r : Nat) : Prop := ∃ l, l ∈ P ∧ r ∈ l
theorem mkL_bit (r : Nat) : ∀ l, (mkL l).testBit r = true ↔ r ∈ l
  | [] => by simp [mkL]
  | q :: l => by
    rw [mkL, Nat.testBit_or, Bool.or_eq_true, mkL_bit r l, Nat.testBit_two_pow, List.mem_cons, decide_eq_true_iff]
    constructor
    · rintro (e | e)
      · exact Or.inl e.symm
      · exact Or.inr e
    · rintro (e | e)
      · exact Or.inl e.symm
      · exact Or.inr e
theorem inP_nil (r : Nat) : ¬ inP [] r := fun ⟨l, h, _⟩ => absurd h (by simp)
theorem inP_cons {l : List Nat} {P : List (List Nat)} {r : Nat} : inP (l :: P) r ↔ r ∈ l ∨ inP P r := by
  constructor
  · rintro ⟨l', h1, h2⟩
    rcases List.mem_cons.mp h1 with e | e
    · exact Or.inl (e ▸ h2)
    · exact Or.inr ⟨l', e, h2⟩
  · rintro (e | ⟨l', h1, h2⟩)
    · exact ⟨l, by simp, e⟩
    · exact ⟨l', by simp [h1], h2⟩
theorem mkP_bit (r : Nat) : ∀ P, (mkP P).testBit r = true ↔ inP P r
  | [] => by simp [mkP, inP_nil]
  | l :: P => by rw [mkP, Nat.testBit_or, Bool.or_eq_true, mkL_bit, mkP_bit r P, inP_cons]
theorem bit_ext {a b : Nat} (h : ∀ r, a.testBit r = true ↔ b.testBit r = true) : a = b := by
  apply Nat.eq_of_testBit_eq
  intro r
  have := h r
  cases ha : a.testBit r <;> cases hb : b.testBit r <;> simp_all
section
variable (A : Nat → Nat → Nat → Bool) (N : Nat → Nat → Bool) (V : Nat → Nat → Bool)
def rOk (b : Nat) : List Nat → Prop
  | [] => True
  | r :: l => A r b l.length = true ∧ (∀ q, l.head? = some q → N r q = true) ∧ r ∉ l ∧ rOk b l
def pOk : List (List Nat) → Prop
  | [] => True
  | l :: P => rOk A N P.length l ∧ (∀ r, r ∈ l → ¬ inP P r) ∧ pOk P
def cV (r : Nat) : List Nat → Nat
  | [] => 0
  | q :: l => cV r l + (if V q r = true then 1 else 0)
def rwPr : List Nat → Nat
  | [] => 0
  | r :: l => rwPr l + cV V r l
def pPr : List (List Nat) → Nat
  | [] => 0
  | l :: P => pPr P + rwPr V l
def rCo (b : Nat) : List Nat → Nat
  | [] => 0
  | r :: l => rCo b l + cV V r l * 1073741824 + (8 * b + l.length) * 32 ^ (5 - r)
def pCo : List (List Nat) → Nat
  | [] => 0
  | l :: P => rCo V P.length l + pCo P
def rPl : List Nat → Nat → Nat
  | [], _ => 0
  | q :: l, r => if r = q then l.length else rPl l r
def pB : List (List Nat) → Nat → Nat
  | [], _ => 0
  | l :: P, r => if r ∈ l then P.length else pB P r
def pK : List (List Nat) → Nat → Nat
  | [], _ => 0
  | l :: P, r => if r ∈ l then rPl l r else pK P r
theorem pB_out {r : Nat} : ∀ {P : List (List Nat)}, ¬ inP P r → pB P r = 0 ∧ pK P r = 0
  | [], _ => ⟨rfl, rfl⟩
  | l :: P, h => by
    rw [inP_cons] at h
    rw [pB, pK, if_neg (fun e => h (Or.inl e)), if_neg (fun e => h (Or.inl e))]
    exact pB_out (fun e => h (Or.inr e))
theorem rPl_lt {r : Nat} : ∀ {l : List Nat}, r ∈ l → rPl l r < l.length
  | [], h => absurd h (by simp)
  | q :: l, h => by
    rw [rPl]
    by_cases e : r = q
    · rw [if_pos e]; simp
    · rw [if_neg e]
      have : r ∈ l := by
        rcases List.mem_cons.mp h with w | w
        · exact absurd w e
        · exact w
      have := rPl_lt this
      simp only [List.length_cons]
      omega
/-- six digits of five bits -/
def W6 (f : Nat → Nat) : Nat := f 0 * 33554432 + f 1 * 1048576 + f 2 * 32768 + f 3 * 1024 + f 4 * 32 + f 5
theorem W6_upd {f : Nat → Nat} {r v : Nat} (hr : r < 6) (h0 : f r = 0) : W6 (fun q => if q = r then v else f q) = W6 f + v * 32 ^ (5 - r) := by
  have hr' : r = 0 ∨ r = 1 ∨ r = 2 ∨ r = 3 ∨ r = 4 ∨ r = 5 := by omega
  unfold W6
  rcases hr' with rfl | rfl | rfl | rfl | rfl | rfl <;> simp [h0] <;> omega
theorem W6_c {f g : Nat → Nat} (h : ∀ r, r < 6 → f r = g r) : W6 f = W6 g := by
  unfold W6
  rw [h 0 (by omega), h 1 (by omega), h 2 (by omega), h 3 (by omega), h 4 (by omega), h 5 (by omega)]
theorem W6_add (f g : Nat → Nat) : W6 (fun r => f r + g r) = W6 f + W6 g := by
  show (f 0 + g 0) * 33554432 + (f 1 + g 1) * 1048576 + (f 2 + g 2) * 32768 + (f 3 + g 3) * 1024 + (f 4 + g 4) * 32 + (f 5 + g 5) = _
  unfold W6
  omega
theorem rCo_W {b : Nat} : ∀ {l : List Nat}, rOk A N b l → (∀ r, r ∈ l → r < 6) → rCo V b l = rwPr V l * 1073741824 + W6 (fun r => if r ∈ l then 8 * b + rPl l r else 0)
  | [], _, _ => by simp [rCo, rwPr, W6]
  | q :: l, h, h6 => by
    have ih := rCo_W h.2.2.2 (fun r hr => h6 r (by simp [hr]))
    have hq : q ∉ l := h.2.2.1
    rw [rCo, rwPr, ih]
    have := W6_upd (f := fun r => if r ∈ l then 8 * b + rPl l r else 0) (r := q) (v := 8 * b + l.length) (h6 q (by simp)) (if_neg hq)
    have e : W6 (fun r => if r ∈ q :: l then 8 * b + rPl (q :: l) r else 0) = W6 (fun r => if r = q then 8 * b + l.length else (fun r => if r ∈ l then 8 * b + rPl l r else 0) r) := by
      apply W6_c
      intro r _
      by_cases e : r = q
      · rw [if_pos e, if_pos (by simp [e]), rPl, if_pos e]
      · rw [if_neg e]
        by_cases e2 : r ∈ l
        · simp only [if_pos e2]
          rw [if_pos (by simp [e2]), rPl, if_neg e]
        · simp only [if_neg e2]
          rw [if_neg (by simp [e, e2])]
    rw [e, this, Nat.add_mul]
    omega
theorem pCo_W : ∀ {P : List (List Nat)}, pOk A N P → (∀ r, inP P r → r < 6) → pCo V P = pPr V P * 1073741824 + W6 (fun r => 8 * pB P r + pK P r)
  | [], _, _ => by simp [pCo, pPr, W6, pB, pK]
  | l :: P, h, h6 => by
    have ih := pCo_W h.2.2 (fun r hr => h6 r (inP_cons.mpr (Or.inr hr)))
    have il := rCo_W A N V h.1 (fun r hr => h6 r (inP_cons.mpr (Or.inl hr)))
    rw [pCo, pPr, ih, il]
    have e : W6 (fun r => 8 * pB (l :: P) r + pK (l :: P) r) = W6 (fun r => (if r ∈ l then 8 * P.length + rPl l r else 0) + (8 * pB P r + pK P r)) := by
      apply W6_c
      intro r _
      rw [pB, pK]
      by_cases e : r ∈ l
      · have := pB_out (h.2.1 r e)
        simp only [if_pos e, this]
        omega
      · simp only [if_neg e]
        omega
    have wa := W6_add (fun r => if r ∈ l then 8 * P.length + rPl l r else 0) (fun r => 8 * pB P r + pK P r)
    rw [e, wa, Nat.add_mul]
    omega
theorem rOk_len {b : Nat} (hA : ∀ r b k, A r b k = true → k < 6) : ∀ {l : List Nat}, rOk A N b l → l.length ≤ 6
  | [], _ => by simp
  | q :: l, h => by
    have := hA _ _ _ h.1
    simp only [List.length_cons]
    omega
theorem cV_le (r : Nat) : ∀ l : List Nat, cV V r l ≤ l.length
  | [] => by simp [cV]
  | q :: l => by
    have := cV_le r l
    rw [cV, List.length_cons]
    split <;> omega
theorem rwPr_le : ∀ {l : List Nat}, l.length ≤ 6 → rwPr V l ≤ 6 * l.length
  | [], _ => by simp [rwPr]
  | q :: l, h => by
    have h' : l.length ≤ 6 := by simp only [List.length_cons] at h; omega
    have := rwPr_le h'
    have := cV_le V q l
    rw [rwPr, List.length_cons]
    omega
theorem pPr_le (hA : ∀ r b k, A r b k = true → k < 6) : ∀ {P : List (List Nat)}, pOk A N P → pPr V P ≤ 36 * P.length
  | [], _ => by simp [pPr]
  | l :: P, h => by
    have := pPr_le hA h.2.2
    have q := rOk_len A N hA h.1
    have := rwPr_le V q
    rw [pPr, List.length_cons]
    omega
theorem pB_lt (hA : ∀ r b k, A r b k = true → k < 6) {r : Nat} : ∀ {P : List (List Nat)}, pOk A N P → inP P r → pB P r < P.length ∧ pK P r < 6
  | [], _, h => absurd h (inP_nil r)
  | l :: P, h, hi => by
    rw [pB, pK, List.length_cons]
    by_cases e : r ∈ l
    · rw [if_pos e, if_pos e]
      have := rPl_lt e
      have := rOk_len A N hA h.1
      omega
    · rw [if_neg e, if_neg e]
      have := pB_lt hA h.2.2 (r := r) ((inP_cons.mp hi).resolve_left e)
      omega
end
/-- numbers by their digits, of 24 and of 32 -/
def ky (f : Nat → Nat) : Nat → Nat
  | 0 => 0
  | n + 1 => 24 * ky f n + f n
def kz (f : Nat → Nat) : Nat → Nat
  | 0 => 0
  | n + 1 => 32 * kz f n + f n
theorem ky_lex {f g F G : Nat → Nat} : ∀ n, (∀ r, r < n → f r < 24 ∧ g r < 24 ∧ F r = f r + 2 * (f r / 6) ∧ G r = g r + 2 * (g r / 6)) → ((ky f n < ky g n ↔ kz F n < kz G n) ∧ (ky f n = ky g n ↔ kz F n = kz G n))
  | 0, _ => by simp [ky, kz]
  | n + 1, h => by
    obtain ⟨i1, i2⟩ := ky_lex n (fun r hr => h r (by omega))
    obtain ⟨a, b, c, d⟩ := h n (by omega)
    rw [ky, ky, kz, kz, c, d]
    rcases Nat.lt_trichotomy (ky f n) (ky g n) with q | q | q
    · have := i1.mp q
      omega
    · have := i2.mp q
      omega
    · have : ¬ kz F n < kz G n := fun w => by have := i1.mpr w; omega
      have : ¬ kz F n = kz G n := fun w => by have := i2.mpr w; omega
      omega
theorem W6_kz (f : Nat → Nat) : W6 f = kz f 6 := by unfold W6; simp only [kz]; omega
theorem kz_pad {f : Nat → Nat} {s : Nat} : ∀ n, (∀ r, s ≤ r → f r = 0) → kz f (s + n) = kz f s * 32 ^ n
  | 0, _ => by simp
  | n + 1, h => by
    rw [← Nat.add_assoc, kz, kz_pad n h, h (s + n) (by omega), Nat.pow_succ]
    rw [Nat.add_zero, Nat.mul_comm 32, Nat.mul_assoc]
theorem ky_lt {f : Nat → Nat} : ∀ n, (∀ r, r < n → f r < 24) → ky f n < 24 ^ n
  | 0, _ => by simp [ky]
  | n + 1, h => by
    have := ky_lt n (fun r hr => h r (by omega))
    have := h n (by omega)
    rw [ky, Nat.pow_succ]
    omega
/-- a placing of s ranks at nb berths -/
def Full (A : Nat → Nat → Nat → Bool) (N : Nat → Nat → Bool) (s nb : Nat) (P : List (List Nat)) : Prop := P.length = nb ∧ pOk A N P ∧ mkP P = 2 ^ s - 1
theorem Full.mem {A : Nat → Nat → Nat → Bool} {N : Nat → Nat → Bool} {s nb : Nat} {P : List (List Nat)} (h : Full A N s nb P) (r : Nat) : inP P r ↔ r < s := by
  rw [← mkP_bit, h.2.2, Nat.testBit_two_pow_sub_one, decide_eq_true_iff]
def s6 (P : List (List Nat)) (r : Nat) : Nat := 6 * pB P r + pK P r
theorem Full.cmp {A : Nat → Nat → Nat → Bool} {N V : Nat → Nat → Bool} (hA : ∀ r b k, A r b k = true → k < 6) {s nb : Nat} (hs : s ≤ 6) (hb : nb ≤ 4) {P Q : List (List Nat)} (hP : Full A N s nb P) (hQ : Full A N s nb Q) :
    ((pPr V P < pPr V Q ∨ (pPr V P = pPr V Q ∧ ky (s6 P) s < ky (s6 Q) s)) ↔ pCo V P < pCo V Q) := by
  have m6 : ∀ {P}, Full A N s nb P → ∀ r, inP P r → r < 6 := fun h r hr => by have := (h.mem r).mp hr; omega
  rw [pCo_W A N V hP.2.1 (m6 hP), pCo_W A N V hQ.2.1 (m6 hQ), W6_kz, W6_kz]
  have out : ∀ {P}, Full A N s nb P → ∀ r, s ≤ r → 8 * pB P r + pK P r = 0 := fun h r hr => by
    have := pB_out (P := _) (r := r) (fun w => by have := (h.mem r).mp w; omega)
    rw [this.1, this.2]
  have dig : ∀ {P}, Full A N s nb P → ∀ r, r < s → s6 P r < 24 ∧ 8 * pB P r + pK P r = s6 P r + 2 * (s6 P r / 6) := fun h r hr => by
    have := pB_lt A N hA h.2.1 ((h.mem r).mpr hr)
    rw [h.1] at this
    unfold s6
    omega
  have lex := ky_lex (f := s6 P) (g := s6 Q) (F := fun r => 8 * pB P r + pK P r) (G := fun r => 8 * pB Q r + pK Q r) s (fun r hr => ⟨(dig hP r hr).1, (dig hQ r hr).1, (dig hP r hr).2, (dig hQ r hr).2⟩)
  have e1 := kz_pad (f := fun r => 8 * pB P r + pK P r) (s := s) (6 - s) (out hP)
  have e2 := kz_pad (f := fun r => 8 * pB Q r + pK Q r) (s := s) (6 - s) (out hQ)
  rw [show s + (6 - s) = 6 by omega] at e1 e2
  have kl : ∀ {f : Nat → Nat} n, (∀ r, r < n → f r < 32) → kz f n < 32 ^ n := by
    intro f n
    induction n with
    | zero => intro _; simp [kz]
    | succ n ih =>
      intro h
      have := ih (fun r hr => h r (by omega))
      have := h n (by omega)
      rw [kz, Nat.pow_succ]
      omega
  have d32 : ∀ {P}, Full A N s nb P → ∀ r, r < 6 → 8 * pB P r + pK P r < 32 := fun h r hr => by
    by_cases q : r < s
    · have := dig h r q
      omega
    · rw [out h r (by omega)]
      omega
  have b1 := kl 6 (d32 hP)
  have b2 := kl 6 (d32 hQ)
  have pos : 0 < 32 ^ (6 - s) := Nat.pow_pos (by omega)
  have lt : kz (fun r => 8 * pB P r + pK P r) s < kz (fun r => 8 * pB Q r + pK Q r) s ↔ kz (fun r => 8 * pB P r + pK P r) 6 < kz (fun r => 8 * pB Q r + pK Q r) 6 := by
    rw [e1, e2]
    exact (Nat.mul_lt_mul_right pos).symm
  rw [lex.1, lt]
  generalize kz (fun r => 8 * pB P r + pK P r) 6 = x at *
  generalize kz (fun r => 8 * pB Q r + pK Q r) 6 = y at *
  simp only [show (32 : Nat) ^ 6 = 1073741824 by decide] at b1 b2
  omega
theorem dg1 (y g : Nat) (hg : g < 32) : (32 * y + g) / 32 = y ∧ (32 * y + g) % 32 = g := by omega
theorem dg6 {p a b c d e f Y : Nat} (ha : a < 32) (hb : b < 32) (hc : c < 32) (hd : d < 32) (he : e < 32) (hf : f < 32) (hY : Y = p * 1073741824 + (a * 33554432 + b * 1048576 + c * 32768 + d * 1024 + e * 32 + f)) :
    Y / 1073741824 = p ∧ Y / 33554432 % 32 = a ∧ Y / 1048576 % 32 = b ∧ Y / 32768 % 32 = c ∧ Y / 1024 % 32 = d ∧ Y / 32 % 32 = e ∧ Y / 1 % 32 = f := by
  have h : Y = 32 * (32 * (32 * (32 * (32 * (32 * p + a) + b) + c) + d) + e) + f := by omega
  have y4 : Y / 32 = 32 * (32 * (32 * (32 * (32 * p + a) + b) + c) + d) + e := by rw [h]; exact (dg1 _ f hf).1
  have y3 : Y / 1024 = 32 * (32 * (32 * (32 * p + a) + b) + c) + d := by
    rw [show 1024 = 32 * 32 by decide, ← Nat.div_div_eq_div_mul, y4]; exact (dg1 _ e he).1
  have y2 : Y / 32768 = 32 * (32 * (32 * p + a) + b) + c := by
    rw [show 32768 = 1024 * 32 by decide, ← Nat.div_div_eq_div_mul, y3]; exact (dg1 _ d hd).1
  have y1 : Y / 1048576 = 32 * (32 * p + a) + b := by
    rw [show 1048576 = 32768 * 32 by decide, ← Nat.div_div_eq_div_mul, y2]; exact (dg1 _ c hc).1
  have y0 : Y / 33554432 = 32 * p + a := by
    rw [show 33554432 = 1048576 * 32 by decide, ← Nat.div_div_eq_div_mul, y1]; exact (dg1 _ b hb).1
  have yp : Y / 1073741824 = p := by
    rw [show 1073741824 = 33554432 * 32 by decide, ← Nat.div_div_eq_div_mul, y0]; exact (dg1 _ a ha).1
  rw [yp, y0, y1, y2, y3, y4, Nat.div_one, h]
  exact ⟨rfl, (dg1 _ a ha).2, (dg1 _ b hb).2, (dg1 _ c hc).2, (dg1 _ d hd).2, (dg1 _ e he).2, (dg1 _ f hf).2⟩
/-- what the class's number tells of a placing -/
theorem Full.dec {A : Nat → Nat → Nat → Bool} {N V : Nat → Nat → Bool} (hA : ∀ r b k, A r b k = true → k < 6) {s nb : Nat} (hs : s ≤ 6) (hb : nb ≤ 4) {P : List (List Nat)} (hP : Full A N s nb P) :
    pCo V P / 1073741824 = pPr V P ∧ pPr V P ≤ 144 ∧ pCo V P < 1099511627776 ∧ ∀ r, r < s → pCo V P / 32 ^ (5 - r) % 32 = 8 * pB P r + pK P r := by
  have m6 : ∀ r, inP P r → r < 6 := fun r hr => by have := (hP.mem r).mp hr; omega
  have d32 : ∀ r, 8 * pB P r + pK P r < 32 := fun r => by
    by_cases q : r < s
    · have := pB_lt A N hA hP.2.1 ((hP.mem r).mpr q)
      rw [hP.1] at this
      omega
    · have := pB_out (P := P) (r := r) (fun w => q ((hP.mem r).mp w))
      rw [this.1, this.2]
      omega
  have pl := pPr_le A N V hA hP.2.1
  rw [hP.1] at pl
  rw [pCo_W A N V hP.2.1 m6]
  have Q := dg6 (d32 0) (d32 1) (d32 2) (d32 3) (d32 4) (d32 5) (p := pPr V P) rfl
  have lt : W6 (fun r => 8 * pB P r + pK P r) < 1073741824 := by
    have h0 := d32 0
    have h1 := d32 1
    have h2 := d32 2
    have h3 := d32 3
    have h4 := d32 4
    have h5 := d32 5
    show (8 * pB P 0 + pK P 0) * 33554432 + (8 * pB P 1 + pK P 1) * 1048576 + (8 * pB P 2 + pK P 2) * 32768 + (8 * pB P 3 + pK P 3) * 1024 + (8 * pB P 4 + pK P 4) * 32 + (8 * pB P 5 + pK P 5) < 1073741824
    generalize 8 * pB P 0 + pK P 0 = a at *
    generalize 8 * pB P 1 + pK P 1 = b at *
    generalize 8 * pB P 2 + pK P 2 = c at *
    generalize 8 * pB P 3 + pK P 3 = d at *
    generalize 8 * pB P 4 + pK P 4 = e at *
    generalize 8 * pB P 5 + pK P 5 = f at *
    omega
  refine ⟨Q.1, by omega, ?_, fun r hr => ?_⟩
  · generalize W6 (fun r => 8 * pB P r + pK P r) = w at lt
    omega
  have hr' : r = 0 ∨ r = 1 ∨ r = 2 ∨ r = 3 ∨ r = 4 ∨ r = 5 := by omega
  rcases hr' with rfl | rfl | rfl | rfl | rfl | rfl
  · exact Q.2.1
  · exact Q.2.2.1
  · exact Q.2.2.2.1
  · exact Q.2.2.2.2.1
  · exact Q.2.2.2.2.2.1
  · exact Q.2.2.2.2.2.2
