/-! PURE: Long.bitCount: one bit, or more -/
theorem p8_1 : ∀ a, a < 256 → ∀ i, i < 8 → a.testBit i = true → 1 ≤ p8 a := by decide +kernel
theorem p8_2 : ∀ a, a < 256 → ∀ i, i < 8 → ∀ j, j < 8 → (i = j ∨ a.testBit i = false ∨ a.testBit j = false ∨ 2 ≤ p8 a) := by decide +kernel
theorem cnt_1 : ∀ i, i < 64 → f_Long_bitCount ((1 : Int64) <<< ((nI i).toInt64 &&& 63)) = some (nI 1) := by decide +kernel
def Qb (n b : Nat) : Nat := p8 (n / 2 ^ (8 * b) % 2 ^ 8)
def sq (f : Nat → Nat) : Nat → Nat
  | 0 => 0
  | k + 1 => sq f k + f k
theorem sq_1 (f : Nat → Nat) : ∀ k b, b < k → f b ≤ sq f k := by
  intro k
  induction k with
  | zero => intro b h; omega
  | succ k ih =>
    intro b h
    rw [sq]
    by_cases e : b = k
    · rw [e]; omega
    · have := ih b (by omega); omega
theorem sq_2 (f : Nat → Nat) : ∀ k b c, b < c → c < k → f b + f c ≤ sq f k := by
  intro k
  induction k with
  | zero => intro b c _ h; omega
  | succ k ih =>
    intro b c h1 h2
    rw [sq]
    by_cases e : c = k
    · rw [e]; have := sq_1 f k b (by omega); omega
    · have := ih b c h1 (by omega); omega
def byl (n : Nat) : List Nat := [n / 2 ^ (8 * 0) % 2 ^ 8, n / 2 ^ (8 * 1) % 2 ^ 8, n / 2 ^ (8 * 2) % 2 ^ 8, n / 2 ^ (8 * 3) % 2 ^ 8, n / 2 ^ (8 * 4) % 2 ^ 8, n / 2 ^ (8 * 5) % 2 ^ 8, n / 2 ^ (8 * 6) % 2 ^ 8, n / 2 ^ (8 * 7) % 2 ^ 8]
theorem byl_n {n : Nat} (h : n < 2 ^ 64) : byt (byl n) = n := by
  unfold byl
  simp only [byt]
  omega
theorem Qb_bit {n i : Nat} (h : n.testBit i = true) : (n / 2 ^ (8 * (i / 8)) % 2 ^ 8).testBit (i % 8) = true := by
  rw [Nat.testBit_mod_two_pow, Nat.testBit_div_two_pow, show i % 8 + 8 * (i / 8) = i by omega, h, decide_eq_true (by omega : i % 8 < 8)]
  rfl
theorem sq_two {n i j : Nat} (hj : j < 64) (hij : i < j) (h1 : n.testBit i = true) (h2 : n.testBit j = true) : 2 ≤ sq (Qb n) 8 := by
  have b1 := Qb_bit h1
  have b2 := Qb_bit h2
  by_cases e : i / 8 = j / 8
  · rw [e] at b1
    have := sq_1 (Qb n) 8 (j / 8) (by omega)
    rcases p8_2 (n / 2 ^ (8 * (j / 8)) % 2 ^ 8) (Nat.mod_lt _ (by decide)) (i % 8) (by omega) (j % 8) (by omega) with q | q | q | q
    · omega
    · rw [b1] at q; exact absurd q (by decide)
    · rw [b2] at q; exact absurd q (by decide)
    · exact Nat.le_trans q this
  · have := sq_2 (Qb n) 8 (i / 8) (j / 8) (by omega) (by omega)
    have q1 := p8_1 (n / 2 ^ (8 * (i / 8)) % 2 ^ 8) (Nat.mod_lt _ (by decide)) (i % 8) (by omega) b1
    have q2 := p8_1 (n / 2 ^ (8 * (j / 8)) % 2 ^ 8) (Nat.mod_lt _ (by decide)) (j % 8) (by omega) b2
    have q1' : 1 ≤ Qb n (i / 8) := q1
    have q2' : 1 ≤ Qb n (j / 8) := q2
    omega
