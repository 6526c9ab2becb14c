/-! PURE: Long.bitCount: one bit, or more -/
theorem p8_1 : ∀ a, a < 256 → ∀ i, i < 8 → a.testBit i = true → 1 ≤ p8 a := by decide +kernel
theorem p8_2 : ∀ a, a < 256 → ∀ i, i < 8 → ∀ j, j < 8 → (i = j ∨ a.testBit i = false ∨ a.testBit j = false ∨ 2 ≤ p8 a) := by decide +kernel
theorem cnt_1 : ∀ i, i < 64 → f_Long_bitCount ((1 : Int64) <<< ((nI i).toInt64 &&& 63)) = some (nI 1) := by decide +kernel
def Qb (n b : Nat) : Nat := p8 (n / 2 ^ (8 * b) % 2 ^ 8)
def sq (f : Nat → Nat) : Nat → Nat
  | 0 => 0
  | k + 1 => sq f k + f k
theorem sq_1 (f : Nat → Nat) : ∀ k b, b < k → f b ≤ sq f k := by
  intro k
  induction k with
  | zero => intro b h; omega
  | succ k ih =>
    intro b h
    rw [sq]
    by_cases e : b = k
    · rw [e]; omega
    · have := ih b (by omega); omega
theorem sq_2 (f : Nat → Nat) : ∀ k b c, b < c → c < k → f b + f c ≤ sq f k := by
  intro k
  induction k with
  | zero => intro b c _ h; omega
  | succ k ih =>
    intro b c h1 h2
    rw [sq]
    by_cases e : c = k
    · rw [e]; have := sq_1 f k b (by omega); omega
    · have := ih b c h1 (by omega); omega
def byl (n : Nat) : List Nat := [n / 2 ^ (8 * 0) % 2 ^ 8, n / 2 ^ (8 * 1) % 2 ^ 8, n / 2 ^ (8 * 2) % 2 ^ 8, n / 2 ^ (8 * 3) % 2 ^ 8, n / 2 ^ (8 * 4) % 2 ^ 8, n / 2 ^ (8 * 5) % 2 ^ 8, n / 2 ^ (8 * 6) % 2 ^ 8, n / 2 ^ (8 * 7) % 2 ^ 8]
theorem byl_n {n : Nat} (h : n < 2 ^ 64) : byt (byl n) = n := by
  unfold byl
  simp only [byt]
  omega
theorem Qb_bit {n i : Nat} (h : n.testBit i = true) : (n / 2 ^ (8 * (i / 8)) % 2 ^ 8).testBit (i % 8) = true := by
  rw [Nat.testBit_mod_two_pow, Nat.testBit_div_two_pow, show i % 8 + 8 * (i / 8) = i by omega, h, decide_eq_true (by omega : i % 8 < 8)]
  rfl
theorem sq_two {n i j : Nat} (hj : j < 64) (hij : i < j) (h1 : n.testBit i = true) (h2 : n.testBit j = true) : 2 ≤ sq (Qb n) 8 := by
  have b1 := Qb_bit h1
  have b2 := Qb_bit h2
  by_cases e : i / 8 = j / 8
  · rw [e] at b1
    have := sq_1 (Qb n) 8 (j / 8) (by omega)
    rcases p8_2 (n / 2 ^ (8 * (j / 8)) % 2 ^ 8) (Nat.mod_lt _ (by decide)) (i % 8) (by omega) (j % 8) (by omega) with q | q | q | q
    · omega
    · rw [b1] at q; exact absurd q (by decide)
    · rw [b2] at q; exact absurd q (by decide)
    · exact Nat.le_trans q this
  · have := sq_2 (Qb n) 8 (i / 8) (j / 8) (by omega) (by omega)
    have q1 := p8_1 (n / 2 ^ (8 * (i / 8)) % 2 ^ 8) (Nat.mod_lt _ (by decide)) (i % 8) (by omega) b1
    have q2 := p8_1 (n / 2 ^ (8 * (j / 8)) % 2 ^ 8) (Nat.mod_lt _ (by decide)) (j % 8) (by omega) b2
    have q1' : 1 ≤ Qb n (i / 8) := q1
    have q2' : 1 ≤ Qb n (j / 8) := q2
    omega
theorem p8_le (a : Nat) (h : a < 256) : p8 a ≤ 8 := (p8_s a h).2.2
theorem cnt_sq {n : Nat} (hn : n < 2 ^ 63) : f_Long_bitCount (lN n) = some (nI (sq (Qb n) 8)) := by
  have hb : ∀ a ∈ byl n, a < 256 := fun a ha => by
    unfold byl at ha
    simp only [List.mem_cons, List.not_mem_nil, or_false] at ha
    omega
  obtain ⟨g1, g2⟩ := by_w (byl n) rfl hb
  rw [byl_n (by omega)] at g1 g2
  have q : ∀ b, Qb n b ≤ 8 := fun b => p8_le _ (Nat.mod_lt _ (by decide))
  have fin := by_fin (Qb n 0) (Qb n 1) (Qb n 2) (Qb n 3) (Qb n 4) (Qb n 5) (Qb n 6) (Qb n 7) (q 0) (q 1) (q 2) (q 3) (q 4) (q 5) (q 6) (q 7) (byt ((byl n).map p8)) _ _ _ rfl rfl rfl rfl
  have r51 : rp 51 8 = 3689348814741910323 := by decide
  have r15 : rp 15 8 = 1085102592571150095 := by decide
  have bw : byt ((byl n).map p8) ≤ 1085102592571150095 := by
    rw [← g2, ← r15]
    exact Nat.and_le_right
  have m1 : ∀ z : Nat, z &&& rp 51 8 ≤ 3689348814741910323 := fun z => by rw [← r51]; exact Nat.and_le_right
  have bv := Nat.add_le_add (m1 (n - (n / 2 &&& rp 85 8))) (m1 ((n - (n / 2 &&& rp 85 8)) / 4))
  have su : sq (Qb n) 8 = Qb n 0 + Qb n 1 + Qb n 2 + Qb n 3 + Qb n 4 + Qb n 5 + Qb n 6 + Qb n 7 := by
    simp only [sq]
    omega
  rw [su, ← fin]
  generalize byt ((byl n).map p8) = w at *
  exact f_cnt hn g1 rfl rfl g2.symm rfl rfl rfl (by omega) (Nat.lt_of_le_of_lt bv (by decide)) (by omega) (by omega) (by omega)
theorem cnt_two {n i j : Nat} (hn : n < 2 ^ 63) (hj : j < 64) (hij : i < j) (h1 : n.testBit i = true) (h2 : n.testBit j = true) : ∃ c, 2 ≤ c ∧ c ≤ 64 ∧ f_Long_bitCount (lN n) = some (nI c) := by
  have q : ∀ b, Qb n b ≤ 8 := fun b => p8_le _ (Nat.mod_lt _ (by decide))
  refine ⟨sq (Qb n) 8, sq_two hj hij h1 h2, ?_, cnt_sq hn⟩
  have := q 0
  have := q 1
  have := q 2
  have := q 3
  have := q 4
  have := q 5
  have := q 6
  have := q 7
  simp only [sq]
  omega
