/-! PURE: Long.bitCount by bytes -/
theorem and_split {k a c y m : Nat} (ha : a < 2 ^ k) (hc : c < 2 ^ k) : (2 ^ k * y + a) &&& (2 ^ k * m + c) = 2 ^ k * (y &&& m) + (a &&& c) := by
  refine Nat.eq_of_testBit_eq (fun j => ?_)
  rw [Nat.testBit_and, Nat.testBit_two_pow_mul_add _ ha, Nat.testBit_two_pow_mul_add _ hc, Nat.testBit_two_pow_mul_add _ (Nat.and_lt_two_pow a hc)]
  by_cases h : j < k
  · simp only [if_pos h, Nat.testBit_and]
  · simp only [if_neg h, Nat.testBit_and]
/-- the first three steps on one byte -/
def p8 (a : Nat) : Nat := (let u := a - ((a / 2) &&& 85); let v := (u &&& 51) + ((u / 4) &&& 51); (v + v / 16) &&& 15)
theorem p8_s : ∀ a, a < 256 → (a / 2) &&& 85 ≤ a ∧ a - ((a / 2) &&& 85) < 256 ∧ p8 a ≤ 8 := by decide +kernel
def byt : List Nat → Nat
  | [] => 0
  | a :: l => 2 ^ 8 * byt l + a
def rp (c : Nat) : Nat → Nat
  | 0 => 0
  | k + 1 => 2 ^ 8 * rp c k + c
theorem e85 : ∀ a, a < 256 → ∀ t, t < 2 → (128 * t + a / 2) &&& 85 = (a / 2) &&& 85 := by decide +kernel
theorem e51 : ∀ a, a < 256 → ∀ t, t < 4 → (64 * t + a / 4) &&& 51 = (a / 4) &&& 51 := by decide +kernel
theorem e15 : ∀ a, a < 80 → ∀ t, t < 5 → (16 * t + (a + a / 16)) &&& 15 = (a + a / 16) &&& 15 := by decide +kernel
theorem by_1 : ∀ l : List Nat, (∀ a ∈ l, a < 256) → (byt l / 2) &&& rp 85 l.length = byt (l.map (fun a => (a / 2) &&& 85)) := by
  intro l
  induction l with
  | nil => intro _; rfl
  | cons a l ih =>
    intro h
    have ha := h a (List.mem_cons_self ..)
    rw [byt, List.length_cons, rp, List.map_cons, byt, ← ih (fun c hc => h c (List.mem_cons_of_mem _ hc)), ← e85 a ha (byt l % 2) (by omega), ← and_split (by omega) (by omega)]
    congr 1
    omega
theorem by_2 : ∀ l : List Nat, (∀ a ∈ l, a < 256) → (byt l / 4) &&& rp 51 l.length = byt (l.map (fun a => (a / 4) &&& 51)) := by
  intro l
  induction l with
  | nil => intro _; rfl
  | cons a l ih =>
    intro h
    have ha := h a (List.mem_cons_self ..)
    rw [byt, List.length_cons, rp, List.map_cons, byt, ← ih (fun c hc => h c (List.mem_cons_of_mem _ hc)), ← e51 a ha (byt l % 4) (by omega), ← and_split (by omega) (by omega)]
    congr 1
    omega
theorem by_3 : ∀ l : List Nat, (∀ a ∈ l, a < 256) → (byt l) &&& rp 51 l.length = byt (l.map (fun a => a &&& 51)) := by
  intro l
  induction l with
  | nil => intro _; rfl
  | cons a l ih =>
    intro h
    have ha := h a (List.mem_cons_self ..)
    rw [byt, List.length_cons, rp, List.map_cons, byt, ← ih (fun c hc => h c (List.mem_cons_of_mem _ hc)), and_split (by omega) (by omega)]
theorem by_4 : ∀ l : List Nat, (∀ a ∈ l, a < 80 ∧ a % 16 < 5) → (byt l + byt l / 16) &&& rp 15 l.length = byt (l.map (fun a => (a + a / 16) &&& 15)) ∧ byt l % 16 < 5 := by
  intro l
  induction l with
  | nil => intro _; exact ⟨rfl, by decide⟩
  | cons a l ih =>
    intro h
    obtain ⟨ha, ha'⟩ := h a (List.mem_cons_self ..)
    obtain ⟨h1, h2⟩ := ih (fun c hc => h c (List.mem_cons_of_mem _ hc))
    refine ⟨?_, by rw [byt]; omega⟩
    rw [byt, List.length_cons, rp, List.map_cons, byt, ← h1, ← e15 a ha (byt l % 16) (by omega), ← and_split (by omega) (by omega)]
    congr 1
    omega
theorem by_add : ∀ (l : List Nat) (f g : Nat → Nat), byt (l.map f) + byt (l.map g) = byt (l.map (fun a => f a + g a)) := by
  intro l f g
  induction l with
  | nil => rfl
  | cons a l ih => rw [List.map_cons, List.map_cons, List.map_cons, byt, byt, byt, ← ih]; omega
theorem by_sub : ∀ (l : List Nat) (g : Nat → Nat), (∀ a ∈ l, g a ≤ a) → byt (l.map g) ≤ byt l ∧ byt l - byt (l.map g) = byt (l.map (fun a => a - g a)) := by
  intro l g
  induction l with
  | nil => intro _; exact ⟨Nat.le_refl _, rfl⟩
  | cons a l ih =>
    intro h
    have ha := h a (List.mem_cons_self ..)
    obtain ⟨h1, h2⟩ := ih (fun c hc => h c (List.mem_cons_of_mem _ hc))
    rw [List.map_cons, List.map_cons, byt, byt, byt, ← h2]
    omega
theorem p8_t : ∀ a, a < 256 → (((a - ((a / 2) &&& 85)) &&& 51) + (((a - ((a / 2) &&& 85)) / 4) &&& 51) < 80 ∧ (((a - ((a / 2) &&& 85)) &&& 51) + (((a - ((a / 2) &&& 85)) / 4) &&& 51)) % 16 < 5) := by decide +kernel
theorem by_w (l : List Nat) (hl : l.length = 8) (h : ∀ a ∈ l, a < 256) : byt l / 2 &&& rp 85 8 ≤ byt l ∧ (((byt l - (byt l / 2 &&& rp 85 8)) &&& rp 51 8) + ((byt l - (byt l / 2 &&& rp 85 8)) / 4 &&& rp 51 8) + (((byt l - (byt l / 2 &&& rp 85 8)) &&& rp 51 8) + ((byt l - (byt l / 2 &&& rp 85 8)) / 4 &&& rp 51 8)) / 16) &&& rp 15 8 = byt (l.map p8) := by
  have e1 := by_1 l h
  rw [hl] at e1
  obtain ⟨e2, e3⟩ := by_sub l (fun a => (a / 2) &&& 85) (fun a ha => (p8_s a (h a ha)).1)
  rw [e1]
  refine ⟨e2, ?_⟩
  rw [e3]
  have h2 : ∀ a ∈ l.map (fun a => a - ((a / 2) &&& 85)), a < 256 := fun a ha => by
    obtain ⟨c, c1, c2⟩ := List.mem_map.mp ha
    rw [← c2]
    exact (p8_s c (h c c1)).2.1
  have e4 := by_3 _ h2
  have e5 := by_2 _ h2
  rw [List.length_map, hl, List.map_map] at e4 e5
  rw [e4, e5, by_add]
  have h3 : ∀ a ∈ l.map (fun a => ((fun a => a &&& 51) ∘ fun a => a - (a / 2 &&& 85)) a + ((fun a => a / 4 &&& 51) ∘ fun a => a - (a / 2 &&& 85)) a), a < 80 ∧ a % 16 < 5 := fun a ha => by
    obtain ⟨c, c1, c2⟩ := List.mem_map.mp ha
    rw [← c2]
    exact p8_t c (h c c1)
  have e6 := (by_4 _ h3).1
  rw [List.length_map, hl, List.map_map] at e6
  rw [e6]
  rfl
theorem by_f1 {A0 A1 A2 A3 A4 q0 q1 q2 q3 : Nat} (h0 : q0 ≤ 8) (h1 : q1 ≤ 8) (h2 : q2 ≤ 8) (h3 : q3 ≤ 8) (e0 : A0 = 256 * A1 + q0) (e1 : A1 = 256 * A2 + q1) (e2 : A2 = 256 * A3 + q2) (e3 : A3 = 256 * A4 + q3) : A0 = 4294967296 * A4 + (q0 + 256 * q1 + 65536 * q2 + 16777216 * q3) := by omega
theorem by_f2 {A0 A1 A2 A3 B0 B1 B2 B3 r0 r1 r2 r3 : Nat} (e0 : A0 = 4294967296 * B0 + r0) (e1 : A1 = 4294967296 * B1 + r1) (e2 : A2 = 4294967296 * B2 + r2) (e3 : A3 = 4294967296 * B3 + r3) (h : r0 + r1 + r2 + r3 < 4294967296) : (A0 + A1 + (A2 + A3)) / 4294967296 = B0 + B1 + (B2 + B3) := by omega
theorem by_f3 {A0 A1 A2 A3 q0 q1 q2 : Nat} (h0 : q0 ≤ 8) (h1 : q1 ≤ 8) (h2 : q2 ≤ 8) (e0 : A0 = 256 * A1 + q0) (e1 : A1 = 256 * A2 + q1) (e2 : A2 = 256 * A3 + q2) : A0 / 256 = A1 ∧ (A0 + A1) / 65536 = A2 + A3 := by omega
theorem by_fin (q0 q1 q2 q3 q4 q5 q6 q7 : Nat) (h0 : q0 ≤ 8) (h1 : q1 ≤ 8) (h2 : q2 ≤ 8) (h3 : q3 ≤ 8) (h4 : q4 ≤ 8) (h5 : q5 ≤ 8) (h6 : q6 ≤ 8) (h7 : q7 ≤ 8) (w w1 w2 w3 : Nat) (e0 : w = byt [q0, q1, q2, q3, q4, q5, q6, q7]) (e1 : w1 = w + w / 256) (e2 : w2 = w1 + w1 / 65536) (e3 : w3 = w2 + w2 / 4294967296) : w3 % 128 = q0 + q1 + q2 + q3 + q4 + q5 + q6 + q7 := by
  have g0 : w = 256 * byt [q1, q2, q3, q4, q5, q6, q7] + q0 := e0
  have g1 : byt [q1, q2, q3, q4, q5, q6, q7] = 256 * byt [q2, q3, q4, q5, q6, q7] + q1 := rfl
  have g2 : byt [q2, q3, q4, q5, q6, q7] = 256 * byt [q3, q4, q5, q6, q7] + q2 := rfl
  have g3 : byt [q3, q4, q5, q6, q7] = 256 * byt [q4, q5, q6, q7] + q3 := rfl
  have g4 : byt [q4, q5, q6, q7] = 256 * byt [q5, q6, q7] + q4 := rfl
  have g5 : byt [q5, q6, q7] = 256 * byt [q6, q7] + q5 := rfl
  have g6 : byt [q6, q7] = 256 * byt [q7] + q6 := rfl
  have g7 : byt [q7] = 256 * 0 + q7 := rfl
  generalize byt [q1, q2, q3, q4, q5, q6, q7] = A1 at *
  generalize byt [q2, q3, q4, q5, q6, q7] = A2 at *
  generalize byt [q3, q4, q5, q6, q7] = A3 at *
  generalize byt [q4, q5, q6, q7] = A4 at *
  generalize byt [q5, q6, q7] = A5 at *
  generalize byt [q6, q7] = A6 at *
  generalize byt [q7] = A7 at *
  clear e0
  obtain ⟨a1, a2⟩ := by_f3 h0 h1 h2 g0 g1 g2
  have f0 := by_f1 h0 h1 h2 h3 g0 g1 g2 g3
  have f1 := by_f1 h1 h2 h3 h4 g1 g2 g3 g4
  have f2 := by_f1 h2 h3 h4 h5 g2 g3 g4 g5
  have f3 := by_f1 h3 h4 h5 h6 g3 g4 g5 g6
  have a3 := by_f2 f0 f1 f2 f3 (by omega)
  rw [e1, a1] at e2
  rw [a2] at e2
  rw [e2, a3] at e3
  clear f0 f1 f2 f3 a1 a2 a3 e1 e2
  have s3 : w3 = 256 * (A1 + A2 + A3 + A4 + A5 + A6 + A7) + (q0 + q1 + q2 + q3 + q4 + q5 + q6 + q7) := by omega
  rw [s3]
  omega
