/-! PURE: who must agree: groups against walks -/
def Wk (A : Nat → Nat → Prop) : Nat → Nat → Nat → Prop
  | 0, x, y => x = y
  | k + 1, x, y => ∃ z, z < 5 ∧ A x z ∧ Wk A k z y
theorem Wk_m {A B : Nat → Nat → Prop} (h : ∀ x y, A x y → B x y) : ∀ k x y, Wk A k x y → Wk B k x y := by
  intro k
  induction k with
  | zero => intro x y q; exact q
  | succ k ih => intro x y ⟨z, z1, z2, z3⟩; exact ⟨z, z1, h _ _ z2, ih _ _ z3⟩
theorem Wk_t {A : Nat → Nat → Prop} : ∀ k l x y z, Wk A k x y → Wk A l y z → Wk A (k + l) x z := by
  intro k
  induction k with
  | zero => intro l x y z h g; rw [Nat.zero_add]; rw [show x = y from h]; exact g
  | succ k ih =>
    intro l x y z ⟨w, w1, w2, w3⟩ g
    rw [show k + 1 + l = (k + l) + 1 by omega]
    exact ⟨w, w1, w2, ih l w y z w3 g⟩
def eu1 (u v : Nat) : Nat := if u = v then 1 else 0
def sz (G : Nat → Nat) (v : Nat) : Nat := eu1 (G 0) v + eu1 (G 1) v + eu1 (G 2) v + eu1 (G 3) v + eu1 (G 4) v
theorem sz_5 (G : Nat → Nat) (v : Nat) : sz G v ≤ 5 := by
  have : ∀ u, eu1 u v ≤ 1 := fun u => by unfold eu1; split <;> omega
  have a := this (G 0)
  have b := this (G 1)
  have c := this (G 2)
  have d := this (G 3)
  have e := this (G 4)
  unfold sz
  omega
def Iv (A : Nat → Nat → Prop) (G : Nat → Nat) : Prop := (∀ x y, x < 5 → y < 5 → A x y → G x = G y) ∧ (∀ x, x < 5 → A x x) ∧ ∀ x y, x < 5 → y < 5 → G x = G y → ∃ k, k + 1 ≤ sz G (G x) ∧ Wk A k x y
/-- the group of q goes into that of p -/
def mg (G : Nat → Nat) (p q : Nat) : Nat → Nat := fun x => if G x = G q then G p else G x
def adE (A : Nat → Nat → Prop) (p q : Nat) : Nat → Nat → Prop := fun x y => A x y ∨ (x = p ∧ y = q) ∨ (x = q ∧ y = p)
theorem sz_sum {G : Nat → Nat} {p q : Nat} (h : G p ≠ G q) : sz (mg G p q) (G p) = sz G (G p) + sz G (G q) := by
  have t : ∀ i, eu1 (mg G p q i) (G p) = eu1 (G i) (G p) + eu1 (G i) (G q) := fun i => by
    unfold eu1 mg
    by_cases a : G i = G q
    · rw [if_pos a, if_pos rfl, if_pos a, if_neg (by rw [a]; exact fun w => h w.symm)]
    · rw [if_neg a, if_neg a]; omega
  unfold sz
  rw [t, t, t, t, t]
  omega
theorem sz_ge {G : Nat → Nat} {p q v : Nat} (h : v ≠ G q) : sz G v ≤ sz (mg G p q) v := by
  have t : ∀ i, eu1 (G i) v ≤ eu1 (mg G p q i) v := fun i => by
    unfold eu1 mg
    by_cases a : G i = v
    · rw [if_pos a, if_neg (show ¬ G i = G q by rw [a]; exact h), if_pos a]
      exact Nat.le_refl 1
    · rw [if_neg a]; exact Nat.zero_le _
  unfold sz
  have a := t 0
  have b := t 1
  have c := t 2
  have d := t 3
  have e := t 4
  omega
theorem Iv_add {A : Nat → Nat → Prop} {G : Nat → Nat} (h : Iv A G) {p q : Nat} (hp : p < 5) (hq : q < 5) : Iv (adE A p q) (mg G p q) := by
  obtain ⟨h1, h2, h3⟩ := h
  have mono : ∀ x y, A x y → adE A p q x y := fun x y w => Or.inl w
  by_cases e : G p = G q
  · have eG : mg G p q = G := by
      funext x
      unfold mg
      by_cases w : G x = G q
      · rw [if_pos w, e, w]
      · rw [if_neg w]
    rw [eG]
    refine ⟨fun x y hx hy w => ?_, fun x hx => Or.inl (h2 x hx), fun x y hx hy w => ?_⟩
    · rcases w with w | ⟨w1, w2⟩ | ⟨w1, w2⟩
      · exact h1 x y hx hy w
      · rw [w1, w2]; exact e
      · rw [w1, w2]; exact e.symm
    · obtain ⟨k, k1, k2⟩ := h3 x y hx hy w
      exact ⟨k, k1, Wk_m mono k x y k2⟩
  · have gp : mg G p q p = G p := if_neg e
    have gq : mg G p q q = G p := if_pos rfl
    refine ⟨fun x y hx hy w => ?_, fun x hx => Or.inl (h2 x hx), fun x y hx hy w => ?_⟩
    · rcases w with w | ⟨w1, w2⟩ | ⟨w1, w2⟩
      · have := h1 x y hx hy w
        unfold mg
        rw [this]
      · rw [w1, w2, gp, gq]
      · rw [w1, w2, gp, gq]
    · have sum := sz_sum e
      by_cases a : G x = G q
      · have ex : mg G p q x = G p := if_pos a
        by_cases c : G y = G q
        · obtain ⟨k, k1, k2⟩ := h3 x y hx hy (by rw [a, c])
          rw [a] at k1
          exact ⟨k, by rw [ex]; omega, Wk_m mono k x y k2⟩
        · have ey : mg G p q y = G y := if_neg c
          rw [ex, ey] at w
          obtain ⟨k, k1, k2⟩ := h3 x q hx hq a
          obtain ⟨l, l1, l2⟩ := h3 p y hp hy w
          rw [a] at k1
          refine ⟨k + (l + 1), by rw [ex]; omega, Wk_t k (l + 1) x q y (Wk_m mono k x q k2) ⟨p, hp, Or.inr (Or.inr ⟨rfl, rfl⟩), Wk_m mono l p y l2⟩⟩
      · have ex : mg G p q x = G x := if_neg a
        by_cases c : G y = G q
        · have ey : mg G p q y = G p := if_pos c
          rw [ex, ey] at w
          obtain ⟨k, k1, k2⟩ := h3 x p hx hp w
          obtain ⟨l, l1, l2⟩ := h3 q y hq hy c.symm
          rw [w] at k1
          refine ⟨k + (l + 1), by rw [ex, w]; omega, Wk_t k (l + 1) x p y (Wk_m mono k x p k2) ⟨q, hq, Or.inr (Or.inl ⟨rfl, rfl⟩), Wk_m mono l q y l2⟩⟩
        · have ey : mg G p q y = G y := if_neg c
          rw [ex, ey] at w
          obtain ⟨k, k1, k2⟩ := h3 x y hx hy w
          have := sz_ge (G := G) (p := p) (q := q) a
          exact ⟨k, by rw [ex]; omega, Wk_m mono k x y k2⟩
/-- two rounds of closing suffice -/
theorem Wk_4 {A : Nat → Nat → Prop} (hr : ∀ x, x < 5 → A x x) : ∀ k x y, k ≤ 4 → x < 5 → Wk A k x y → ∃ z w v, z < 5 ∧ w < 5 ∧ v < 5 ∧ A x z ∧ A z w ∧ A w v ∧ A v y := by
  intro k x y hk hx h
  match k, hk, h with
  | 0, _, h => rw [show x = y from h] at hx ⊢; exact ⟨y, y, y, hx, hx, hx, hr y hx, hr y hx, hr y hx, hr y hx⟩
  | 1, _, h =>
    obtain ⟨z, z1, z2, z3⟩ := h
    rw [show z = y from z3] at z1 z2
    exact ⟨y, y, y, z1, z1, z1, z2, hr y z1, hr y z1, hr y z1⟩
  | 2, _, h =>
    obtain ⟨z, z1, z2, w, w1, w2, w3⟩ := h
    rw [show w = y from w3] at w1 w2
    exact ⟨z, y, y, z1, w1, w1, z2, w2, hr y w1, hr y w1⟩
  | 3, _, h =>
    obtain ⟨z, z1, z2, w, w1, w2, v, v1, v2, v3⟩ := h
    rw [show v = y from v3] at v1 v2
    exact ⟨z, w, y, z1, w1, v1, z2, w2, v2, hr y v1⟩
  | 4, _, h =>
    obtain ⟨z, z1, z2, w, w1, w2, v, v1, v2, u, u1, u2, u3⟩ := h
    rw [show u = y from u3] at u2
    exact ⟨z, w, v, z1, w1, v1, z2, w2, v2, u2⟩
/-! the state of both sides while they agree -/
def Ga (M : Mem) (G : Nat → Nat → Nat) : Prop := ∀ t a, t < 12 → a < 5 → M.1 (62 + t) a = nI (G t a) ∧ G t a < 5
def Aa (R : Mem) : Prop := ∀ i, i < 300 → R.1 24 i = 0 ∨ R.1 24 i = 1
def Ar2 (R : Mem) (t : Nat) : Nat → Nat → Prop := fun a c => R.1 24 (25 * t + 5 * a + c) = 1
def Js (M R : Mem) (G : Nat → Nat → Nat) : Prop := Ga M G ∧ Aa R ∧ ∀ t, t < 12 → Iv (Ar2 R t) (G t)
theorem Iv_c {A B : Nat → Nat → Prop} {G H : Nat → Nat} (h : Iv A G) (e : ∀ x y, x < 5 → y < 5 → (A x y ↔ B x y)) (g : ∀ x, x < 5 → G x = H x) : Iv B H := by
  obtain ⟨h1, h2, h3⟩ := h
  have wk : ∀ k x y, x < 5 → Wk A k x y → Wk B k x y := by
    intro k
    induction k with
    | zero => intro x y _ q; exact q
    | succ k ih => intro x y hx ⟨z, z1, z2, z3⟩; exact ⟨z, z1, (e x z hx z1).mp z2, ih z y z1 z3⟩
  have szz : ∀ v, sz G v = sz H v := fun v => by
    unfold sz
    rw [g 0 (by omega), g 1 (by omega), g 2 (by omega), g 3 (by omega), g 4 (by omega)]
  refine ⟨fun x y hx hy q => ?_, fun x hx => (e x x hx hx).mp (h2 x hx), fun x y hx hy q => ?_⟩
  · rw [← g x hx, ← g y hy]; exact h1 x y hx hy ((e x y hx hy).mpr q)
  · rw [← g x hx, ← g y hy] at q
    obtain ⟨k, k1, k2⟩ := h3 x y hx hy q
    refine ⟨k, ?_, wk k x y hx k2⟩
    rw [← szz, ← g x hx]; exact k1
/-- the class's frame while it agrees -/
def Fc (M N : Mem) : Prop := (∀ a, a ≤ 6 ∨ (8 ≤ a ∧ a ≤ 61) → N.1 a = M.1 a) ∧ N.2 = M.2
theorem Fc_r (M : Mem) : Fc M M := ⟨fun _ _ => rfl, rfl⟩
theorem Fc_t {M N O : Mem} (h : Fc M N) (g : Fc N O) : Fc M O := ⟨fun a ha => by rw [g.1 a ha, h.1 a ha], by rw [g.2, h.2]⟩
theorem Fc_u {M N : Mem} (h : Fc M N) {c i : Nat} {v : Int32} (hc : 62 ≤ c ∨ c = 7) : Fc M (u1 N c i v) := ⟨fun a ha => by rw [u1_ne (by omega)]; exact h.1 a ha, h.2⟩
theorem Fc_Sw {M N : Mem} (h : Sw M N) : Fc M N := ⟨fun a ha => h.1 a (by omega), h.2⟩
theorem Fc_Bo {b : Sp} {M N R : Mem} (h : Bo b M R) (g : Fc M N) : Bo b N R := ⟨h.1, CB_k h.2.1 ⟨fun a ha => g.1 a (by omega), fun a _ => by rw [g.2]⟩, LK_k h.1 h.2.2.1 (fun a a1 a2 => g.1 a (by omega)) (by rw [g.2]), h.2.2.2⟩
/-- the reference's frame while it agrees -/
def Lp (M N : Mem) : Prop := ∀ a, a < 21 → N.1 a = M.1 a
theorem Lp_q {M N : Mem} (h : Lq M N) : Lp M N := fun a ha => h a (by omega)
theorem Lp_t {M N O : Mem} (h : Lp M N) (g : Lp N O) : Lp M O := fun a ha => by rw [g a ha, h a ha]
theorem Lp_u {M N : Mem} (h : Lp M N) {c i : Nat} {v : Int32} (hc : 21 ≤ c) : Lp M (u1 N c i v) := fun a ha => by rw [u1_ne (by omega)]; exact h a ha
theorem Lp_Bo {b : Sp} {M R R' : Mem} (h : Bo b M R) (g : Lp R R') : Bo b M R' := by
  refine ⟨h.1, h.2.1, h.2.2.1, RB_Lo h.2.2.2.1 (fun a ha => g a (by omega)), fun y y1 y2 => ?_, h.2.2.2.2.2⟩
  rw [g 16 (by omega), g 17 (by omega), g 18 (by omega), g 19 (by omega), g 20 (by omega)]
  exact h.2.2.2.2.1 y y1 y2
/-- calls in between leave the state -/
theorem Js_k {M M' R R' : Mem} {G : Nat → Nat → Nat} (h : Js M R G) (s : ∀ a, 62 ≤ a → a ≤ 73 → M'.1 a = M.1 a) (l : R'.1 24 = R.1 24) : Js M' R' G := by
  refine ⟨fun t a ht ha => ?_, fun i hi => ?_, fun t ht => ?_⟩
  · rw [s (62 + t) (by omega) (by omega)]; exact h.1 t a ht ha
  · rw [l]; exact h.2.1 i hi
  · have := h.2.2 t ht
    unfold Ar2 at this ⊢
    rw [l]; exact this
