/-! PURE: who must agree: one more pair, both sides -/
def up2 (G : Nat → Nat → Nat) (t : Nat) (H : Nat → Nat) : Nat → Nat → Nat := fun t' => if t' = t then H else G t'
theorem up2_e {G : Nat → Nat → Nat} {t : Nat} {H : Nat → Nat} : up2 G t H t = H := if_pos rfl
theorem up2_n {G : Nat → Nat → Nat} {t t' : Nat} {H : Nat → Nat} (h : t' ≠ t) : up2 G t H t' = G t' := if_neg h
theorem c_join_L {G : Nat → Nat → Nat} {t p q : Nat} (ht : t < 12) (hp : p < 5) (hq : q < 5) {τ : Type} (ke : Mem → Option τ) : ∀ r f i M, r < f → i + r = 5 → (∀ a, a < 5 → G t a < 5) → (∀ a, a < i → M.1 (62 + t) a = nI (mg (G t) p q a)) → (∀ a, i ≤ a → a < 5 → M.1 (62 + t) a = nI (G t a)) → ∃ N, f_Agreements_join_L30 (nI t) (nI (G t p)) (nI (G t q)) ke f (nI i) M = ke N ∧ (∀ a, a ≠ 62 + t → N.1 a = M.1 a) ∧ N.2 = M.2 ∧ ∀ a, a < 5 → N.1 (62 + t) a = nI (mg (G t) p q a) := by
  intro r
  induction r with
  | zero =>
    intro f i M hf hi hG h1 h2
    obtain ⟨f, rfl⟩ : ∃ g, f = g + 1 := ⟨f - 1, by omega⟩
    rw [f_Agreements_join_L30, l5, i_le (by omega) (by omega), if_pos (by omega)]
    exact ⟨M, rfl, fun _ _ => rfl, rfl, fun a ha => h1 a (by omega)⟩
  | succ r ih =>
    intro f i M hf hi hG h1 h2
    obtain ⟨f, rfl⟩ : ∃ g, f = g + 1 := ⟨f - 1, by omega⟩
    have gi := hG i (by omega)
    have gq := hG q hq
    rw [f_Agreements_join_L30, l5, i_le (by omega) (by omega), if_neg (by omega)]
    simp (disch := omega) only [gd_n, n_cl]
    rw [h2 i (Nat.le_refl i) (by omega), i_eq (by omega) (by omega), sm_s, show nI i + (1 : Int32) = nI (i + 1) from n_add i 1]
    by_cases e : G t i = G t q
    · have em : mg (G t) p q i = G t p := if_pos e
      rw [if_pos e]
      obtain ⟨N, n1, n2, n3, n4⟩ := ih f (i + 1) (u1 M (62 + t) i (nI (G t p))) (by omega) (by omega) hG (fun a ha => by
        rw [u1_eq]
        by_cases z : a = i
        · rw [if_pos z, z, em]
        · rw [if_neg z]; exact h1 a (by omega)) (fun a a1 a2 => by
        rw [u1_eq, if_neg (by omega)]; exact h2 a (by omega) a2)
      exact ⟨N, n1, fun a ha => by rw [n2 a ha, u1_ne ha], n3, n4⟩
    · have em : mg (G t) p q i = G t i := if_neg e
      rw [if_neg e]
      exact ih f (i + 1) M (by omega) (by omega) hG (fun a ha => by
        by_cases z : a = i
        · rw [z, em]; exact h2 i (Nat.le_refl i) (by omega)
        · exact h1 a (by omega)) (fun a a1 a2 => h2 a (by omega) a2)
theorem mg_lt {G : Nat → Nat} {p q : Nat} (hp : G p < 5) {a : Nat} (ha : G a < 5) : mg G p q a < 5 := by
  unfold mg
  split
  · exact hp
  · exact ha
theorem b_edge {M R : Mem} {G : Nat → Nat → Nat} (h : Js M R G) {t p q : Nat} (ht : t ≤ 12) (hp : p < 5) (hq : q < 5) : ∃ M' R' G', f_Agreements_join M (nI t) (nI p) (nI q) = some M' ∧ f_LinkAuditModel_must R (nI t) (nI q) (nI p) = some R' ∧ Js M' R' G' ∧ Fc M M' ∧ Lp R R' := by
  obtain ⟨hG, hA, hI⟩ := h
  unfold f_Agreements_join f_LinkAuditModel_must
  rw [l12, i_eq (by omega) (by omega), i_eq (by omega) (by omega)]
  by_cases e : t = 12
  · rw [if_pos e, if_pos e]
    exact ⟨M, R, G, rfl, rfl, ⟨hG, hA, hI⟩, Fc_r M, fun _ _ => rfl⟩
  · have ht' : t < 12 := by omega
    obtain ⟨fu, hfu⟩ := FU_s (r := 5) (by omega)
    rw [if_neg e, if_neg e]
    simp (disch := omega) only [gd_n, n_cl]
    rw [(hG t p ht' hp).1, (hG t q ht' hq).1]
    obtain ⟨N, n1, n2, n3, n4⟩ := c_join_L (G := G) ht' hp hq (fun M2 => some M2) 5 FU 0 M (by omega) (by omega) (fun a ha => (hG t a ht' ha).2) (fun a ha => by omega) (fun a _ ha => (hG t a ht' ha).1)
    rw [show (0 : Int32) = nI 0 from rfl, n1, l25, l5, n_mul, n_mul, n_mul, n_add, n_add, n_add, n_add]
    simp (disch := omega) only [gd_n, n_cl, sm_s]
    have at' : ∀ i, (u1 (u1 R 24 (25 * t + 5 * q + p) 1) 24 (25 * t + 5 * p + q) 1).1 24 i = if i = 25 * t + 5 * p + q then 1 else if i = 25 * t + 5 * q + p then 1 else R.1 24 i := fun i => by
      rw [u1_eq, u1_eq]
    refine ⟨N, _, up2 G t (mg (G t) p q), rfl, rfl, ⟨fun t' a h1 h2 => ?_, fun i hi => ?_, fun t' h1 => ?_⟩, ⟨fun a ha => n2 a (by omega), n3⟩, Lp_u (Lp_u (fun _ _ => rfl) (by omega)) (by omega)⟩
    · by_cases z : t' = t
      · rw [z, up2_e]
        exact ⟨n4 a h2, mg_lt (hG t p ht' hp).2 (hG t a ht' h2).2⟩
      · rw [up2_n z, n2 (62 + t') (by omega)]
        exact hG t' a h1 h2
    · rw [at']
      by_cases z : i = 25 * t + 5 * p + q
      · rw [if_pos z]; exact Or.inr rfl
      · rw [if_neg z]
        by_cases z' : i = 25 * t + 5 * q + p
        · rw [if_pos z']; exact Or.inr rfl
        · rw [if_neg z']; exact hA i hi
    · by_cases z : t' = t
      · rw [z, up2_e]
        refine Iv_c (Iv_add (hI t ht') hp hq) (fun x y hx hy => ?_) (fun _ _ => rfl)
        unfold adE Ar2
        rw [at']
        constructor
        · rintro (w | ⟨w1, w2⟩ | ⟨w1, w2⟩)
          · by_cases z1 : 25 * t + 5 * x + y = 25 * t + 5 * p + q
            · rw [if_pos z1]
            · rw [if_neg z1]
              by_cases z2 : 25 * t + 5 * x + y = 25 * t + 5 * q + p
              · rw [if_pos z2]
              · rw [if_neg z2]; exact w
          · rw [w1, w2, if_pos rfl]
          · rw [w1, w2]
            by_cases z1 : 25 * t + 5 * q + p = 25 * t + 5 * p + q
            · rw [if_pos z1]
            · rw [if_neg z1, if_pos rfl]
        · intro w
          by_cases z1 : 25 * t + 5 * x + y = 25 * t + 5 * p + q
          · exact Or.inr (Or.inl ⟨by omega, by omega⟩)
          · rw [if_neg z1] at w
            by_cases z2 : 25 * t + 5 * x + y = 25 * t + 5 * q + p
            · exact Or.inr (Or.inr ⟨by omega, by omega⟩)
            · rw [if_neg z2] at w
              exact Or.inl w
      · rw [up2_n z]
        refine Iv_c (hI t' h1) (fun x y hx hy => ?_) (fun _ _ => rfl)
        unfold Ar2
        rw [at', if_neg (by omega), if_neg (by omega)]
theorem c_first {b : Sp} {M : Mem} (hv : BV b) (hc : CB b M) {m : Nat} (h : mr b m) : f_Members_firstType M (nI m) = some (nI (b 12 m)) ∧ f_Members_secondType M (nI m) = some (nI (b 13 m)) := by
  obtain ⟨m40, m1, m2, m3, m4, m5, m6, m7⟩ := m_lt hv h
  have hs := sig_lt m3 m4 m5 m6
  have e := (hc.2.2.2.2.1 m h.1 h.2).2.1
  unfold f_Members_firstType f_Members_secondType
  rw [gd_n (by omega) (by omega), gd_n (by omega) (by omega), n_cl (by omega), e, l13, n_div (a := sig (b 10 m) (b 11 m) (b 12 m) (b 13 m)) (d := 13) (by omega) (by omega) (by omega), n_rem (a := sig (b 10 m) (b 11 m) (b 12 m) (b 13 m) / 13) (d := 13) (by omega) (by omega) (by omega), ← n_div (a := sig (b 10 m) (b 11 m) (b 12 m) (b 13 m)) (d := 13) (by omega) (by omega) (by omega), n_rem (a := sig (b 10 m) (b 11 m) (b 12 m) (b 13 m)) (d := 13) (by omega) (by omega) (by omega)]
  have e1 : sig (b 10 m) (b 11 m) (b 12 m) (b 13 m) / 13 % 13 = b 12 m := by unfold sig; omega
  have e2 : sig (b 10 m) (b 11 m) (b 12 m) (b 13 m) % 13 = b 13 m := by unfold sig; omega
  rw [e1, e2]
  exact ⟨rfl, rfl⟩
/-- a member's types, between its owner's loader and the user's -/
theorem b_types {b : Sp} {M R : Mem} {G : Nat → Nat → Nat} (h : Bo b M R) (hj : Js M R G) {m d : Nat} (hm : mr b m) (d1 : 1 ≤ d) (d2 : d ≤ nC b) : ∃ M' R' G', f_LinkAudit_agreeOnTypes M (nI m) (nI d) = some M' ∧ f_LinkAuditModel_mustBoth R (nI m) (nI (b 4 d)) (nI (b 4 (b 9 m))) = some R' ∧ Js M' R' G' ∧ Fc M M' ∧ Lp R R' := by
  have hv := h.1
  have h16 := hv.1.1
  obtain ⟨m40, m1, m2, m3, m4, m5, m6, m7⟩ := m_lt hv hm
  have ld := hv.2.2.1 d d1 d2
  have lo := hv.2.2.1 (b 9 m) m1 m2
  unfold f_LinkAudit_agreeOnTypes f_LinkAuditModel_mustBoth
  simp (disch := omega) only [gd_n, n_cl]
  rw [(h.2.1.2.2.2.2.1 m hm.1 hm.2).1, gd_n (by omega) (by omega), n_cl (by omega), (h.2.1.2.2.2.1 d d1 d2).1, (h.2.1.2.2.2.1 _ m1 m2).1, (c_first hv h.2.1 hm).1, bd1_s, h.2.2.2.1.2.2.2 12 (by omega) (by omega)]
  obtain ⟨M1, R1, G1, a1, a2, a3, a4, a5⟩ := b_edge hj (t := b 12 m) (p := b 4 (b 9 m)) (q := b 4 d) (by omega) (by omega) (by omega)
  have h1 : Bo b M1 R1 := Lp_Bo (Fc_Bo h a4) a5
  rw [a1, a2, bd1_s, bd1_s, (c_first hv h1.2.1 hm).2, bd1_s, h1.2.2.2.1.2.2.2 13 (by omega) (by omega)]
  obtain ⟨M2, R2, G2, c1, c2, c3, c4, c5⟩ := b_edge a3 (t := b 13 m) (p := b 4 (b 9 m)) (q := b 4 d) (by omega) (by omega) (by omega)
  rw [c1, c2, bd1_s, bd1_s]
  exact ⟨M2, R2, G2, rfl, rfl, c3, Fc_t a4 c4, Lp_t a5 c5⟩
