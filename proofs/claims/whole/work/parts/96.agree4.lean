/-! PURE: who must agree: overriding methods, closing, listing -/
theorem sq_b {n : Nat} (h : n ≤ 40) : n * n ≤ 1600 := Nat.mul_le_mul h h
theorem row_lt {u w n : Nat} (hu : u < n) (hw : w < n) : u * n + w < n * n := by
  have : (u + 1) * n ≤ n * n := Nat.mul_le_mul_right _ hu
  rw [Nat.add_mul] at this
  omega
theorem row_d {u w n : Nat} (hw : w < n) : (u * n + w) / n = u ∧ (u * n + w) % n = w := by
  rw [Nat.mul_comm]
  exact ⟨by rw [Nat.mul_add_div (by omega), Nat.div_eq_of_lt hw]; rfl, by rw [Nat.mul_add_mod, Nat.mod_eq_of_lt hw]⟩
theorem b_ov1 {b : Sp} {σ τ : Type} (ke : Mem → Option σ) (qe : Mem → Option τ) {u : Nat} (hu : u < nM b) : ∀ r f f' w M R G, r < f → w + r = nM b → Bo b M R → Js M R G → ∃ M' R' G', f_LinkAudit_agree_L88 (nI (u + 1)) ke f (nI (w + 1)) M = ke M' ∧ f_LinkAuditModel_constrain_L108 qe (f' + r) (nI (u * nM b + w)) R = f_LinkAuditModel_constrain_L108 qe f' (nI (u * nM b + nM b)) R' ∧ Js M' R' G' ∧ Fc M M' ∧ Lp R R' := by
  intro r
  induction r with
  | zero =>
    intro f f' w M R G hf hw h hj
    have h40 := h.1.1.2.1
    obtain ⟨f, rfl⟩ : ∃ g, f = g + 1 := ⟨f - 1, by omega⟩
    rw [f_LinkAudit_agree_L88, h.2.1.1.2.1, i_lt (by omega) (by omega), if_pos (by omega)]
    have : w = nM b := by omega
    rw [this]
    exact ⟨M, R, G, rfl, rfl, hj, Fc_r M, fun _ _ => rfl⟩
  | succ r ih =>
    intro f f' w M R G hf hw h hj
    obtain ⟨f, rfl⟩ : ∃ g, f = g + 1 := ⟨f - 1, by omega⟩
    have hv := h.1
    have h40 := hv.1.2.1
    have h16 := hv.1.1
    have hm : mr b (u + 1) := ⟨by omega, by omega⟩
    have ho : mr b (w + 1) := ⟨by omega, by omega⟩
    obtain ⟨m40, m1, m2, m3, -⟩ := m_lt hv hm
    obtain ⟨o40, o1, o2, o3, -⟩ := m_lt hv ho
    have hw' : w < nM b := by omega
    have sq := sq_b h40
    have lt := row_lt hu hw'
    obtain ⟨dv, md⟩ := row_d (u := u) hw'
    have n1 : nI (w + 1) + (1 : Int32) = nI (w + 1 + 1) := n_add (w + 1) 1
    have n2 : nI (u * nM b + w) + (1 : Int32) = nI (u * nM b + (w + 1)) := n_add (u * nM b + w) 1
    have skip : ∀ R1, Lq R R1 → ∃ M' R' G', f_LinkAudit_agree_L88 (nI (u + 1)) ke f (nI (w + 1 + 1)) M = ke M' ∧ f_LinkAuditModel_constrain_L108 qe (f' + r) (nI (u * nM b + (w + 1))) R1 = f_LinkAuditModel_constrain_L108 qe f' (nI (u * nM b + nM b)) R' ∧ Js M' R' G' ∧ Fc M M' ∧ Lp R R' := fun R1 lq => by
      obtain ⟨M', R', G', w1, w2, w3, w4, w5⟩ := ih f f' (w + 1) M R1 G (by omega) (by omega) (Bo_q h lq) (Js_k hj (fun _ _ _ => rfl) (lq 24 (by omega)))
      exact ⟨M', R', G', w1, w2, w3, w4, Lp_t (Lp_q lq) w5⟩
    -- the reference's step
    have ref : f_LinkAuditModel_constrain_L108 qe (f' + r + 1) (nI (u * nM b + w)) R = f_LinkAuditModel_constrain_b176 R (nI (u * nM b + w)) (nI (u + 1)) (nI (w + 1)) (if b 10 (u + 1) ≠ 0 ∧ b 10 (w + 1) ≠ 0 ∧ cde b (b 9 (u + 1)) = 0 then 1 else 0) (f_LinkAuditModel_constrain_L108 qe (f' + r)) qe := by
      rw [f_LinkAuditModel_constrain_L108, h.2.2.2.1.2.1, n_mul, i_le (by omega) (by omega), if_neg (show ¬ nM b * nM b ≤ u * nM b + w by omega), gd_p (show ¬ nI (nM b) = 0 by rw [l0, n_eq (by omega) (by omega)]; omega), gd_p (show ¬ nI (nM b) = 0 by rw [l0, n_eq (by omega) (by omega)]; omega), n_div (a := u * nM b + w) (d := nM b) (by omega) (by omega) (by omega), ← n_div (a := u * nM b + w) (d := nM b) (by omega) (by omega) (by omega), n_rem (a := u * nM b + w) (d := nM b) (by omega) (by omega) (by omega), n_div (a := u * nM b + w) (d := nM b) (by omega) (by omega) (by omega), dv, md, show (1 : Int32) + nI u = nI (u + 1) by rw [l1, n_add, Nat.add_comm], show (1 : Int32) + nI w = nI (w + 1) by rw [l1, n_add, Nat.add_comm]]
      unfold f_LinkAuditModel_constrain_b175
      simp (disch := omega) only [gd_n, n_cl]
      rw [h.2.2.2.1.2.2.2 10 (by omega) (by omega), h.2.2.2.1.2.2.2 10 (by omega) (by omega), h.2.2.2.1.2.2.2 9 (by omega) (by omega), gd_n (show b 9 (u + 1) < 17 by omega) (by omega), n_cl (show b 9 (u + 1) < 1000000 by omega), (h.2.2.2.2.1 _ m1 m2).1, i_eq0 (by omega), i_eq0 (by omega)]
      by_cases e1 : b 10 (u + 1) = 0
      · rw [if_pos e1, if_neg (fun q => q.1 e1)]
      · rw [if_neg e1]
        by_cases e2 : b 10 (w + 1) = 0
        · rw [if_pos e2, if_neg (fun q => q.2.1 e2)]
        · rw [if_neg e2]
          by_cases e3 : cde b (b 9 (u + 1)) = 0
          · rw [if_pos e3, if_pos ⟨e1, e2, e3⟩]
          · rw [if_neg e3, if_neg (fun q => e3 q.2.2)]
    rw [← Nat.add_assoc, ref, f_LinkAudit_agree_L88, h.2.1.1.2.1, i_lt (by omega) (by omega), if_neg (show ¬ nM b < w + 1 by omega)]
    unfold f_LinkAuditModel_constrain_b176
    rw [i_hb, n1, n2, gd_n (show u + 1 < 41 by omega) (by omega), n_cl (show u + 1 < 1000000 by omega), (h.2.1.2.2.2.2.1 _ hm.1 hm.2).1]
    rcases c_over hv h.2.1 h.2.2.1 hm ho with ⟨c1, c2⟩ | ⟨c1, c2⟩
    · have g := (cde_0 hv m1 m2).mp c2.1
      rw [c1, bd1_s, i1, if_pos ⟨by have := c2.2.2.2.1.1; omega, by have := c2.2.2.2.2.1.1; omega, c2.1⟩]
      obtain ⟨R1, lq, q⟩ := r_over hv h.2.2.2.1 h.2.2.2.2 hm ho g
      rcases q with ⟨q1, q2⟩ | ⟨q1, q2⟩
      · have h1 : Bo b M R1 := Bo_q h lq
        have j1 : Js M R1 G := Js_k hj (fun _ _ _ => rfl) (lq 24 (by omega))
        rw [q1, bd2_s, i1]
        simp (disch := omega) only [gd_n, n_cl]
        rw [h1.2.2.2.1.2.2.2 9 (by omega) (by omega), h1.2.2.2.1.2.2.2 9 (by omega) (by omega), gd_n (show b 9 (u + 1) < 17 by omega) (by omega), gd_n (show b 9 (w + 1) < 17 by omega) (by omega), n_cl (show b 9 (u + 1) < 1000000 by omega), n_cl (show b 9 (w + 1) < 1000000 by omega), h1.2.2.2.1.2.2.2 4 (by omega) (by omega), h1.2.2.2.1.2.2.2 4 (by omega) (by omega)]
        obtain ⟨M2, R2, G2, t1, t2, t3, t4, t5⟩ := b_types h1 j1 ho m1 m2
        rw [t1, t2, bd1_s, bd1_s]
        obtain ⟨M', R', G', w1, w2, w3, w4, w5⟩ := ih f f' (w + 1) M2 R2 G2 (by omega) (by omega) (Lp_Bo (Fc_Bo h1 t4) t5) t3
        exact ⟨M', R', G', w1, w2, w3, Fc_t t4 w4, Lp_t (Lp_q lq) (Lp_t t5 w5)⟩
      · exact absurd c2.2 q2
    · rw [c1, bd1_s, i0]
      by_cases e : b 10 (u + 1) ≠ 0 ∧ b 10 (w + 1) ≠ 0 ∧ cde b (b 9 (u + 1)) = 0
      · rw [if_pos e]
        have g := (cde_0 hv m1 m2).mp e.2.2
        obtain ⟨R1, lq, q⟩ := r_over hv h.2.2.2.1 h.2.2.2.2 hm ho g
        rcases q with ⟨q1, q2⟩ | ⟨q1, q2⟩
        · exact absurd ⟨e.2.2, q2⟩ c2
        · rw [q1, bd2_s, i0]
          exact skip R1 lq
      · rw [if_neg e]
        exact skip R (Lq_r R)
theorem b_ov {b : Sp} {σ τ : Type} (ke : Mem → Option σ) (qe : Mem → Option τ) : ∀ r f f' u M R G, r < f → r * nM b < f' → u + r = nM b → Bo b M R → Js M R G → ∃ M' R' G', f_LinkAudit_agree_L75 ke f (nI (u + 1)) M = ke M' ∧ f_LinkAuditModel_constrain_L108 qe f' (nI (u * nM b)) R = qe R' ∧ Js M' R' G' ∧ Fc M M' ∧ Lp R R' := by
  obtain ⟨fu, hfu⟩ := FU_s (r := 40) (by omega)
  intro r
  induction r with
  | zero =>
    intro f f' u M R G hf hf' hu h hj
    have h40 := h.1.1.2.1
    have sq := sq_b h40
    obtain ⟨f, rfl⟩ : ∃ g, f = g + 1 := ⟨f - 1, by omega⟩
    obtain ⟨f', rfl⟩ : ∃ g, f' = g + 1 := ⟨f' - 1, by omega⟩
    have : u = nM b := by omega
    rw [this, f_LinkAudit_agree_L75, h.2.1.1.2.1, i_lt (by omega) (by omega), if_pos (by omega), f_LinkAuditModel_constrain_L108, h.2.2.2.1.2.1, n_mul, i_le (by omega) (by omega), if_pos (Nat.le_refl _)]
    exact ⟨M, R, G, rfl, rfl, hj, Fc_r M, fun _ _ => rfl⟩
  | succ r ih =>
    intro f f' u M R G hf hf' hu h hj
    have h40 := h.1.1.2.1
    obtain ⟨f, rfl⟩ : ∃ g, f = g + 1 := ⟨f - 1, by omega⟩
    rw [Nat.add_mul] at hf'
    obtain ⟨f'', hf''⟩ : ∃ g, f' = g + nM b := ⟨f' - nM b, by omega⟩
    rw [hf'', f_LinkAudit_agree_L75, h.2.1.1.2.1, i_lt (by omega) (by omega), if_neg (show ¬ nM b < u + 1 by omega), show nI (u + 1) + (1 : Int32) = nI (u + 1 + 1) from n_add (u + 1) 1]
    obtain ⟨M1, R1, G1, a1, a2, a3, a4, a5⟩ := b_ov1 (b := b) (fun M8 => f_LinkAudit_agree_L75 ke f (nI (u + 1 + 1)) M8) qe (show u < nM b by omega) (nM b) FU f'' 0 M R G (by omega) (by omega) h hj
    rw [show nI (0 + 1) = (1 : Int32) from rfl, Nat.add_zero] at *
    rw [a1, a2, show u * nM b + nM b = (u + 1) * nM b by rw [Nat.add_mul]; omega]
    obtain ⟨M', R', G', w1, w2, w3, w4, w5⟩ := ih f f'' (u + 1) M1 R1 G1 (by omega) (by omega) (by omega) (Lp_Bo (Fc_Bo h a4) a5) a3
    exact ⟨M', R', G', w1, w2, w3, Fc_t a4 w4, Lp_t a5 w5⟩
/-! closing -/
theorem d_25 {i : Nat} (h : i < 1500) : ((nI i / (125 : Int32)) * (25 : Int32)) = nI (25 * (i / 125)) ∧ ((5 : Int32) * ((nI i / (25 : Int32)) - (nI i / (25 : Int32)) / (5 : Int32) * (5 : Int32))) = nI (5 * (i / 25 % 5)) ∧ ((nI i / (5 : Int32)) - (nI i / (5 : Int32)) / (5 : Int32) * (5 : Int32)) = nI (i / 5 % 5) ∧ (nI i - nI i / (5 : Int32) * (5 : Int32)) = nI (i % 5) := by
  rw [l125, l25, l5, n_div (a := i) (d := 125) (by omega) (by omega) (by omega), n_div (a := i) (d := 25) (by omega) (by omega) (by omega), n_rem (a := i) (d := 5) (by omega) (by omega) (by omega), n_div (a := i) (d := 5) (by omega) (by omega) (by omega), n_rem (a := i / 25) (d := 5) (by omega) (by omega) (by omega), n_rem (a := i / 5) (d := 5) (by omega) (by omega) (by omega), n_mul, n_mul, Nat.mul_comm (i / 125) 25]
  exact ⟨rfl, rfl, rfl, rfl⟩
theorem r_close_L {τ : Type} (ke : Mem → Option τ) (x1 : Int32) (T : Nat → Nat → Nat → Prop) (tr : ∀ t x y z, T t x y → T t y z → T t x z) (A0 : Nat → Int32) : ∀ r f i R, r < f → i + r = 1500 → Aa R → (∀ j, j < 300 → A0 j = 1 → R.1 24 j = 1) → (∀ t x y, t < 12 → x < 5 → y < 5 → R.1 24 (25 * t + 5 * x + y) = 1 → T t x y) → (∀ t x y z, t < 12 → x < 5 → y < 5 → z < 5 → 125 * t + 25 * x + 5 * y + z < i → A0 (25 * t + 5 * x + y) = 1 → A0 (25 * t + 5 * y + z) = 1 → R.1 24 (25 * t + 5 * x + z) = 1) → ∃ N, f_LinkAuditModel_constrain_L234 x1 ke f (nI i) R = ke N ∧ Lp R N ∧ Aa N ∧ (∀ j, j < 300 → A0 j = 1 → N.1 24 j = 1) ∧ (∀ t x y, t < 12 → x < 5 → y < 5 → N.1 24 (25 * t + 5 * x + y) = 1 → T t x y) ∧ ∀ t x y z, t < 12 → x < 5 → y < 5 → z < 5 → A0 (25 * t + 5 * x + y) = 1 → A0 (25 * t + 5 * y + z) = 1 → N.1 24 (25 * t + 5 * x + z) = 1 := by
  intro r
  induction r with
  | zero =>
    intro f i R hf hi ha hm hs hc
    obtain ⟨f, rfl⟩ : ∃ g, f = g + 1 := ⟨f - 1, by omega⟩
    rw [f_LinkAuditModel_constrain_L234, l1500, i_le (by omega) (by omega), if_pos (by omega)]
    exact ⟨R, rfl, fun _ _ => rfl, ha, hm, hs, fun t x y z h1 h2 h3 h4 => hc t x y z h1 h2 h3 h4 (by omega)⟩
  | succ r ih =>
    intro f i R hf hi ha hm hs hc
    obtain ⟨f, rfl⟩ : ∃ g, f = g + 1 := ⟨f - 1, by omega⟩
    have hi' : i < 1500 := by omega
    obtain ⟨d1, d2, d3, d4⟩ := d_25 hi'
    -- the numbers of this step
    obtain ⟨t, x, y, z, ht, hx, hy, hz, et, ex, ey, ez, ei⟩ : ∃ t x y z, t < 12 ∧ x < 5 ∧ y < 5 ∧ z < 5 ∧ i / 125 = t ∧ i / 25 % 5 = x ∧ i / 5 % 5 = y ∧ i % 5 = z ∧ i = 125 * t + 25 * x + 5 * y + z := ⟨i / 125, i / 25 % 5, i / 5 % 5, i % 5, by omega, by omega, by omega, by omega, rfl, rfl, rfl, rfl, by omega⟩
    have d5 : (5 : Int32) * nI y = nI (5 * y) := by rw [l5, n_mul]
    rw [f_LinkAuditModel_constrain_L234, l1500, i_le (by omega) (by omega), if_neg (show ¬ 1500 ≤ i by omega), d1, d2, d3, d4, et, ex, ey, ez, d5, n_add, n_add, n_add, n_add, n_add, show nI i + (1 : Int32) = nI (i + 1) from n_add i 1]
    simp (disch := omega) only [gd_n, n_cl]
    have uniq : ∀ t' x' y' z', t' < 12 → x' < 5 → y' < 5 → z' < 5 → 125 * t' + 25 * x' + 5 * y' + z' = i → t' = t ∧ x' = x ∧ y' = y ∧ z' = z := fun t' x' y' z' h1 h2 h3 h4 h5 => by omega
    have skip : (R.1 24 (25 * t + 5 * x + y) ≠ 1 ∨ R.1 24 (25 * t + 5 * y + z) ≠ 1) → ∃ N, f_LinkAuditModel_constrain_L234 x1 ke f (nI (i + 1)) R = ke N ∧ Lp R N ∧ Aa N ∧ (∀ j, j < 300 → A0 j = 1 → N.1 24 j = 1) ∧ (∀ t x y, t < 12 → x < 5 → y < 5 → N.1 24 (25 * t + 5 * x + y) = 1 → T t x y) ∧ ∀ t x y z, t < 12 → x < 5 → y < 5 → z < 5 → A0 (25 * t + 5 * x + y) = 1 → A0 (25 * t + 5 * y + z) = 1 → N.1 24 (25 * t + 5 * x + z) = 1 := fun no =>
      ih f (i + 1) R (by omega) (by omega) ha hm hs (fun t' x' y' z' h1 h2 h3 h4 h5 h6 h7 => by
        by_cases q : 125 * t' + 25 * x' + 5 * y' + z' = i
        · obtain ⟨rfl, rfl, rfl, rfl⟩ := uniq t' x' y' z' h1 h2 h3 h4 q
          rcases no with w | w
          · exact absurd (hm _ (by omega) h6) w
          · exact absurd (hm _ (by omega) h7) w
        · exact hc t' x' y' z' h1 h2 h3 h4 (by omega) h6 h7)
    rcases ha (25 * t + 5 * x + y) (by omega) with p | p
    · rw [p, i0]
      exact skip (Or.inl (by rw [p]; decide))
    · rw [p, i1]
      rcases ha (25 * t + 5 * y + z) (by omega) with q | q
      · rw [q, i0]
        exact skip (Or.inr (by rw [q]; decide))
      · rw [q, i1, sm_s]
        have Txz := tr t x y z (hs t x y ht hx hy p) (hs t y z ht hy hz q)
        obtain ⟨N, n1, n2, n3, n4, n5, n6⟩ := ih f (i + 1) (u1 R 24 (25 * t + 5 * x + z) 1) (by omega) (by omega) (fun j hj => by
          rw [u1_eq]
          by_cases e : j = 25 * t + 5 * x + z
          · rw [if_pos e]; exact Or.inr rfl
          · rw [if_neg e]; exact ha j hj) (fun j hj w => by
          rw [u1_eq]
          by_cases e : j = 25 * t + 5 * x + z
          · rw [if_pos e]
          · rw [if_neg e]; exact hm j hj w) (fun t' x' y' h1 h2 h3 w => by
          rw [u1_eq] at w
          by_cases e : 25 * t' + 5 * x' + y' = 25 * t + 5 * x + z
          · have : t' = t ∧ x' = x ∧ y' = z := by omega
            rw [this.1, this.2.1, this.2.2]
            exact Txz
          · rw [if_neg e] at w
            exact hs t' x' y' h1 h2 h3 w) (fun t' x' y' z' h1 h2 h3 h4 h5 h6 h7 => by
          rw [u1_eq]
          by_cases w : 125 * t' + 25 * x' + 5 * y' + z' = i
          · obtain ⟨rfl, rfl, rfl, rfl⟩ := uniq t' x' y' z' h1 h2 h3 h4 w
            rw [if_pos rfl]
          · by_cases e : 25 * t' + 5 * x' + z' = 25 * t + 5 * x + z
            · rw [if_pos e]
            · rw [if_neg e]
              exact hc t' x' y' z' h1 h2 h3 h4 (by omega) h6 h7)
        exact ⟨N, n1, Lp_t (Lp_u (fun _ _ => rfl) (by omega)) n2, n3, n4, n5, n6⟩
/-- after the closing: the entries say who is in one group -/
theorem r_close {τ : Type} (ke : Mem → Option τ) {M R : Mem} {G : Nat → Nat → Nat} (hj : Js M R G) : ∃ N, f_LinkAuditModel_constrain_L227 ke FU (0 : Int32) R = ke N ∧ Lp R N ∧ Aa N ∧ ∀ t x y, t < 12 → x < 5 → y < 5 → (N.1 24 (25 * t + 5 * x + y) = 1 ↔ G t x = G t y) := by
  obtain ⟨fu, hfu⟩ := FU_s (r := 1600) (by omega)
  have tr : ∀ t x y z, G t x = G t y → G t y = G t z → G t x = G t z := fun t x y z a c => a.trans c
  have round : ∀ k f R, k < 5 → Aa R → (∀ t x y, t < 12 → x < 5 → y < 5 → R.1 24 (25 * t + 5 * x + y) = 1 → G t x = G t y) → ∃ N, f_LinkAuditModel_constrain_L227 ke (f + 1) (nI k) R = f_LinkAuditModel_constrain_L227 ke f (nI (k + 1)) N ∧ Lp R N ∧ Aa N ∧ (∀ j, j < 300 → R.1 24 j = 1 → N.1 24 j = 1) ∧ (∀ t x y, t < 12 → x < 5 → y < 5 → N.1 24 (25 * t + 5 * x + y) = 1 → G t x = G t y) ∧ ∀ t x y z, t < 12 → x < 5 → y < 5 → z < 5 → R.1 24 (25 * t + 5 * x + y) = 1 → R.1 24 (25 * t + 5 * y + z) = 1 → N.1 24 (25 * t + 5 * x + z) = 1 := by
    intro k f R hk ha hs
    rw [f_LinkAuditModel_constrain_L227, l5, i_le (by omega) (by omega), if_neg (by omega), show nI k + (1 : Int32) = nI (k + 1) from n_add k 1]
    exact r_close_L (fun M12 => f_LinkAuditModel_constrain_L227 ke f (nI (k + 1)) M12) (nI k) (fun t x y => G t x = G t y) tr (R.1 24) 1500 FU 0 R (by omega) (by omega) ha (fun _ _ w => w) hs (fun t x y z _ _ _ _ w => by omega)
  obtain ⟨g0, hg0⟩ : ∃ g, FU = g + 1 + 1 + 1 + 1 + 1 + 1 := ⟨FU - 6, by omega⟩
  have s0 : ∀ t x y, t < 12 → x < 5 → y < 5 → R.1 24 (25 * t + 5 * x + y) = 1 → G t x = G t y := fun t x y ht hx hy w => (hj.2.2 t ht).1 x y hx hy w
  obtain ⟨N1, a1, a2, a3, a4, a5, a6⟩ := round 0 (g0 + 1 + 1 + 1 + 1 + 1) R (by omega) hj.2.1 s0
  obtain ⟨N2, b1, b2, b3, b4, b5, b6⟩ := round 1 (g0 + 1 + 1 + 1 + 1) N1 (by omega) a3 a5
  obtain ⟨N3, c1, c2, c3, c4, c5, c6⟩ := round 2 (g0 + 1 + 1 + 1) N2 (by omega) b3 b5
  obtain ⟨N4, d1, d2, d3, d4, d5, d6⟩ := round 3 (g0 + 1 + 1) N3 (by omega) c3 c5
  obtain ⟨N5, e1, e2, e3, e4, e5, e6⟩ := round 4 (g0 + 1) N4 (by omega) d3 d5
  refine ⟨N5, ?_, Lp_t a2 (Lp_t b2 (Lp_t c2 (Lp_t d2 e2))), e3, fun t x y ht hx hy => ⟨e5 t x y ht hx hy, fun w => ?_⟩⟩
  · rw [hg0, show (0 : Int32) = nI 0 from rfl, a1, b1, c1, d1, e1, f_LinkAuditModel_constrain_L227, if_pos (by decide)]
  · obtain ⟨k, k1, k2⟩ := (hj.2.2 t ht).2.2 x y hx hy w
    have s5 := sz_5 (G t) (G t x)
    obtain ⟨z, w', v, z1, w1, v1, p1, p2, p3, p4⟩ := Wk_4 (hj.2.2 t ht).2.1 k x y (by omega) hx k2
    have q1 := a6 t x z w' ht hx z1 w1 p1 p2
    have q2 := a6 t w' v y ht w1 v1 hy p3 p4
    have q3 := b6 t x w' y ht hx w1 hy q1 q2
    exact e4 _ (by omega) (d4 _ (by omega) (c4 _ (by omega) q3))
