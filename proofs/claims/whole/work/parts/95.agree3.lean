/-! PURE: who must agree: all references, all overriding methods, both sides; closing -/
theorem c_clear15 {τ : Type} (ke : Mem → Option τ) {t : Nat} (ht : t < 12) : ∀ r f i M, r < f → i + r = 5 → (∀ a, a < i → M.1 (62 + t) a = nI a) → ∃ N, f_Agreements_clear_L15 (nI t) ke f (nI i) M = ke N ∧ (∀ a, a ≠ 62 + t → N.1 a = M.1 a) ∧ N.2 = M.2 ∧ ∀ a, a < 5 → N.1 (62 + t) a = nI a := by
  intro r
  induction r with
  | zero =>
    intro f i M hf hi h
    obtain ⟨f, rfl⟩ : ∃ g, f = g + 1 := ⟨f - 1, by omega⟩
    rw [f_Agreements_clear_L15, l5, i_le (by omega) (by omega), if_pos (by omega)]
    exact ⟨M, rfl, fun _ _ => rfl, rfl, fun a ha => h a (by omega)⟩
  | succ r ih =>
    intro f i M hf hi h
    obtain ⟨f, rfl⟩ : ∃ g, f = g + 1 := ⟨f - 1, by omega⟩
    rw [f_Agreements_clear_L15, l5, i_le (by omega) (by omega), if_neg (by omega), gd_n (by omega) (by omega), gd_n (by omega) (by omega), n_cl (by omega), n_cl (by omega), sm_s, show nI i + (1 : Int32) = nI (i + 1) from n_add i 1]
    obtain ⟨N, n1, n2, n3, n4⟩ := ih f (i + 1) (u1 M (62 + t) i (nI i)) (by omega) (by omega) (fun a ha => by
      rw [u1_eq]
      by_cases z : a = i
      · rw [if_pos z, z]
      · rw [if_neg z]; exact h a (by omega))
    exact ⟨N, n1, fun a ha => by rw [n2 a ha, u1_ne ha], n3, n4⟩
theorem c_clear7 {τ : Type} (ke : Mem → Option τ) : ∀ r f t M, r < f → t + r = 12 → (∀ t' a, t' < t → a < 5 → M.1 (62 + t') a = nI a) → ∃ N, f_Agreements_clear_L7 ke f (nI t) M = ke N ∧ Fc M N ∧ ∀ t' a, t' < 12 → a < 5 → N.1 (62 + t') a = nI a := by
  obtain ⟨fu, hfu⟩ := FU_s (r := 5) (by omega)
  intro r
  induction r with
  | zero =>
    intro f t M hf hi h
    obtain ⟨f, rfl⟩ : ∃ g, f = g + 1 := ⟨f - 1, by omega⟩
    rw [f_Agreements_clear_L7, l12, i_le (by omega) (by omega), if_pos (by omega)]
    exact ⟨M, rfl, Fc_r M, fun t' a h1 h2 => h t' a (by omega) h2⟩
  | succ r ih =>
    intro f t M hf hi h
    obtain ⟨f, rfl⟩ : ∃ g, f = g + 1 := ⟨f - 1, by omega⟩
    rw [f_Agreements_clear_L7, l12, i_le (by omega) (by omega), if_neg (by omega), show nI t + (1 : Int32) = nI (t + 1) from n_add t 1]
    obtain ⟨N, n1, n2, n3, n4⟩ := c_clear15 (fun M3 => f_Agreements_clear_L7 ke f (nI (t + 1)) M3) (show t < 12 by omega) 5 FU 0 M (by omega) (by omega) (fun a ha => by omega)
    rw [show (0 : Int32) = nI 0 from rfl, n1]
    obtain ⟨O, o1, o2, o3⟩ := ih f (t + 1) N (by omega) (by omega) (fun t' a h1 h2 => by
      by_cases z : t' = t
      · rw [z]; exact n4 a h2
      · rw [n2 (62 + t') (by omega)]; exact h t' a (by omega) h2)
    exact ⟨O, o1, Fc_t ⟨fun a ha => n2 a (by omega), n3⟩ o2, o3⟩
theorem c_clear (M : Mem) : ∃ N, f_Agreements_clear M = some N ∧ (∀ a, a ≤ 6 ∨ (10 ≤ a ∧ a ≤ 61) → N.1 a = M.1 a) ∧ N.2 = M.2 ∧ N.1 9 5 = nI 0 ∧ Ga N (fun _ a => a) := by
  obtain ⟨fu, hfu⟩ := FU_s (r := 12) (by omega)
  obtain ⟨N, n1, n2, n3⟩ := c_clear7 (fun M4 => some M4) 12 FU 0 (u1 M 9 5 0) (by omega) (by omega) (fun t' a h1 => by omega)
  have e : f_Agreements_clear M = some N := by
    unfold f_Agreements_clear
    rw [sm_s]
    exact n1
  refine ⟨N, e, fun a ha => ?_, n2.2, ?_, fun t a ht ha => ⟨n3 t a ht ha, ha⟩⟩
  · rw [n2.1 a (by omega), u1_ne (by omega)]
  · rw [n2.1 9 (by omega), u1_eq, if_pos rfl]; rfl
theorem l6 : (6 : Int32) = nI 6 := rfl
theorem l300 : (300 : Int32) = nI 300 := rfl
theorem l125 : (125 : Int32) = nI 125 := rfl
theorem l1500 : (1500 : Int32) = nI 1500 := rfl
theorem r_init_L {τ : Type} (ke : Mem → Option τ) : ∀ r f i R, r < f → i + r = 300 → (∀ j, j < i → R.1 24 j = if j % 25 % 6 = 0 then 1 else 0) → ∃ N, f_LinkAuditModel_constrain_L2 ke f (nI i) R = ke N ∧ Lp R N ∧ ∀ j, j < 300 → N.1 24 j = if j % 25 % 6 = 0 then 1 else 0 := by
  intro r
  induction r with
  | zero =>
    intro f i R hf hi h
    obtain ⟨f, rfl⟩ : ∃ g, f = g + 1 := ⟨f - 1, by omega⟩
    rw [f_LinkAuditModel_constrain_L2, l300, i_le (by omega) (by omega), if_pos (by omega)]
    exact ⟨R, rfl, fun _ _ => rfl, fun j hj => h j (by omega)⟩
  | succ r ih =>
    intro f i R hf hi h
    obtain ⟨f, rfl⟩ : ∃ g, f = g + 1 := ⟨f - 1, by omega⟩
    have m1 : i % 25 < 1000000 := by omega
    have m2 : i % 25 % 6 < 1000000 := by omega
    rw [f_LinkAuditModel_constrain_L2, l300, i_le (by omega) (by omega), if_neg (by omega), l25, l6, n_rem (by omega) (by omega) (by omega), n_rem m1 (by omega) (by omega), i_eq0 m2]
    unfold f_LinkAuditModel_constrain_b29
    simp (disch := omega) only [gd_n, n_cl]
    rw [show nI i + (1 : Int32) = nI (i + 1) from n_add i 1]
    have go : ∀ v : Int32, v = (if i % 25 % 6 = 0 then 1 else 0) → ∃ N, f_LinkAuditModel_constrain_L2 ke f (nI (i + 1)) (u1 R 24 i v) = ke N ∧ Lp R N ∧ ∀ j, j < 300 → N.1 24 j = if j % 25 % 6 = 0 then 1 else 0 := fun v hv => by
      obtain ⟨N, n1, n2, n3⟩ := ih f (i + 1) (u1 R 24 i v) (by omega) (by omega) (fun j hj => by
        rw [u1_eq]
        by_cases z : j = i
        · rw [if_pos z, z]; exact hv
        · rw [if_neg z]; exact h j (by omega))
      exact ⟨N, n1, Lp_t (Lp_u (fun _ _ => rfl) (by omega)) n2, n3⟩
    by_cases e : i % 25 % 6 = 0
    · rw [if_pos e, gd_p (Or.inr True.intro), sm_s]
      exact go 1 (by rw [if_pos e])
    · rw [if_neg e, gd_p (Or.inl True.intro), sm_s]
      exact go 0 (by rw [if_neg e])
theorem Js_0 {M R : Mem} (h : Ga M (fun _ a => a)) (g : ∀ j, j < 300 → R.1 24 j = if j % 25 % 6 = 0 then 1 else 0) : Js M R (fun _ a => a) := by
  have e : ∀ t a c, t < 12 → a < 5 → c < 5 → (R.1 24 (25 * t + 5 * a + c) = 1 ↔ a = c) := fun t a c ht ha hc => by
    rw [g _ (by omega), show (25 * t + 5 * a + c) % 25 = 5 * a + c by omega]
    by_cases z : (5 * a + c) % 6 = 0
    · rw [if_pos z]
      exact ⟨fun _ => by omega, fun _ => rfl⟩
    · rw [if_neg z]
      exact ⟨fun q => absurd q (by decide), fun q => absurd (show (5 * a + c) % 6 = 0 by omega) z⟩
  refine ⟨h, fun i hi => ?_, fun t ht => ⟨fun x y hx hy q => (e t x y ht hx hy).mp q, fun x hx => (e t x x ht hx hx).mpr rfl, fun x y hx hy q => ⟨0, ?_, q⟩⟩⟩
  · rw [g i hi]
    split
    · exact Or.inr rfl
    · exact Or.inl rfl
  · show 0 + 1 ≤ sz (fun a => a) x
    have : ∀ x, x < 5 → 1 ≤ sz (fun a => a) x := by decide
    exact this x hx
/-- the references -/
theorem b_refs {b : Sp} {σ τ : Type} (ke : Mem → Option σ) (qe : Mem → Option τ) : ∀ r f f' i M R G, r < f → r < f' → i + r = nR b → Bo b M R → Js M R G → ∃ M' R' G', f_LinkAudit_agree_L17 ke f (nI i) M = ke M' ∧ f_LinkAuditModel_constrain_L38 qe f' (nI i) R = qe R' ∧ Js M' R' G' ∧ Fc M M' ∧ Lp R R' := by
  intro r
  induction r with
  | zero =>
    intro f f' i M R G hf hf' hi h hj
    have h12 := h.1.1.2.2
    obtain ⟨f, rfl⟩ : ∃ g, f = g + 1 := ⟨f - 1, by omega⟩
    obtain ⟨f', rfl⟩ : ∃ g, f' = g + 1 := ⟨f' - 1, by omega⟩
    rw [f_LinkAudit_agree_L17, h.2.1.1.2.2, i_le (by omega) (by omega), if_pos (by omega), f_LinkAuditModel_constrain_L38, h.2.2.2.1.2.2.1, i_le (by omega) (by omega), if_pos (by omega)]
    exact ⟨M, R, G, rfl, rfl, hj, Fc_r M, fun _ _ => rfl⟩
  | succ r ih =>
    intro f f' i M R G hf hf' hi h hj
    obtain ⟨f, rfl⟩ : ∃ g, f = g + 1 := ⟨f - 1, by omega⟩
    obtain ⟨f', rfl⟩ : ∃ g, f' = g + 1 := ⟨f' - 1, by omega⟩
    have hv := h.1
    have h12 := hv.1.2.2
    have h16 := hv.1.1
    have hi' : i < nR b := by omega
    obtain ⟨v0, v1, v2, v3, v4, v5⟩ := hv.2.2.2.2.2.2.2 i hi'
    obtain ⟨v, M1, R1, a1, a2, a3, a4, a5⟩ := b_verd h hi'
    have h1 : Bo b M1 R1 := Bo_s h a3 a4
    have j1 : Js M1 R1 G := Js_k hj (fun a q1 q2 => a3.1 a (by omega)) (a4 24 (by omega))
    rw [f_LinkAudit_agree_L17, h.2.1.1.2.2, i_le (by omega) (by omega), if_neg (show ¬ nR b ≤ i by omega), a1, bd2_s, f_LinkAuditModel_constrain_L38, h.2.2.2.1.2.2.1, i_le (by omega) (by omega), if_neg (show ¬ nR b ≤ i by omega), a2, bd2_s, l5, l1, n_mul, n_add, n_add]
    simp (disch := omega) only [gd_n, n_cl]
    rw [(h1.2.1.2.2.2.2.2.2 i hi').1, (h1.2.1.2.2.2.2.2.2 i hi').2.1, h1.2.2.2.1.2.2.2 15 (by omega) (by omega), h1.2.2.2.1.2.2.2 15 (by omega) (by omega), l4, n_div (a := b 15 (5 * i + 1)) (d := 4) (by omega) (by omega) (by omega), i_eq0 (show b 15 (5 * i + 1) / 4 < 1000000 by omega), i_le0 (show b 15 (5 * i + 1) / 4 < 1000000 by omega)]
    have skip : ∃ M' R' G', f_LinkAudit_agree_L17 ke f (nI (i + 1)) M1 = ke M' ∧ f_LinkAuditModel_constrain_L38 qe f' (nI (i + 1)) R1 = qe R' ∧ Js M' R' G' ∧ Fc M M' ∧ Lp R R' := by
      obtain ⟨M', R', G', w1, w2, w3, w4, w5⟩ := ih f f' (i + 1) M1 R1 G (by omega) (by omega) (by omega) h1 j1
      exact ⟨M', R', G', w1, w2, w3, Fc_t (Fc_Sw a3) w4, Lp_t (Lp_q a4) w5⟩
    by_cases e : v ≤ 0
    · rw [if_pos e, if_pos e]
      exact skip
    · rw [if_neg e, if_neg e]
      by_cases k0 : b 15 (5 * i + 1) / 4 = 0
      · rw [if_pos k0, if_pos k0]
        exact skip
      · rw [if_neg k0, if_neg k0]
        obtain ⟨m, hm, ev⟩ : ∃ m, mr b m ∧ v = nI m := by
          rcases a5 with q | q | q
          · exact absurd q e
          · exact absurd q k0
          · exact q
        obtain ⟨m40, m1, m2, -⟩ := m_lt hv hm
        rw [ev, n_cl (show m < 1000000 by omega), gd_n (show m < 41 by omega) (by omega), gd_n (show b 15 (5 * i) < 17 by omega) (by omega), n_cl (show b 15 (5 * i) < 1000000 by omega), h1.2.2.2.1.2.2.2 9 (by omega) (by omega), gd_n (show b 9 m < 17 by omega) (by omega), n_cl (show b 9 m < 1000000 by omega), h1.2.2.2.1.2.2.2 4 (by omega) (by omega), h1.2.2.2.1.2.2.2 4 (by omega) (by omega)]
        obtain ⟨M2, R2, G2, t1, t2, t3, t4, t5⟩ := b_types h1 j1 hm v0 v1
        rw [t1, t2, bd1_s, bd1_s]
        obtain ⟨M', R', G', w1, w2, w3, w4, w5⟩ := ih f f' (i + 1) M2 R2 G2 (by omega) (by omega) (by omega) (Lp_Bo (Fc_Bo h1 t4) t5) t3
        exact ⟨M', R', G', w1, w2, w3, Fc_t (Fc_Sw a3) (Fc_t t4 w4), Lp_t (Lp_q a4) (Lp_t t5 w5)⟩
