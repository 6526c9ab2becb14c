/-! PURE: field, method: the new state -/
theorem mem_base {b : Sp} {Mc Mr : Mem} (h : Base b Mc Mr) {c k n f s g : Nat} (h1 : 1 ≤ c) (h2 : c ≤ nC b) (hk : k < 2) (hn : n < 4) (hf : f < 13) (hs : s < 13) (hg : g < 16) (ha : k = 0 → s = 12 ∧ g < 8) (hb : k = 1 → g &&& 8 ≠ 0 → g &&& 3 ≠ 3 ∧ g &&& 4 = 0) (h0 : lk b c k n f s = 0) (h40 : nM b < 40) :
    Base (bM b c k n f s g) (cM Mc (nM b + 1) c (sig k n f s) g k) (u1 (u1 (u1 (u1 (u1 (u1 (u1 Mr 0 9 (nI (nM b + 1))) 9 (nM b + 1) (nI c)) 10 (nM b + 1) (nI k)) 11 (nM b + 1) (nI n)) 12 (nM b + 1) (nI f)) 13 (nM b + 1) (nI s)) 14 (nM b + 1) (nI g)) ∧ Fresh (cM Mc (nM b + 1) c (sig k n f s) g k) := by
  obtain ⟨hv, hr, hc⟩ := h
  have h16 := hv.1.1
  have e0 : ∀ j, j ≠ 0 → j ≠ 3 → j ≠ 29 → j ≠ 30 → j ≠ 31 → (cM Mc (nM b + 1) c (sig k n f s) g k).1 j = Mc.1 j := fun j j0 j1 j2 j3 j4 => by
    rw [cM_1, u1_ne j4, u1_ne j3, u1_ne j2, u1_ne j1, fg_1 j0]
  refine ⟨⟨?_, ?_, ?_⟩, ?_⟩
  · obtain ⟨v1, v2, v3, v4, v5, v6, v7, v8⟩ := hv
    refine ⟨⟨v1.1, by have := (bM_at b c k n f s g 0).1; omega, v1.2.2⟩, v2, v3, v4, fun m m1 m2 => ?_, fun m o m1 m2 o1 o2 e9 el => ?_, fun m m1 m2 => ?_, v8⟩
    · have m2 : m ≤ nM b + 1 := m2
      obtain ⟨-, q9, q10, q11, q12, q13, q14⟩ := bM_at b c k n f s g m
      rw [q9, q10, q11, q12, q13, q14]
      by_cases e : m = nM b + 1
      · simp only [if_pos e]
        exact ⟨h1, h2, hk, hn, hf, hs, hg⟩
      · simp only [if_neg e]
        exact v5 m m1 (by omega)
    · have m2 : m ≤ nM b + 1 := m2
      have o2 : o ≤ nM b + 1 := o2
      obtain ⟨l10, l11, l12, l13⟩ := el
      obtain ⟨-, q9, q10, q11, q12, q13, -⟩ := bM_at b c k n f s g m
      obtain ⟨-, p9, p10, p11, p12, p13, -⟩ := bM_at b c k n f s g o
      rw [q9, p9] at e9
      rw [q10, p10] at l10
      rw [q11, p11] at l11
      rw [q12, p12] at l12
      rw [q13, p13] at l13
      by_cases e : m = nM b + 1
      · by_cases e' : o = nM b + 1
        · omega
        · rw [if_pos e, if_neg e'] at e9 l10 l11 l12 l13
          exact absurd ⟨e9.symm, l10.symm, l11.symm, l12.symm, l13.symm⟩ (lk_no h0 o1 (by omega))
      · by_cases e' : o = nM b + 1
        · rw [if_neg e, if_pos e'] at e9 l10 l11 l12 l13
          exact absurd ⟨e9, l10, l11, l12, l13⟩ (lk_no h0 m1 (by omega))
        · rw [if_neg e, if_neg e'] at e9 l10 l11 l12 l13
          exact v6 m o m1 (by omega) o1 (by omega) e9 ⟨l10, l11, l12, l13⟩
    · have m2 : m ≤ nM b + 1 := m2
      obtain ⟨-, -, q10, -, -, q13, q14⟩ := bM_at b c k n f s g m
      rw [q10, q13, q14]
      by_cases e : m = nM b + 1
      · simp only [if_pos e]
        exact ⟨ha, hb⟩
      · simp only [if_neg e]
        exact v7 m m1 (by omega)
  · exact RB_u (RB_u (RB_u (RB_u (RB_u (RB_u (RB_0 hr _).2.1 (by omega) (by omega) _ _) (by omega) (by omega) _ _) (by omega) (by omega) _ _) (by omega) (by omega) _ _) (by omega) (by omega) _ _) (by omega) (by omega) _ _
  · obtain ⟨⟨c1, c2, c3⟩, cb2, cb3, cb4, cb5, ⟨d1, d2, d3⟩, cb7⟩ := hc
    refine ⟨⟨?_, ?_, ?_⟩, CB2_c (b := bM b c k n f s g) cb2 (fun j k1 k2 => e0 j (by omega) (by omega) (by omega) (by omega) (by omega)), CB3_c (b := bM b c k n f s g) cb3 (fun j k1 k2 => e0 j (by omega) (by omega) (by omega) (by omega) (by omega)), CB4_c (b := bM b c k n f s g) cb4 (fun j k1 k2 => e0 j (by omega) (by omega) (by omega) (by omega) (by omega)), fun m m1 m2 => ?_, ⟨fun c' hc' m hm => ?_, fun m hm => ?_, fun m hm => ?_⟩, CB7_c (b := bM b c k n f s g) cb7 (fun j k1 k2 => e0 j (by omega) (by omega) (by omega) (by omega) (by omega))⟩
    · rw [e0 2 (by omega) (by omega) (by omega) (by omega) (by omega)]; exact c1
    · rw [cM_1]
      simp (disch := omega) only [u1_eq, u1_ne, if_true]
      rfl
    · rw [e0 4 (by omega) (by omega) (by omega) (by omega) (by omega)]; exact c3
    · have m2 : m ≤ nM b + 1 := m2
      obtain ⟨-, q9, q10, q11, q12, q13, q14⟩ := bM_at b c k n f s g m
      rw [q9, q10, q11, q12, q13, q14, cM_1]
      by_cases e : m = nM b + 1
      · simp (disch := omega) only [u1_eq, u1_ne, if_pos e]
        refine ⟨?_, ?_, ?_⟩ <;> trivial
      · simp (disch := omega) only [u1_eq, u1_ne, if_neg e, fg_1]
        exact cb5 m m1 (by omega)
    · obtain ⟨q0, q9, -⟩ := bM_at b c k n f s g m
      rw [cM_32, u2_eq, q0, q9]
      by_cases e : c' = c
      · rw [if_pos e, tb_or, tb_1 (by omega), Bool.or_eq_true, decide_eq_true_eq]
        subst e
        rw [d1 c' hc' m hm]
        by_cases z : m = nM b + 1
        · rw [if_pos z]
          exact ⟨fun _ => ⟨by omega, by omega, rfl⟩, fun _ => Or.inr z⟩
        · rw [if_neg z]
          exact ⟨fun q => q.elim (fun ⟨a1, a2, a3⟩ => ⟨a1, by omega, a3⟩) (fun q => absurd q z), fun ⟨a1, a2, a3⟩ => Or.inl ⟨a1, by omega, a3⟩⟩
      · rw [if_neg e, d1 c' hc' m hm]
        by_cases z : m = nM b + 1
        · rw [if_pos z]
          exact ⟨fun ⟨a1, a2, a3⟩ => by omega, fun ⟨a1, a2, a3⟩ => absurd a3.symm e⟩
        · rw [if_neg z]
          exact ⟨fun ⟨a1, a2, a3⟩ => ⟨a1, by omega, a3⟩, fun ⟨a1, a2, a3⟩ => ⟨a1, by omega, a3⟩⟩
    · obtain ⟨q0, -, q10, -, -, -, q14⟩ := bM_at b c k n f s g m
      unfold virt
      rw [cM_34, q0, q10, q14]
      by_cases z : m = nM b + 1
      · simp only [if_pos z]
        by_cases y : k = 1 ∧ g &&& 4 = 0 ∧ g &&& 3 ≠ 3
        · rw [if_pos y, tb_or, tb_1 (by omega), Bool.or_eq_true, decide_eq_true_eq]
          exact ⟨fun _ => ⟨by omega, by omega, y.1, y.2.2, y.2.1⟩, fun _ => Or.inr z⟩
        · rw [if_neg y, d2 m hm]
          exact ⟨fun ⟨a1, a2, a3⟩ => by omega, fun ⟨a1, a2, a3, a4, a5⟩ => absurd ⟨a3, a5, a4⟩ y⟩
      · simp only [if_neg z]
        have key : tb (Mc.2 3 4) m = true ↔ 1 ≤ m ∧ m ≤ nM b + 1 ∧ b 10 m = 1 ∧ b 14 m &&& 3 ≠ 3 ∧ b 14 m &&& 4 = 0 := by
          rw [d2 m hm]
          exact ⟨fun ⟨a1, a2, a3⟩ => ⟨a1, by omega, a3⟩, fun ⟨a1, a2, a3⟩ => ⟨a1, by omega, a3⟩⟩
        by_cases y : k = 1 ∧ g &&& 4 = 0 ∧ g &&& 3 ≠ 3
        · rw [if_pos y, tb_or, tb_1 (by omega), decide_eq_false z, Bool.or_false]
          exact key
        · rw [if_neg y]
          exact key
    · obtain ⟨q0, -, -, -, -, -, q14⟩ := bM_at b c k n f s g m
      rw [cM_35, q0, q14]
      by_cases z : m = nM b + 1
      · simp only [if_pos z]
        by_cases y : g &&& 8 = 0
        · rw [if_pos y, d3 m hm]
          exact ⟨fun ⟨a1, a2, a3⟩ => by omega, fun ⟨a1, a2, a3⟩ => absurd y a3⟩
        · rw [if_neg y, tb_or, tb_1 (by omega), Bool.or_eq_true, decide_eq_true_eq]
          exact ⟨fun _ => ⟨by omega, by omega, y⟩, fun _ => Or.inr z⟩
      · simp only [if_neg z]
        have key : tb (Mc.2 3 5) m = true ↔ 1 ≤ m ∧ m ≤ nM b + 1 ∧ b 14 m &&& 8 ≠ 0 := by
          rw [d3 m hm]
          exact ⟨fun ⟨a1, a2, a3⟩ => ⟨a1, by omega, a3⟩, fun ⟨a1, a2, a3⟩ => ⟨a1, by omega, a3⟩⟩
        by_cases y : g &&& 8 = 0
        · rw [if_pos y]
          exact key
        · rw [if_neg y, tb_or, tb_1 (by omega), decide_eq_false z, Bool.or_false]
          exact key
  · refine Fresh_c (fg_F Mc) ?_
    rw [cM_1]
    simp (disch := omega) only [u1_ne]
/-- a member is added, or refused, alike -/
theorem mut_add {b : Sp} {Mc Mr : Mem} (h : Base b Mc Mr) {c k n f s g : Nat} (h1 : 1 ≤ c) (h2 : c ≤ nC b) (hk : k < 2) (hn : n < 4) (hf : f < 13) (hs : s < 13) (hg : g < 16) (ha : k = 0 → s = 12 ∧ g < 8) (hb : k = 1 → g &&& 8 ≠ 0 → g &&& 3 ≠ 3 ∧ g &&& 4 = 0) :
    Mut Mc Mr (f_LinkAudit_addMember Mc (nI c) (nI (sig k n f s)) (nI g)) (f_LinkAuditModel_add Mr (nI c) (nI k) (nI n) (nI f) (nI s) (nI g)) := by
  obtain ⟨hv, hr, hc⟩ := id h
  have h16 := hv.1.1
  have h40 := hv.1.2.1
  have hsg := sig_lt hk hn hf hs
  obtain ⟨W, hW, eW⟩ := c_withSig hv hc (show sig k n f s < 2000 by omega)
  have hz : (lg_cmp (W &&& (Mc.2 32 c)) 0 = 0) ↔ lk b c k n f s = 0 := by
    rw [cmp0, tb_z]
    constructor
    · intro q
      by_cases z : lk b c k n f s = 0
      · exact z
      · obtain ⟨a1, a2, a3, a4, a5, a6, a7⟩ := lk_at z
        have q1 := q (lk b c k n f s) (by omega)
        rw [tb_and] at q1
        have w1 := (hW (lk b c k n f s) (by omega)).mpr ⟨a1, a2, by unfold msig; rw [a4, a5, a6, a7]⟩
        have w2 := (hc.2.2.2.2.2.1.1 c (by omega) (lk b c k n f s) (by omega)).mpr ⟨a1, a2, a3⟩
        rw [w1, w2] at q1
        exact absurd q1 (by decide)
    · intro z m hm
      rw [tb_and]
      by_cases w1 : tb W m = true
      · by_cases w2 : tb (Mc.2 32 c) m = true
        · obtain ⟨a1, a2, a3⟩ := (hW m hm).mp w1
          obtain ⟨-, -, a4⟩ := (hc.2.2.2.2.2.1.1 c (by omega) m hm).mp w2
          obtain ⟨-, -, v10, v11, v12, v13, -⟩ := hv.2.2.2.2.1 m a1 a2
          obtain ⟨x1, x2, x3, x4⟩ := (sig_inj v11 v12 v13 hn hf hs).mp a3
          exact absurd ⟨a4, x1, x2, x3, x4⟩ (lk_no z a1 a2)
        · simp [w2]
      · simp [w1]
  obtain ⟨fu, hfu⟩ := FU_s (r := nM b) (by omega)
  unfold f_LinkAudit_addMember f_LinkAuditModel_add
  rw [eW, bd1_s, gd_n (by omega) (by omega), n_cl (by omega), l1, r_add_L hv hr (by omega) (by omega) (by omega) (by omega) (by omega) _ _ (nM b) FU 1 (by omega) (by omega) (Nat.le_refl 1), i_cg hz]
  show Mut Mc Mr _ (if lk b c k n f s = 0 then _ else _)
  by_cases z : lk b c k n f s = 0
  · rw [if_pos z, if_pos z]
    by_cases q : nM b < 40
    · have c1 : Mc.1 3 6 < 40 := by rw [hc.1.2.1, l40, n_lt (by omega) (by omega)]; exact q
      have c2 : ¬ Mr.1 0 9 = 40 := by rw [hr.2.1, l40, n_eq (by omega) (by omega)]; omega
      rw [if_pos c1, if_neg c2, f_forget, bd1_s, c_add hv hc (by omega) hk hn hf hs hg q, bd2_s, hr.2.1, n_add]
      simp (disch := omega) only [sm_s, u1_eq, u1_ne, if_true, gd_n, n_cl]
      rw [show decide (nI k = 0 ∨ nI k = nI 1) = true by rw [decide_eq_true_eq, l0, n_eq (by omega) (by omega), n_eq (by omega) (by omega)]; omega, gd_t]
      obtain ⟨g1, g2⟩ := mem_base h h1 h2 hk hn hf hs hg ha hb z q
      exact Or.inr ⟨_, _, _, _, rfl, rfl, g1, g2⟩
    · have c1 : ¬ Mc.1 3 6 < 40 := by rw [hc.1.2.1, l40, n_lt (by omega) (by omega)]; exact q
      have c2 : Mr.1 0 9 = 40 := by rw [hr.2.1, l40, n_eq (by omega) (by omega)]; omega
      rw [if_neg c1, if_pos c2]
      exact Or.inl ⟨_, rfl, rfl⟩
  · rw [if_neg z, if_neg z]
    exact Or.inl ⟨_, rfl, rfl⟩
