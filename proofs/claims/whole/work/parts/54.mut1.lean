/-! PURE: provide and mask -/
theorem mut_provide {b : Sp} {Mc Mr : Mem} (h : Base b Mc Mr) (x y : Int32) : Mut Mc Mr (f_LinkAudit_provide Mc x y) (f_LinkAuditModel_provide Mr x y) := by
  obtain ⟨hv, hr, hc⟩ := h
  unfold f_LinkAudit_provide f_LinkAuditModel_provide
  rcases rgP x with ⟨l, l1', l5, rfl, h1, h2⟩ | ⟨h1, h2⟩
  · rw [h1, h2, bd1_s, bd1_s, i1, i1]
    rcases rg y 5 (by omega) (by omega) with ⟨o, o5, rfl, g1, g2⟩ | ⟨g1, g2⟩
    · rw [show f_LinkAudit_isBelow (nI o) 5 = some 1 from g1, show f_LinkAuditModel_in (nI o) 0 4 = some 1 from g2, bd1_s, bd1_s, i1, i1, i_eq (by omega) (by omega), i_eq (by omega) (by omega)]
      by_cases e : l = o
      · rw [if_pos e, if_pos e]
        exact Or.inl ⟨_, rfl, rfl⟩
      · rw [if_neg e, if_neg e]
        have h3 := (hv.2.1.2.2.1 l l5).1
        obtain ⟨f, hf⟩ := FU_s (r := b 1 l) (by omega)
        unfold f_Loaders_hasProvider
        rw [l0, c_hasP hv hc l5 o5 _ _ (b 1 l) FU 0 (by omega) (by omega), r_hasP hv hr l5 o5 _ _ (b 1 l) FU 0 (by omega) (by omega)]
        by_cases p : inP b l o (b 1 l) 0 = true
        · rw [if_pos p, if_pos p, bd1_s, l1, i_eq (by omega) (by omega), if_neg (by omega)]
          exact Or.inl ⟨_, rfl, rfl⟩
        · rw [if_neg p, if_neg p, bd1_s, i_eq (by omega) (by omega), if_pos rfl, gd_n (by omega) (by omega), gd_n (by omega) (by omega), n_cl (by omega), hc.2.1.1 l l5, hr.2.2.2 1 (by omega) (by omega), l3, i_lt (by omega) (by omega), i_eq (by omega) (by omega)]
          by_cases q : b 1 l < 3
          · have e16 : (fg Mc).1 16 = Mc.1 16 := fg_1 (by omega)
            have e17 : (u1 (fg Mc) (11 + l) (b 1 l) (nI o)).1 16 = Mc.1 16 := by rw [u1_ne (by omega), e16]
            have er : (u1 Mr 2 (3 * l + b 1 l) (nI o)).1 1 = Mr.1 1 := u1_ne (by omega)
            rw [if_pos q, if_neg (by omega), f_forget, bd1_s]
            unfold f_Loaders_addProvider
            rw [gd_n (by omega) (by omega), gd_n (by omega) (by omega), n_cl (by omega), e16, hc.2.1.1 l l5, gd_n (by omega) (by omega), n_cl (by omega), sm_s, gd_n (by omega) (by omega), gd_n (by omega) (by omega), e17, hc.2.1.1 l l5, sm_s, gd_n (by omega) (by omega), u1_eq, if_pos rfl, bd2_s, gd_n (by omega) (by omega), n_mul, n_add, gd_n (by omega) (by omega), n_cl (by omega), sm_s, gd_n (by omega) (by omega), gd_n (by omega) (by omega), er, hr.2.2.2 1 (by omega) (by omega), sm_s, gd_n (by omega) (by omega), u1_eq, if_pos rfl, l1, n_add]
            refine Or.inr ⟨_, ub (ub b 2 (3 * l + b 1 l) o) 1 l (b 1 l + 1), _, _, rfl, rfl, ⟨?_, RB_u (RB_u hr (by omega) (by omega) _ _) (by omega) (by omega) _ _, ?_⟩, ?_⟩
            · obtain ⟨v1, ⟨a1, a2, a3, a4⟩, v3, v4, v5, v6, v7, v8⟩ := hv
              refine ⟨v1, ⟨?_, a2, fun l' hl' => ⟨?_, (a3 l' hl').2⟩, fun l' j hl' hj => ?_⟩, v3, v4, v5, v6, v7, v8⟩
              · rw [ub_eq, if_neg (by omega)]; exact a1
              · rw [ub_eq]
                by_cases z : l' = l
                · rw [if_pos z]; omega
                · rw [if_neg z]; exact (a3 l' hl').1
              · rw [ub_eq] at hj
                rw [ub_ne (by omega), ub_eq]
                by_cases w : 3 * l' + j = 3 * l + b 1 l
                · rw [if_pos w]; exact o5
                · rw [if_neg w]
                  by_cases z : l' = l
                  · rw [if_pos z] at hj
                    subst z
                    exact a4 l' j hl' (by omega)
                  · rw [if_neg z] at hj
                    exact a4 l' j hl' hj
            · have e0 : ∀ k, k ≠ 0 → k ≠ 11 + l → k ≠ 16 → (u1 (u1 (fg Mc) (11 + l) (b 1 l) (nI o)) 16 l (nI (b 1 l + 1))).1 k = Mc.1 k := fun k k0 k1 k2 => by rw [u1_ne k2, u1_ne k1, fg_1 k0]
              obtain ⟨c1, ⟨d1, d2, d3⟩, c3, c4, c5, c6, c7⟩ := hc
              refine ⟨CB1_c c1 (fun k k1 k2 => e0 k (by omega) (by omega) (by omega)), ⟨fun l' hl' => ?_, fun l' j hl' hj => ?_, fun l' hl' => ?_⟩, CB3_c c3 (fun k k1 k2 => e0 k (by omega) (by omega) (by omega)), CB4_c c4 (fun k k1 k2 => e0 k (by omega) (by omega) (by omega)), CB5_c c5 (fun k k1 k2 => e0 k (by omega) (by omega) (by omega)), CB6_c c6 rfl, CB7_c c7 (fun k k1 k2 => e0 k (by omega) (by omega) (by omega))⟩
              · rw [u1_eq, ub_eq, e17]
                by_cases z : l' = l
                · rw [if_pos z, if_pos z]
                · rw [if_neg z, if_neg z]; exact d1 l' hl'
              · rw [ub_eq] at hj
                rw [u1_ne (by omega), ub_ne (by omega), ub_eq]
                have a3 := (hv.2.1.2.2.1 l' hl').1
                by_cases z : l' = l
                · subst z
                  rw [if_pos rfl] at hj
                  rw [u1_eq]
                  by_cases w : j = b 1 l'
                  · rw [if_pos w, if_pos (by omega)]
                  · rw [if_neg w, if_neg (by omega), fg_1 (by omega)]
                    exact d2 l' j hl' (by omega)
                · rw [if_neg z] at hj
                  have hj : j < b 1 l' := hj
                  rw [u1_ne (by omega), if_neg (by omega), fg_1 (by omega)]
                  exact d2 l' j hl' hj
              · rw [e0 17 (by omega) (by omega) (by omega)]
                exact d3 l' hl'
            · exact Fresh_c (fg_F Mc) (by rw [u1_ne (by omega), u1_ne (by omega)])
          · rw [if_neg q, if_pos (by omega)]
            exact Or.inl ⟨_, rfl, rfl⟩
    · rw [show f_LinkAudit_isBelow y 5 = some 0 from g1, show f_LinkAuditModel_in y 0 4 = some 0 from g2, bd1_s, bd1_s, i0, i0]
      exact Or.inl ⟨_, rfl, rfl⟩
  · rw [h1, h2, bd1_s, bd1_s, i0, i0]
    exact Or.inl ⟨_, rfl, rfl⟩
theorem any_n (x : Int32) : x = nI x.toBitVec.toNat := Int32.toBitVec_inj.mp (by
  show x.toBitVec = BitVec.ofNat 32 x.toBitVec.toNat
  simp)
theorem m_or {a n : Nat} (ha : a < 4096) (hn : n < 12) : ∃ k, k < 4096 ∧ nI a ||| ((1 : Int32) <<< (nI n &&& 31)) = nI k := by
  have e : ∀ n, n < 12 → (1 : Int32) <<< (nI n &&& 31) = nI (2 ^ n) := by decide +kernel
  rw [e n hn, n_or]
  exact ⟨_, Nat.or_lt_two_pow (n := 12) ha (Nat.pow_lt_pow_right (by decide) hn), rfl⟩
theorem m_and {a n : Nat} (ha : a < 4096) (hn : n < 12) : ∃ k, k < 4096 ∧ nI a &&& (((1 : Int32) <<< (nI n &&& 31)) ^^^ (-1 : Int32)) = nI k := by
  obtain ⟨z, hz⟩ : ∃ z, (((1 : Int32) <<< (nI n &&& 31)) ^^^ (-1 : Int32)) = nI z := ⟨_, any_n _⟩
  rw [hz, n_and]
  exact ⟨_, Nat.lt_of_le_of_lt Nat.and_le_left ha, rfl⟩
theorem mask_new {b : Sp} {Mc Mr : Mem} (h : Base b Mc Mr) {l : Nat} (l1' : 1 ≤ l) (l5 : l < 5) {v : Int32} {k : Nat} (hk : k < 4096) (ev : v = nI k) : Mut Mc Mr (some ((0 : Int32), u1 (fg Mc) 17 l v)) (some ((0 : Int32), u1 Mr 3 l v)) := by
  obtain ⟨hv, hr, hc⟩ := h
  subst ev
  refine Or.inr ⟨_, ub b 3 l k, _, _, rfl, rfl, ⟨?_, RB_u hr (by omega) (by omega) _ _, ?_⟩, Fresh_c (fg_F Mc) (u1_ne (by omega))⟩
  · obtain ⟨v1, ⟨a1, a2, a3, a4⟩, v3, v4, v5, v6, v7, v8⟩ := hv
    refine ⟨v1, ⟨a1, ?_, fun l' hl' => ⟨(a3 l' hl').1, ?_⟩, a4⟩, v3, v4, v5, v6, v7, v8⟩
    · rw [ub_eq, if_neg (by omega)]; exact a2
    · rw [ub_eq]
      by_cases z : l' = l
      · rw [if_pos z]; exact hk
      · rw [if_neg z]; exact (a3 l' hl').2
  · have e0 : ∀ j, j ≠ 0 → j ≠ 17 → (u1 (fg Mc) 17 l (nI k)).1 j = Mc.1 j := fun j j0 j1 => by rw [u1_ne j1, fg_1 j0]
    obtain ⟨c1, ⟨d1, d2, d3⟩, c3, c4, c5, c6, c7⟩ := hc
    refine ⟨CB1_c c1 (fun j k1 k2 => e0 j (by omega) (by omega)), ⟨fun l' hl' => ?_, fun l' j hl' hj => ?_, fun l' hl' => ?_⟩, CB3_c c3 (fun k k1 k2 => e0 k (by omega) (by omega)), CB4_c c4 (fun k k1 k2 => e0 k (by omega) (by omega)), CB5_c c5 (fun k k1 k2 => e0 k (by omega) (by omega)), CB6_c c6 rfl, CB7_c c7 (fun k k1 k2 => e0 k (by omega) (by omega))⟩
    · rw [e0 16 (by omega) (by omega)]; exact d1 l' hl'
    · rw [e0 (11 + l') (by omega) (by omega)]; exact d2 l' j hl' hj
    · rw [u1_eq, ub_eq]
      by_cases z : l' = l
      · rw [if_pos z, if_pos z]
      · rw [if_neg z, if_neg z, fg_1 (by omega)]; exact d3 l' hl'
theorem mut_mask {b : Sp} {Mc Mr : Mem} (h : Base b Mc Mr) (x y z : Int32) : Mut Mc Mr (f_LinkAudit_mask Mc x y z) (f_LinkAuditModel_mask Mr x y z) := by
  obtain ⟨hv, hr, hc⟩ := id h
  unfold f_LinkAudit_mask f_LinkAuditModel_mask
  rcases rgP x with ⟨l, l1', l5, rfl, h1, h2⟩ | ⟨h1, h2⟩
  · rw [h1, h2, bd1_s, bd1_s, i1, i1]
    rcases rg y 12 (by omega) (by omega) with ⟨n, n12, rfl, g1, g2⟩ | ⟨g1, g2⟩
    · have e17 : (fg Mc).1 17 = Mc.1 17 := fg_1 (by omega)
      have hm := (hv.2.1.2.2.1 l l5).2
      rw [show f_LinkAudit_isBelow (nI n) 12 = some 1 from g1, show f_LinkAuditModel_in (nI n) 0 11 = some 1 from g2, bd1_s, bd1_s, i1, i1, f_forget, bd1_s]
      unfold f_Loaders_setMasked f_LinkAuditModel_mask_b55
      by_cases w : z = 0
      · obtain ⟨k, hk, ek⟩ := m_and hm n12
        rw [if_pos w, if_pos w, gd_n (by omega) (by omega), gd_n (by omega) (by omega), n_cl (by omega), e17, hc.2.1.2.2 l l5, sm_s, bd1_s, gd_n (by omega) (by omega), gd_n (by omega) (by omega), hr.2.2.2 3 (by omega) (by omega), sm_s]
        exact mask_new h l1' l5 hk ek
      · obtain ⟨k, hk, ek⟩ := m_or hm n12
        rw [if_neg w, if_neg w, gd_n (by omega) (by omega), gd_n (by omega) (by omega), n_cl (by omega), e17, hc.2.1.2.2 l l5, sm_s, bd1_s, gd_n (by omega) (by omega), gd_n (by omega) (by omega), hr.2.2.2 3 (by omega) (by omega), sm_s]
        exact mask_new h l1' l5 hk ek
    · rw [show f_LinkAudit_isBelow y 12 = some 0 from g1, show f_LinkAuditModel_in y 0 11 = some 0 from g2, bd1_s, bd1_s, i0, i0]
      exact Or.inl ⟨_, rfl, rfl⟩
  · rw [h1, h2, bd1_s, bd1_s, i0, i0]
    exact Or.inl ⟨_, rfl, rfl⟩
