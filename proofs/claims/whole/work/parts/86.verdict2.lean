/-! PURE: verdicts, both sides: the whole -/
theorem b_member {b : Sp} {M R : Mem} (h : Bo b M R) {i d c : Nat} (hi : i < nR b) (h1 : 1 ≤ d) (h2 : d ≤ nC b) (g : good b d) (c1 : 1 ≤ c) (c2 : c ≤ nC b) (gc : good b c) (hk : b 15 (5 * i + 1) / 4 ≠ 0) : Vd b M R i (f_Resolver_memberVerdict M (nI i) (nI d) (nI c)) (f_LinkAuditModel_verdictOf_b153 R (nI (5 * i)) (nI d) (nI (b 15 (5 * i + 1) / 4)) (nI c)) := by
  have hv := h.1
  have hc := h.2.1
  have hr := h.2.2.2.1
  have h12 := hv.1.2.2
  obtain ⟨v0, v1, v2, v3, v4, v5⟩ := hv.2.2.2.2.2.2.2 i hi
  have hmod : b 15 (5 * i + 1) % 4 < 4 := Nat.mod_lt _ (by omega)
  have c7 := hc.2.2.2.2.2.2 i hi
  have sw : Sw M (u1 M 7 5 0) := Sw_u M 0
  have h' : Bo b (u1 M 7 5 0) R := Bo_s h sw (Lq_r R)
  unfold f_Resolver_memberVerdict f_LinkAuditModel_verdictOf_b153 f_References_wantsField
  simp (disch := omega) only [gd_n, n_cl]
  rw [l1, l2, l3, l4, n_add, n_add, n_add]
  simp (disch := omega) only [gd_n, n_cl]
  rw [hr.2.2.2 15 (by omega) (by omega), hr.2.2.2 15 (by omega) (by omega), hr.2.2.2 15 (by omega) (by omega), n_rem (by omega) (by omega) (by omega), c7.2.2.2, i_le (by omega) (by omega)]
  by_cases e : b 15 (5 * i + 1) / 4 = 1 ∨ b 15 (5 * i + 1) / 4 = 2
  · have er : rsig b i = sig 0 (b 15 (5 * i + 1) % 4) (b 15 (5 * i + 3)) 12 := by unfold rsig; rw [if_pos e]
    have hs := sig_lt (show 0 < 2 by omega) hmod v4 (show 12 < 13 by omega)
    rw [er]
    obtain ⟨y, y1, y2⟩ := c_withSig hv hc (g := sig 0 (b 15 (5 * i + 1) % 4) (b 15 (5 * i + 3)) 12) (by omega)
    obtain ⟨k, S, R', k1, k2, k3, k4, k5⟩ := b_ff h c1 c2 gc hmod v4 y1
    have wf : (if (u1 M 7 5 (0 : Int32)).1 34 i = nI 1 then some (nI 1) else if (u1 M 7 5 (0 : Int32)).1 34 i = nI 2 then some (nI 1) else some (0 : Int32)) = some (nI 1) := by
      rw [u1_ne (by omega), c7.2.1, i_eq (by omega) (by omega), i_eq (by omega) (by omega)]
      rcases e with e | e
      · rw [if_pos e]
      · rw [if_neg (by omega), if_pos e]
    rw [y2, bd1_s, sm_s, wf, bd1_s, if_neg (show ¬ nI 1 = 0 by decide), k3, bd2_s, if_neg (show ¬ 3 ≤ b 15 (5 * i + 1) / 4 by omega), k4, bd2_s]
    have sw' : Sw M (u1 M 7 5 (nI S)) := Sw_u M _
    exact b_b51 (Bo_s h sw' k5) sw' k5 hi h1 h2 g k1 k2
  · have er : rsig b i = sig 1 (b 15 (5 * i + 1) % 4) (b 15 (5 * i + 3)) (b 15 (5 * i + 4)) := by unfold rsig; rw [if_neg e]
    have hs := sig_lt (show 1 < 2 by omega) hmod v4 v5
    rw [er]
    obtain ⟨y, y1, y2⟩ := c_withSig hv hc (g := sig 1 (b 15 (5 * i + 1) % 4) (b 15 (5 * i + 3)) (b 15 (5 * i + 4))) (by omega)
    obtain ⟨k, k1, k2, k3, k4⟩ := b_fm h' c1 c2 gc hmod v4 v5 y1
    have wf : (if (u1 M 7 5 (0 : Int32)).1 34 i = nI 1 then some (nI 1) else if (u1 M 7 5 (0 : Int32)).1 34 i = nI 2 then some (nI 1) else some (0 : Int32)) = some (0 : Int32) := by
      rw [u1_ne (by omega), c7.2.1, i_eq (by omega) (by omega), i_eq (by omega) (by omega), if_neg (fun q => e (Or.inl q)), if_neg (fun q => e (Or.inr q))]
    rw [y2, bd1_s, sm_s, wf, bd1_s, i0, k3, bd1_s, if_pos (show 3 ≤ b 15 (5 * i + 1) / 4 by omega), k4, bd1_s]
    exact b_b51 h' sw (Lq_r R) hi h1 h2 g k1 k2
theorem b_verd {b : Sp} {M R : Mem} (h : Bo b M R) {i : Nat} (hi : i < nR b) : Vd b M R i (f_Resolver_verdictOf M (nI i)) (f_LinkAuditModel_verdictOf R (nI i)) := by
  have hv := h.1
  have hc := h.2.1
  have hk := h.2.2.1
  have hr := h.2.2.2.1
  have hp := h.2.2.2.2
  have h12 := hv.1.2.2
  have h16 := hv.1.1
  obtain ⟨v0, v1, v2, v3, v4, v5⟩ := hv.2.2.2.2.2.2.2 i hi
  have c7 := hc.2.2.2.2.2.2 i hi
  have hd := hv.2.2.1 _ v0 v1
  have neg : ∀ v : Int32, v ≤ 0 → Vd b M R i (some (v, M)) (some (v, R)) := fun v q => ⟨v, M, R, rfl, rfl, Sw_r M, Lq_r R, Or.inl q⟩
  unfold f_Resolver_verdictOf f_LinkAuditModel_verdictOf
  rw [l5, l2, n_mul, n_add, show nI (5 * i) + (1 : Int32) = nI (5 * i + 1) from n_add _ 1]
  simp (disch := omega) only [gd_n, n_cl]
  rw [hr.2.2.2 15 (by omega) (by omega), hr.2.2.2 15 (by omega) (by omega), hr.2.2.2 15 (by omega) (by omega), c7.1, c7.2.2.1, c7.2.1, n_cl (show b 15 (5 * i) < 1000000 by omega), gd_n (show b 15 (5 * i) < 17 by omega) (by omega), gd_n (show b 15 (5 * i) < 17 by omega) (by omega), (hp.1 _ v0 v1).1, hr.2.2.2 4 (by omega) (by omega), c_isL hv hk v0 v1, bd1_s, i_hb]
  by_cases e : cde b (b 15 (5 * i)) = 0
  · have gd' := (cde_0 hv v0 v1).mp e
    rw [if_pos e, if_pos e, r_found hv hr (by omega) v3, bd1_s]
    have hf := fnd_le hv (b 4 (b 15 (5 * i))) (b 15 (5 * i + 2))
    rcases b_resolved h v0 v1 v3 with ⟨v, r1, r2, r3, r4⟩ | ⟨r1, r2, r3, r4⟩
    · rw [r1, bd1_s, if_neg r2]
      rcases r4 with ⟨q1, q2⟩ | ⟨q1, q2, q3⟩ | ⟨q1, q2, q3, q4⟩
      · rw [q1, if_pos (show nI 0 = 0 from rfl), q2]
        exact neg _ (by decide)
      · generalize fnd b (b 4 (b 15 (5 * i))) (b 15 (5 * i + 2)) = c at *
        rw [i_eq0 (by omega), if_neg q1, gd_n (by omega) (by omega), n_cl (by omega), (hp.1 c (by omega) hf).1, if_neg q2, gd_n (by omega) (by omega), ← q3]
        exact neg _ r3
      · generalize fnd b (b 4 (b 15 (5 * i))) (b 15 (5 * i + 2)) = c at *
        rw [i_eq0 (by omega), if_neg q1, gd_n (by omega) (by omega), n_cl (by omega), (hp.1 c (by omega) hf).1, if_pos q2, r_mu hv hr v0 v1 (by omega) hf, bd1_s, i_hb, if_neg q3, q4]
        exact neg _ (by decide)
    · rw [r1, bd1_s]
      generalize fnd b (b 4 (b 15 (5 * i))) (b 15 (5 * i + 2)) = c at *
      have gc := (cde_0 hv (show 1 ≤ c by omega) hf).mp r3
      have hcc := hv.2.2.1 c (by omega) hf
      have d4 : nI (b 15 (5 * i + 1)) / (4 : Int32) = nI (b 15 (5 * i + 1) / 4) := n_div (a := b 15 (5 * i + 1)) (d := 4) (by omega) (by omega) (by omega)
      rw [i_ge0 (by omega), i_eq0 (show c < 1000000 by omega), if_neg r2, gd_n (show c < 17 by omega) (by omega), n_cl (show c < 1000000 by omega), (hp.1 c (by omega) hf).1, if_pos r3, r_mu hv hr v0 v1 (by omega) hf, bd1_s, i_hb, if_pos r4, d4, i_eq0 (show b 15 (5 * i + 1) / 4 < 1000000 by omega), i_eq0 (show b 15 (5 * i + 1) / 4 < 1000000 by omega)]
      by_cases k0 : b 15 (5 * i + 1) / 4 = 0
      · rw [if_pos k0, if_pos k0, c_isA hv hc (by omega) hf, bd1_s, gd_n (by omega) (by omega), hr.2.2.2 6 (by omega) (by omega), l12, i_and (by omega)]
        by_cases q : b 6 c &&& 12 = 0
        · rw [if_pos q, i0, if_pos q]
          exact ⟨_, M, R, rfl, rfl, Sw_r M, Lq_r R, Or.inr (Or.inl k0)⟩
        · rw [if_neg q, i1, if_neg q]
          exact neg _ (by decide)
      · rw [if_neg k0, if_neg k0]
        unfold f_Resolver_isKindOfClass
        rw [l3, l5, i_eq (by omega) (by omega), i_eq (by omega) (by omega), i_eq (by omega) (by omega), c_isI hv hc (by omega) hf, bd1_s, bd1_s]
        have mem : Vd b M R i (bd2 (f_Resolver_memberVerdict M (nI i) (nI (b 15 (5 * i))) (nI c)) (fun r5 M4 => some (r5, M4))) (f_LinkAuditModel_verdictOf_b153 R (nI (5 * i)) (nI (b 15 (5 * i))) (nI (b 15 (5 * i + 1) / 4)) (nI c)) := by
          obtain ⟨v, M', R', w1, w2, w3⟩ := b_member h hi v0 v1 gd' (show 1 ≤ c by omega) hf gc k0
          exact ⟨v, M', R', by rw [w1, bd2_s], w2, w3⟩
        unfold f_LinkAuditModel_verdictOf_b135
        rw [l5, i_eq (show b 15 (5 * i + 1) / 4 < 1000000 by omega) (by omega)]
        rw [r_isI hv hr (by omega) hf, bd1_s, bd1_s]
        by_cases k3 : b 15 (5 * i + 1) / 4 = 3
        · rw [if_pos k3, if_pos k3, if_neg (show ¬ b 15 (5 * i + 1) / 4 = 5 by omega)]
          by_cases q : b 6 c &&& 8 = 0
          · rw [if_pos q, i0, i0, bd1_s, i1]
            exact mem
          · rw [if_neg q, i1, i1, bd1_s, i0]
            exact neg _ (by decide)
        · rw [if_neg k3, if_neg k3]
          by_cases k5 : b 15 (5 * i + 1) / 4 = 5
          · rw [if_pos k5, if_pos k5]
            by_cases q : b 6 c &&& 8 = 0
            · rw [if_pos q, i0, i0, bd1_s, i0]
              exact neg _ (by decide)
            · rw [if_neg q, i1, i1, bd1_s, i1]
              exact mem
          · rw [if_neg k5, if_neg k5, bd1_s, i1]
            exact mem
  · rw [if_neg e, if_neg e]
    exact neg _ (by decide)
