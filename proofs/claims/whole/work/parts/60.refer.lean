/-! PURE: reference -/
def bR (b : Sp) (d k n f s : Nat) : Sp := ub (ub (ub (ub (ub (ub b 15 (5 * nR b) d) 15 (5 * nR b + 1) k) 15 (5 * nR b + 2) n) 15 (5 * nR b + 3) f) 15 (5 * nR b + 4) s) 0 16 (nR b + 1)
theorem bR_15 (b : Sp) (d k n f s i : Nat) : bR b d k n f s 15 i = if i = 5 * nR b + 4 then s else if i = 5 * nR b + 3 then f else if i = 5 * nR b + 2 then n else if i = 5 * nR b + 1 then k else if i = 5 * nR b then d else b 15 i := rfl
theorem bR_n (b : Sp) (d k n f s : Nat) : nR (bR b d k n f s) = nR b + 1 := rfl
theorem bR_old {b : Sp} {d k n f s i : Nat} (h : i < 5 * nR b) : bR b d k n f s 15 i = b 15 i := by
  rw [bR_15, if_neg (by omega), if_neg (by omega), if_neg (by omega), if_neg (by omega), if_neg (by omega)]
theorem bR_new (b : Sp) (d k n f s : Nat) : bR b d k n f s 15 (5 * nR b) = d ∧ bR b d k n f s 15 (5 * nR b + 1) = k ∧ bR b d k n f s 15 (5 * nR b + 2) = n ∧ bR b d k n f s 15 (5 * nR b + 3) = f ∧ bR b d k n f s 15 (5 * nR b + 4) = s := by
  refine ⟨?_, ?_, ?_, ?_, ?_⟩
  · rw [bR_15, if_neg (by omega), if_neg (by omega), if_neg (by omega), if_neg (by omega), if_pos rfl]
  · rw [bR_15, if_neg (by omega), if_neg (by omega), if_neg (by omega), if_pos rfl]
  · rw [bR_15, if_neg (by omega), if_neg (by omega), if_pos rfl]
  · rw [bR_15, if_neg (by omega), if_pos rfl]
  · rw [bR_15, if_pos rfl]
theorem rsig_old {b : Sp} {d k n f s i : Nat} (h : i < nR b) : rsig (bR b d k n f s) i = rsig b i := by
  unfold rsig
  rw [bR_old (by omega), bR_old (by omega), bR_old (by omega)]
theorem rsig_new (b : Sp) (d k n f s : Nat) : rsig (bR b d k n f s) (nR b) = if k / 4 = 1 ∨ k / 4 = 2 then sig 0 (k % 4) f 12 else sig 1 (k % 4) f s := by
  unfold rsig
  rw [(bR_new b d k n f s).2.1, (bR_new b d k n f s).2.2.2.1, (bR_new b d k n f s).2.2.2.2]
theorem c_radd {b : Sp} {M : Mem} (hc : CB b M) {d k n f s : Nat} (hk : k < 24) (hf : f < 13) (hs : s < 13) (h12 : nR b < 12) : f_References_add (fg M) (nI d) (nI k) (nI n) (nI f) (nI s) = some (nI (nR b), u1 (u1 (u1 (u1 (u1 (fg M) 33 (nR b) (nI d)) 34 (nR b) (nI (k / 4))) 35 (nR b) (nI n)) 36 (nR b) (nI (if k / 4 = 1 ∨ k / 4 = 2 then sig 0 (k % 4) f 12 else sig 1 (k % 4) f s))) 4 4 (nI (nR b + 1))) := by
  have h4 : (fg M).1 4 4 = nI (nR b) := by rw [fg_1 (by omega)]; exact hc.1.2.2
  have ek : nI k / (4 : Int32) = nI (k / 4) := n_div (a := k) (d := 4) (by omega) (by omega) (by omega)
  have er : nI k - nI (k / 4) * (4 : Int32) = nI (k % 4) := by
    have := n_rem (a := k) (d := 4) (by omega) (by omega) (by omega)
    rw [show nI k / nI 4 = nI (k / 4) from n_div (a := k) (d := 4) (by omega) (by omega) (by omega)] at this
    exact this
  unfold f_References_add f_References_add_b61 f_References_add_b80 f_Members_fieldSignature f_Members_methodSignature
  rw [ek, er]
  simp (disch := omega) only [h4, gd_n, n_cl, sm_s, u1_ne, bd1_s]
  have e1 : ∀ {α : Type} {u v : α}, (if nI (k / 4) = (1 : Int32) then u else v) = if k / 4 = 1 then u else v := i_eq (b := 1) (by omega) (by omega)
  have e2 : ∀ {α : Type} {u v : α}, (if nI (k / 4) = (2 : Int32) then u else v) = if k / 4 = 2 then u else v := i_eq (b := 2) (by omega) (by omega)
  have g0 : nI (k % 4) * (13 : Int32) + nI f = nI (k % 4 * 13 + f) := by rw [l13, n_mul, n_add]
  have s0 : (nI (k % 4) * (13 : Int32) + nI f) * (13 : Int32) + (12 : Int32) = nI (sig 0 (k % 4) f 12) := by
    rw [g0, l13, l12, n_mul, n_add]
    congr 1
    unfold sig
    omega
  have s1 : (((4 : Int32) + nI (k % 4)) * (13 : Int32) + nI f) * (13 : Int32) + nI s = nI (sig 1 (k % 4) f s) := by
    rw [l4, l13, n_add, n_mul, n_add, n_mul, n_add]
    congr 1
  rw [e1, e2, s0, s1, l1, n_add]
  have fin : ∀ z : Nat, (u1 (u1 (u1 (u1 (u1 (fg M) 33 (nR b) (nI d)) 34 (nR b) (nI (k / 4))) 35 (nR b) (nI n)) 36 (nR b) (nI z)) 4 4 (nI (nR b + 1))).1 4 4 - nI 1 = nI (nR b) := by
    intro z
    rw [u1_eq, if_pos rfl, n_sub (by omega)]
    rfl
  rw [fin, fin]
  by_cases z : k / 4 = 1
  · rw [if_pos z, if_pos (Or.inl z)]
  · rw [if_neg z]
    by_cases y : k / 4 = 2
    · rw [if_pos y, if_pos (Or.inr y)]
    · rw [if_neg y, if_neg (fun q => q.elim z y)]
theorem ref_base {b : Sp} {Mc Mr : Mem} (h : Base b Mc Mr) {d k n f s : Nat} (h1 : 1 ≤ d) (h2 : d ≤ nC b) (hk : k < 24) (hn : n < 12) (hf : f < 13) (hs : s < 13) (h12 : nR b < 12) :
    Base (bR b d k n f s) (u1 (u1 (u1 (u1 (u1 (fg Mc) 33 (nR b) (nI d)) 34 (nR b) (nI (k / 4))) 35 (nR b) (nI n)) 36 (nR b) (nI (if k / 4 = 1 ∨ k / 4 = 2 then sig 0 (k % 4) f 12 else sig 1 (k % 4) f s))) 4 4 (nI (nR b + 1))) (u1 (u1 (u1 (u1 (u1 (u1 Mr 15 (5 * nR b) (nI d)) 15 (5 * nR b + 1) (nI k)) 15 (5 * nR b + 2) (nI n)) 15 (5 * nR b + 3) (nI f)) 15 (5 * nR b + 4) (nI s)) 0 16 (nI (nR b + 1))) ∧ Fresh (u1 (u1 (u1 (u1 (u1 (fg Mc) 33 (nR b) (nI d)) 34 (nR b) (nI (k / 4))) 35 (nR b) (nI n)) 36 (nR b) (nI (if k / 4 = 1 ∨ k / 4 = 2 then sig 0 (k % 4) f 12 else sig 1 (k % 4) f s))) 4 4 (nI (nR b + 1))) := by
  obtain ⟨hv, hr, hc⟩ := h
  have e0 : ∀ j, j ≠ 0 → j ≠ 4 → (j < 33 ∨ 36 < j) → (u1 (u1 (u1 (u1 (u1 (fg Mc) 33 (nR b) (nI d)) 34 (nR b) (nI (k / 4))) 35 (nR b) (nI n)) 36 (nR b) (nI (if k / 4 = 1 ∨ k / 4 = 2 then sig 0 (k % 4) f 12 else sig 1 (k % 4) f s))) 4 4 (nI (nR b + 1))).1 j = Mc.1 j := fun j j0 j1 j2 => by
    rw [u1_ne (by omega), u1_ne (by omega), u1_ne (by omega), u1_ne (by omega), u1_ne (by omega), fg_1 j0]
  refine ⟨⟨?_, ?_, ?_⟩, ?_⟩
  · obtain ⟨v1, v2, v3, v4, v5, v6, v7, v8⟩ := hv
    refine ⟨⟨v1.1, v1.2.1, by rw [bR_n]; omega⟩, v2, v3, v4, v5, v6, v7, fun i hi => ?_⟩
    rw [bR_n] at hi
    show 1 ≤ bR b d k n f s 15 (5 * i) ∧ bR b d k n f s 15 (5 * i) ≤ nC b ∧ _
    by_cases e : i = nR b
    · subst e
      obtain ⟨q0, q1, q2, q3, q4⟩ := bR_new b d k n f s
      rw [q0, q1, q2, q3, q4]
      exact ⟨h1, h2, hk, hn, hf, hs⟩
    · rw [bR_old (by omega), bR_old (by omega), bR_old (by omega), bR_old (by omega), bR_old (by omega)]
      exact v8 i (by omega)
  · exact (RB_0 (RB_u (RB_u (RB_u (RB_u (RB_u hr (by omega) (by omega) _ _) (by omega) (by omega) _ _) (by omega) (by omega) _ _) (by omega) (by omega) _ _) (by omega) (by omega) _ _) _).2.2
  · obtain ⟨⟨c1, c2, c3⟩, cb2, cb3, cb4, cb5, cb6, cb7⟩ := hc
    refine ⟨⟨?_, ?_, ?_⟩, CB2_c (b := bR b d k n f s) cb2 (fun j k1 k2 => e0 j (by omega) (by omega) (by omega)), CB3_c (b := bR b d k n f s) cb3 (fun j k1 k2 => e0 j (by omega) (by omega) (by omega)), CB4_c (b := bR b d k n f s) cb4 (fun j k1 k2 => e0 j (by omega) (by omega) (by omega)), CB5_c (b := bR b d k n f s) cb5 (fun j k1 k2 => e0 j (by omega) (by omega) (by omega)), CB6_c (b := bR b d k n f s) cb6 rfl, fun i hi => ?_⟩
    · rw [e0 2 (by omega) (by omega) (by omega)]; exact c1
    · rw [e0 3 (by omega) (by omega) (by omega)]; exact c2
    · rw [u1_eq, if_pos rfl]; rfl
    · rw [bR_n] at hi
      by_cases e : i = nR b
      · subst e
        obtain ⟨q0, q1, q2, q3, q4⟩ := bR_new b d k n f s
        rw [q0, q1, q2, rsig_new]
        simp (disch := omega) only [u1_eq, u1_ne, if_true]
        refine ⟨?_, ?_, ?_, ?_⟩ <;> trivial
      · rw [bR_old (by omega), bR_old (by omega), bR_old (by omega), rsig_old (by omega)]
        simp (disch := omega) only [u1_eq, u1_ne, if_neg e, fg_1]
        exact cb7 i (by omega)
  · exact Fresh_c (fg_F Mc) (by simp (disch := omega) only [u1_ne])
theorem mut_reference {b : Sp} {Mc Mr : Mem} (h : Base b Mc Mr) (x1 x2 x3 x4 x5 : Int32) : Mut Mc Mr (f_LinkAudit_reference Mc x1 x2 x3 x4 x5) (f_LinkAuditModel_reference Mr x1 x2 x3 x4 x5) := by
  unfold f_LinkAudit_reference f_LinkAuditModel_reference
  rcases rgC h x1 with ⟨c, c1, c2, rfl, p1, q1⟩ | ⟨p1, q1⟩
  · rw [p1, q1, bd1_s, bd1_s, i1, i1]
    rcases rg x2 24 (by omega) (by omega) with ⟨k, hk, rfl, p2, q2⟩ | ⟨p2, q2⟩
    · rw [show f_LinkAudit_isBelow (nI k) 24 = some 1 from p2, show f_LinkAuditModel_in (nI k) 0 23 = some 1 from q2, bd1_s, bd1_s, i1, i1]
      rcases rg x3 12 (by omega) (by omega) with ⟨n, hn, rfl, p3, q3⟩ | ⟨p3, q3⟩
      · rw [show f_LinkAudit_isBelow (nI n) 12 = some 1 from p3, show f_LinkAuditModel_in (nI n) 0 11 = some 1 from q3, bd1_s, bd1_s, i1, i1]
        rcases rg x4 13 (by omega) (by omega) with ⟨f, hf, rfl, p4, q4⟩ | ⟨p4, q4⟩
        · rw [show f_LinkAudit_isBelow (nI f) 13 = some 1 from p4, show f_LinkAuditModel_in (nI f) 0 12 = some 1 from q4, bd1_s, bd1_s, i1, i1]
          rcases rg x5 13 (by omega) (by omega) with ⟨s, hs, rfl, p5, q5⟩ | ⟨p5, q5⟩
          · rw [show f_LinkAudit_isBelow (nI s) 13 = some 1 from p5, show f_LinkAuditModel_in (nI s) 0 12 = some 1 from q5, bd1_s, bd1_s, i1, i1]
            obtain ⟨hv, hr, hc⟩ := id h
            have h12 := hv.1.2.2
            by_cases q : nR b < 12
            · have e1 : Mc.1 4 4 < 12 := by rw [hc.1.2.2, l12, n_lt (by omega) (by omega)]; exact q
              have e2 : ¬ Mr.1 0 16 = 12 := by rw [hr.2.2.1, l12, n_eq (by omega) (by omega)]; omega
              rw [if_pos e1, if_neg e2, f_forget, bd1_s, c_radd hc hk hf hs q, bd2_s]
              simp (disch := omega) only [sm_s, u1_eq, u1_ne, if_true]
              rw [hr.2.2.1, l5, n_mul, l1, l2, l3, l4]
              simp (disch := omega) only [n_add, gd_n, n_cl]
              rw [n_sub (show 1 ≤ nR b + 1 by omega), show nR b + 1 - 1 = nR b by omega]
              obtain ⟨g1, g2⟩ := ref_base h c1 c2 hk hn hf hs q
              exact Or.inr ⟨_, _, _, _, rfl, rfl, g1, g2⟩
            · have e1 : ¬ Mc.1 4 4 < 12 := by rw [hc.1.2.2, l12, n_lt (by omega) (by omega)]; exact q
              have e2 : Mr.1 0 16 = 12 := by rw [hr.2.2.1, l12, n_eq (by omega) (by omega)]; omega
              rw [if_neg e1, if_pos e2]
              exact Or.inl ⟨_, rfl, rfl⟩
          · rw [show f_LinkAudit_isBelow x5 13 = some 0 from p5, show f_LinkAuditModel_in x5 0 12 = some 0 from q5, bd1_s, bd1_s, i0, i0]
            exact Or.inl ⟨_, rfl, rfl⟩
        · rw [show f_LinkAudit_isBelow x4 13 = some 0 from p4, show f_LinkAuditModel_in x4 0 12 = some 0 from q4, bd1_s, bd1_s, i0, i0]
          exact Or.inl ⟨_, rfl, rfl⟩
      · rw [show f_LinkAudit_isBelow x3 12 = some 0 from p3, show f_LinkAuditModel_in x3 0 11 = some 0 from q3, bd1_s, bd1_s, i0, i0]
        exact Or.inl ⟨_, rfl, rfl⟩
    · rw [show f_LinkAudit_isBelow x2 24 = some 0 from p2, show f_LinkAuditModel_in x2 0 23 = some 0 from q2, bd1_s, bd1_s, i0, i0]
      exact Or.inl ⟨_, rfl, rfl⟩
  · rw [p1, q1, bd1_s, bd1_s, i0, i0]
    exact Or.inl ⟨_, rfl, rfl⟩
