/-! PURE: field, method, reference -/
theorem rgC {b : Sp} {Mc Mr : Mem} (h : Base b Mc Mr) (a : Int32) : (∃ k, 1 ≤ k ∧ k ≤ nC b ∧ a = nI k ∧ f_LinkAudit_isClass Mc a = some 1 ∧ f_LinkAuditModel_in a 1 (Mr.1 0 3) = some 1) ∨ (f_LinkAudit_isClass Mc a = some 0 ∧ f_LinkAuditModel_in a 1 (Mr.1 0 3) = some 0) := by
  obtain ⟨hv, hr, hc⟩ := h
  have h16 := hv.1.1
  unfold f_LinkAudit_isClass f_LinkAuditModel_in
  rw [hr.1, hc.1.1]
  by_cases z : a < 1
  · rw [if_pos z]; exact Or.inr ⟨rfl, rfl⟩
  · rw [if_neg z]
    by_cases y : nI (nC b) < a
    · rw [if_pos y]; exact Or.inr ⟨rfl, rfl⟩
    · rw [if_neg y]
      have z0 : ¬ a < 0 := fun q => z (Int32.lt_trans q (by decide))
      obtain ⟨k, hk, rfl⟩ := nI_of z0
      rw [nI_ltI (by omega) hk] at y
      rw [l1, nI_ltI hk (by omega)] at z
      exact Or.inl ⟨k, by omega, by omega, rfl, rfl, rfl⟩
theorem mut_bd {Mc Mr : Mem} {x y : Option (Int32 × Mem)} (h : Mut Mc Mr x y) : Mut Mc Mr (bd2 x (fun r M => some (r, M))) (bd2 y (fun r M => some (r, M))) := by
  rcases h with ⟨r, e1, e2⟩ | ⟨r, b', Nc, Nr, e1, e2, e3, e4⟩
  · rw [e1, e2]; exact Or.inl ⟨r, rfl, rfl⟩
  · rw [e1, e2]; exact Or.inr ⟨r, b', Nc, Nr, rfl, rfl, e3, e4⟩
theorem mut_field {b : Sp} {Mc Mr : Mem} (h : Base b Mc Mr) (x1 x2 x3 x4 : Int32) : Mut Mc Mr (f_LinkAudit_field Mc x1 x2 x3 x4) (f_LinkAuditModel_field Mr x1 x2 x3 x4) := by
  unfold f_LinkAudit_field f_LinkAuditModel_field
  rcases rgC h x1 with ⟨c, c1, c2, rfl, p1, q1⟩ | ⟨p1, q1⟩
  · rw [p1, q1, bd1_s, bd1_s, i1, i1]
    rcases rg x2 4 (by omega) (by omega) with ⟨n, hn, rfl, p2, q2⟩ | ⟨p2, q2⟩
    · rw [show f_LinkAudit_isBelow (nI n) 4 = some 1 from p2, show f_LinkAuditModel_in (nI n) 0 3 = some 1 from q2, bd1_s, bd1_s, i1, i1]
      rcases rg x3 13 (by omega) (by omega) with ⟨f, hf, rfl, p3, q3⟩ | ⟨p3, q3⟩
      · rw [show f_LinkAudit_isBelow (nI f) 13 = some 1 from p3, show f_LinkAuditModel_in (nI f) 0 12 = some 1 from q3, bd1_s, bd1_s, i1, i1]
        rcases rg x4 8 (by omega) (by omega) with ⟨g, hg, rfl, p4, q4⟩ | ⟨p4, q4⟩
        · rw [show f_LinkAudit_isBelow (nI g) 8 = some 1 from p4, show f_LinkAuditModel_in (nI g) 0 7 = some 1 from q4, bd1_s, bd1_s, i1, i1]
          unfold f_Members_fieldSignature
          rw [bd1_s, l13, l12, n_mul, n_add, n_mul, n_add, show (n * 13 + f) * 13 + 12 = sig 0 n f 12 by unfold sig; omega, l0]
          exact mut_bd (mut_add h c1 c2 (by omega) hn hf (by omega) (by omega) (fun _ => ⟨rfl, hg⟩) (fun q => absurd q (by omega)))
        · rw [show f_LinkAudit_isBelow x4 8 = some 0 from p4, show f_LinkAuditModel_in x4 0 7 = some 0 from q4, bd1_s, bd1_s, i0, i0]
          exact Or.inl ⟨_, rfl, rfl⟩
      · rw [show f_LinkAudit_isBelow x3 13 = some 0 from p3, show f_LinkAuditModel_in x3 0 12 = some 0 from q3, bd1_s, bd1_s, i0, i0]
        exact Or.inl ⟨_, rfl, rfl⟩
    · rw [show f_LinkAudit_isBelow x2 4 = some 0 from p2, show f_LinkAuditModel_in x2 0 3 = some 0 from q2, bd1_s, bd1_s, i0, i0]
      exact Or.inl ⟨_, rfl, rfl⟩
  · rw [p1, q1, bd1_s, bd1_s, i0, i0]
    exact Or.inl ⟨_, rfl, rfl⟩
/-- isInterface, on both sides -/
theorem c_isI {b : Sp} {M : Mem} (hv : BV b) (hc : CB b M) {k : Nat} (h1 : 1 ≤ k) (h2 : k ≤ nC b) : f_Classes_isInterface M (nI k) = some (if b 6 k &&& 8 = 0 then 0 else 1) := by
  have h16 := hv.1.1
  have hf := (hv.2.2.1 k h1 h2).2.2.1
  unfold f_Classes_isInterface
  rw [gd_n (by omega) (by omega), n_cl (by omega), (hc.2.2.2.1 k h1 h2).2.2.1, l8, i_and (by omega)]
  by_cases z : b 6 k &&& 8 = 0
  · rw [if_pos z, if_pos z]
  · rw [if_neg z, if_neg z]
theorem r_isI {b : Sp} {R : Mem} (hv : BV b) (hr : RB b R) {k : Nat} (h1 : 1 ≤ k) (h2 : k ≤ nC b) : f_LinkAuditModel_isInterface R (nI k) = some (if b 6 k &&& 8 = 0 then 0 else 1) := by
  have h16 := hv.1.1
  have hf := (hv.2.2.1 k h1 h2).2.2.1
  unfold f_LinkAuditModel_isInterface
  rw [gd_n (by omega) (by omega), n_cl (by omega), hr.2.2.2 6 (by omega) (by omega), l8, i_and (by omega)]
  by_cases z : b 6 k &&& 8 = 0
  · rw [if_pos z, if_pos z]
  · rw [if_neg z, if_neg z]
theorem mut_m102 {b : Sp} {Mc Mr : Mem} (h : Base b Mc Mr) {c n f s g : Nat} (c1 : 1 ≤ c) (c2 : c ≤ nC b) (hn : n < 4) (hf : f < 13) (hs : s < 13) (hg : g < 16) (hb : g &&& 8 ≠ 0 → g &&& 3 ≠ 3 ∧ g &&& 4 = 0) : Mut Mc Mr (f_LinkAudit_method_b102 Mc (nI c) (nI n) (nI f) (nI s) (nI g)) (f_LinkAuditModel_method_b103 Mr (nI c) (nI n) (nI f) (nI s) (nI g)) := by
  unfold f_LinkAudit_method_b102 f_LinkAuditModel_method_b103 f_Members_methodSignature
  rw [bd1_s, l4, l13, n_add, n_mul, n_add, n_mul, n_add, show ((4 + n) * 13 + f) * 13 + s = sig 1 n f s by unfold sig; omega, l1]
  exact mut_bd (mut_add h c1 c2 (by omega) hn hf hs hg (fun q => absurd q (by omega)) (fun _ => hb))
theorem mut_m79 {b : Sp} {Mc Mr : Mem} (h : Base b Mc Mr) {c n f s g : Nat} (c1 : 1 ≤ c) (c2 : c ≤ nC b) (hn : n < 4) (hf : f < 13) (hs : s < 13) (hg : g < 16) : Mut Mc Mr (f_LinkAudit_method_b79 Mc (nI c) (nI n) (nI f) (nI s) (nI g) (nI g &&& 3)) (f_LinkAuditModel_method_b80 Mr (nI c) (nI n) (nI f) (nI s) (nI g) (nI g &&& 3)) := by
  have h3 := @Nat.and_le_left g 3
  unfold f_LinkAudit_method_b79 f_LinkAuditModel_method_b80
  have e8 : ∀ {α : Type} {u v : α}, (if (nI g &&& (8 : Int32)) = 0 then u else v) = if g &&& 8 = 0 then u else v := i_and (c := 8) (by omega)
  have e4 : ∀ {α : Type} {u v : α}, (if (nI g &&& (4 : Int32)) = 0 then u else v) = if g &&& 4 = 0 then u else v := i_and (c := 4) (by omega)
  have e3 : ∀ {α : Type} {u v : α}, (if (nI g &&& (3 : Int32)) = (3 : Int32) then u else v) = if g &&& 3 = 3 then u else v := by
    intro α u v
    rw [l3, n_and, i_eq (by omega) (by omega)]
  rw [e8, e8, e4, e4, e3, e3]
  by_cases z : g &&& 8 = 0
  · rw [if_pos z, if_pos z]
    exact mut_m102 h c1 c2 hn hf hs hg (fun q => absurd z q)
  · rw [if_neg z, if_neg z]
    by_cases y : g &&& 3 = 3
    · rw [if_pos y, if_pos y]; exact Or.inl ⟨_, rfl, rfl⟩
    · rw [if_neg y, if_neg y]
      by_cases w : g &&& 4 = 0
      · rw [if_pos w, if_pos w]
        exact mut_m102 h c1 c2 hn hf hs hg (fun _ => ⟨y, w⟩)
      · rw [if_neg w, if_neg w]; exact Or.inl ⟨_, rfl, rfl⟩
theorem mut_method {b : Sp} {Mc Mr : Mem} (h : Base b Mc Mr) (x1 x2 x3 x4 x5 : Int32) : Mut Mc Mr (f_LinkAudit_method Mc x1 x2 x3 x4 x5) (f_LinkAuditModel_method Mr x1 x2 x3 x4 x5) := by
  unfold f_LinkAudit_method f_LinkAuditModel_method
  rcases rgC h x1 with ⟨c, c1, c2, rfl, p1, q1⟩ | ⟨p1, q1⟩
  · rw [p1, q1, bd1_s, bd1_s, i1, i1]
    rcases rg x2 4 (by omega) (by omega) with ⟨n, hn, rfl, p2, q2⟩ | ⟨p2, q2⟩
    · rw [show f_LinkAudit_isBelow (nI n) 4 = some 1 from p2, show f_LinkAuditModel_in (nI n) 0 3 = some 1 from q2, bd1_s, bd1_s, i1, i1]
      rcases rg x3 13 (by omega) (by omega) with ⟨f, hf, rfl, p3, q3⟩ | ⟨p3, q3⟩
      · rcases rg x4 13 (by omega) (by omega) with ⟨s, hs, rfl, p4, q4⟩ | ⟨p4, q4⟩
        · rcases rg x5 16 (by omega) (by omega) with ⟨g, hg, rfl, p5, q5⟩ | ⟨p5, q5⟩
          · rw [show f_LinkAudit_isBelow (nI g) 16 = some 1 from p5, show f_LinkAuditModel_in (nI g) 0 15 = some 1 from q5, show f_LinkAudit_isBelow (nI f) 13 = some 1 from p3, show f_LinkAuditModel_in (nI f) 0 12 = some 1 from q3, show f_LinkAudit_isBelow (nI s) 13 = some 1 from p4, show f_LinkAuditModel_in (nI s) 0 12 = some 1 from q4, c_isI h.1 h.2.2 c1 c2, r_isI h.1 h.2.1 c1 c2]
            simp only [bd1_s]
            have h3 := @Nat.and_le_left g 3
            have e3 : ∀ {α : Type} {u v : α}, (if (nI g &&& (3 : Int32)) = (3 : Int32) then u else v) = if g &&& 3 = 3 then u else v := by
              intro α u v
              rw [l3, n_and, i_eq (by omega) (by omega)]
            have e0 : ∀ {α : Type} {u v : α}, (if (nI g &&& (3 : Int32)) = 0 then u else v) = if g &&& 3 = 0 then u else v := i_and (c := 3) (by omega)
            rw [i1, i1, i1, i1, i1, i1, e3, e3, e0, e0]
            by_cases z : b 6 c &&& 8 = 0
            · rw [if_pos z, i0, i0]
              exact mut_m79 h c1 c2 hn hf hs hg
            · rw [if_neg z, i1, i1]
              by_cases y : g &&& 3 = 0
              · rw [if_pos y, if_pos y]
                exact mut_m79 h c1 c2 hn hf hs hg
              · rw [if_neg y, if_neg y]
                by_cases w : g &&& 3 = 3
                · rw [if_pos w, if_pos w]
                  exact mut_m79 h c1 c2 hn hf hs hg
                · rw [if_neg w, if_neg w]
                  exact Or.inl ⟨_, rfl, rfl⟩
          · rw [show f_LinkAudit_isBelow x5 16 = some 0 from p5, show f_LinkAuditModel_in x5 0 15 = some 0 from q5, show f_LinkAuditModel_in (nI f) 0 12 = some 1 from q3, show f_LinkAuditModel_in (nI s) 0 12 = some 1 from q4]
            exact Or.inl ⟨-1, rfl, rfl⟩
        · rcases rg x5 16 (by omega) (by omega) with ⟨g, hg, rfl, p5, q5⟩ | ⟨p5, q5⟩
          · rw [show f_LinkAudit_isBelow (nI g) 16 = some 1 from p5, show f_LinkAudit_isBelow (nI f) 13 = some 1 from p3, show f_LinkAuditModel_in (nI f) 0 12 = some 1 from q3, show f_LinkAudit_isBelow x4 13 = some 0 from p4, show f_LinkAuditModel_in x4 0 12 = some 0 from q4]
            exact Or.inl ⟨-1, rfl, rfl⟩
          · rw [show f_LinkAudit_isBelow x5 16 = some 0 from p5, show f_LinkAuditModel_in (nI f) 0 12 = some 1 from q3, show f_LinkAuditModel_in x4 0 12 = some 0 from q4]
            exact Or.inl ⟨-1, rfl, rfl⟩
      · rcases rg x5 16 (by omega) (by omega) with ⟨g, hg, rfl, p5, q5⟩ | ⟨p5, q5⟩
        · rw [show f_LinkAudit_isBelow (nI g) 16 = some 1 from p5, show f_LinkAudit_isBelow x3 13 = some 0 from p3, show f_LinkAuditModel_in x3 0 12 = some 0 from q3]
          exact Or.inl ⟨-1, rfl, rfl⟩
        · rw [show f_LinkAudit_isBelow x5 16 = some 0 from p5, show f_LinkAuditModel_in x3 0 12 = some 0 from q3]
          exact Or.inl ⟨-1, rfl, rfl⟩
    · rw [show f_LinkAudit_isBelow x2 4 = some 0 from p2, show f_LinkAuditModel_in x2 0 3 = some 0 from q2, bd1_s, bd1_s, i0, i0]
      exact Or.inl ⟨_, rfl, rfl⟩
  · rw [p1, q1, bd1_s, bd1_s, i0, i0]
    exact Or.inl ⟨_, rfl, rfl⟩
