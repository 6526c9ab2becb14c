/-! PURE: define -/
theorem fi_cong {p q : Nat → Bool} : ∀ r i, (∀ k, i ≤ k → k < i + r → p k = q k) → fi p r i = fi q r i := by
  intro r
  induction r with
  | zero => intro i _; rfl
  | succ r ih =>
    intro i h
    rw [fi_s, fi_s, h i (Nat.le_refl i) (by omega), ih (i + 1) (fun k k1 k2 => h k (by omega) (by omega))]
theorem fi_snoc (p : Nat → Bool) : ∀ r i, 1 ≤ i → fi p (r + 1) i = if fi p r i = 0 then (if p (i + r) = true then i + r else 0) else fi p r i := by
  intro r
  induction r with
  | zero => intro i hi; rw [fi_s]; rfl
  | succ r ih =>
    intro i hi
    rw [fi_s, ih (i + 1) (by omega), fi_s p r i]
    by_cases h : p i = true
    · rw [if_pos h, if_pos h, if_neg (by omega)]
    · rw [if_neg h, if_neg h, show i + 1 + r = i + (r + 1) by omega]
theorem RB_0 {b : Sp} {R : Mem} (h : RB b R) (v : Nat) : RB (ub b 0 3 v) (u1 R 0 3 (nI v)) ∧ RB (ub b 0 9 v) (u1 R 0 9 (nI v)) ∧ RB (ub b 0 16 v) (u1 R 0 16 (nI v)) := by
  obtain ⟨r1, r2, r3, r4⟩ := h
  refine ⟨⟨?_, ?_, ?_, fun a k1 k2 i => ?_⟩, ⟨?_, ?_, ?_, fun a k1 k2 i => ?_⟩, ⟨?_, ?_, ?_, fun a k1 k2 i => ?_⟩⟩
  · rw [u1_eq, if_pos rfl]; rfl
  · rw [u1_eq, if_neg (by decide)]; exact r2
  · rw [u1_eq, if_neg (by decide)]; exact r3
  · rw [u1_ne (by omega), ub_ne (by omega)]; exact r4 a k1 k2 i
  · rw [u1_eq, if_neg (by decide)]; exact r1
  · rw [u1_eq, if_pos rfl]; rfl
  · rw [u1_eq, if_neg (by decide)]; exact r3
  · rw [u1_ne (by omega), ub_ne (by omega)]; exact r4 a k1 k2 i
  · rw [u1_eq, if_neg (by decide)]; exact r1
  · rw [u1_eq, if_neg (by decide)]; exact r2
  · rw [u1_eq, if_pos rfl]; rfl
  · rw [u1_ne (by omega), ub_ne (by omega)]; exact r4 a k1 k2 i
/-- b with one class more -/
def bD (b : Sp) (l n f s g : Nat) : Sp := ub (ub (ub (ub (ub (ub b 0 3 (nC b + 1)) 4 (nC b + 1) l) 5 (nC b + 1) n) 6 (nC b + 1) f) 7 (nC b + 1) s) 8 (nC b + 1) g
theorem bD_at (b : Sp) (l n f s g k : Nat) : nC (bD b l n f s g) = nC b + 1 ∧ (bD b l n f s g 4 k = if k = nC b + 1 then l else b 4 k) ∧ (bD b l n f s g 5 k = if k = nC b + 1 then n else b 5 k) ∧ (bD b l n f s g 6 k = if k = nC b + 1 then f else b 6 k) ∧ (bD b l n f s g 7 k = if k = nC b + 1 then s else b 7 k) ∧ bD b l n f s g 8 k = if k = nC b + 1 then g else b 8 k := ⟨rfl, rfl, rfl, rfl, rfl, rfl⟩
theorem bD_own {b : Sp} (l n f s g : Nat) (h : own b l n = 0) (l' n' : Nat) : own (bD b l n f s g) l' n' = if l' = l ∧ n' = n then nC b + 1 else own b l' n' := by
  have e1 : own (bD b l n f s g) l' n' = fi (fun k => bD b l n f s g 4 k == l' && bD b l n f s g 5 k == n') (nC b + 1) 1 := rfl
  have e2 : fi (fun k => bD b l n f s g 4 k == l' && bD b l n f s g 5 k == n') (nC b) 1 = own b l' n' := by
    unfold own
    refine fi_cong _ _ (fun k k1 k2 => ?_)
    rw [(bD_at b l n f s g k).2.1, (bD_at b l n f s g k).2.2.1, if_neg (by omega), if_neg (by omega)]
  rw [e1, fi_snoc _ _ _ (Nat.le_refl 1), e2, show 1 + nC b = nC b + 1 by omega, (bD_at b l n f s g (nC b + 1)).2.1, (bD_at b l n f s g (nC b + 1)).2.2.1, if_pos rfl, if_pos rfl]
  by_cases c : l' = l ∧ n' = n
  · obtain ⟨rfl, rfl⟩ := c
    rw [if_pos h, if_pos (show l' = l' ∧ n' = n' from ⟨rfl, rfl⟩)]
    simp
  · rw [if_neg c]
    by_cases z : own b l' n' = 0
    · rw [if_pos z, z, if_neg]
      simp only [Bool.and_eq_true, beq_iff_eq]
      exact fun q => c ⟨q.1.symm, q.2.symm⟩
    · rw [if_neg z]
theorem own_no {b : Sp} {l n : Nat} (h : own b l n = 0) {k : Nat} (h1 : 1 ≤ k) (h2 : k ≤ nC b) : ¬ (b 4 k = l ∧ b 5 k = n) := by
  rcases fi_spec (fun k => b 4 k == l && b 5 k == n) (nC b) 1 (Nat.le_refl 1) with ⟨-, g⟩ | ⟨g1, -, -, -⟩
  · have := g k h1 (by omega)
    intro q
    simp [q.1, q.2] at this
  · unfold own at h
    omega
theorem def_new {b : Sp} {Mc Mr : Mem} (h : Base b Mc Mr) {l n f s g : Nat} (hl : l < 5) (hn : n < 12) (hf : f < 16) (hs : s < 13) (hg : g < 4096) (hfs : f &&& 8 ≠ 0 → s = 12) (h0 : own b l n = 0) (h16 : nC b < 16) :
    ∃ Nc Nr : Mem, (bd1 (f_LinkAudit_forgetLinks Mc) (fun M6 => bd2 (f_Classes_add M6 (nI l) (nI n) (nI f) (nI s) (nI g)) (fun r8 M7 => gd (ok (nI l) 5) (gd (ok (nI n) 12) (sm (u1 M7 (19 + (nI l).toNatClampNeg) (nI n).toNatClampNeg r8) (fun M9 => some (r8, M9))))))) = some (nI (nC b + 1), Nc) ∧ (sm (u1 Mr 0 3 ((Mr.1 0 3) + (1 : Int32))) (fun M7 => gd (ok (M7.1 0 3) 17) (sm (u1 M7 4 (((M7.1 0 3)).toNatClampNeg) (nI l)) (fun M8 => gd (ok (M8.1 0 3) 17) (sm (u1 M8 5 (((M8.1 0 3)).toNatClampNeg) (nI n)) (fun M9 => gd (ok (M9.1 0 3) 17) (sm (u1 M9 6 (((M9.1 0 3)).toNatClampNeg) (nI f)) (fun M10 => gd (ok (M10.1 0 3) 17) (sm (u1 M10 7 (((M10.1 0 3)).toNatClampNeg) (nI s)) (fun M11 => gd (ok (M11.1 0 3) 17) (sm (u1 M11 8 (((M11.1 0 3)).toNatClampNeg) (nI g)) (fun M12 => some ((M12.1 0 3), M12))))))))))))) = some (nI (nC b + 1), Nr) ∧ Base (bD b l n f s g) Nc Nr ∧ Fresh Nc := by
  obtain ⟨hv, hr, hc⟩ := h
  have hc0 := hc
  obtain ⟨⟨c1, c2, c3⟩, cb2, cb3, cb4, cb5, cb6, cb7⟩ := hc
  refine ⟨u1 (u1 (u1 (u1 (u1 (u1 (u1 (fg Mc) 2 5 (nI (nC b + 1))) 24 (nC b + 1) (nI l)) 25 (nC b + 1) (nI n)) 26 (nC b + 1) (nI f)) 27 (nC b + 1) (nI s)) 28 (nC b + 1) (nI g)) (19 + l) n (nI (nC b + 1)), u1 (u1 (u1 (u1 (u1 (u1 Mr 0 3 (nI (nC b + 1))) 4 (nC b + 1) (nI l)) 5 (nC b + 1) (nI n)) 6 (nC b + 1) (nI f)) 7 (nC b + 1) (nI s)) 8 (nC b + 1) (nI g), ?_, ?_, ⟨?_, ?_, ?_⟩, ?_⟩
  · rw [f_forget, bd1_s]
    unfold f_Classes_add
    rw [fg_1 (by omega), c1, l1, n_add]
    simp (disch := omega) only [sm_s, u1_eq, u1_ne, if_true, gd_n, n_cl, bd2_s]
  · rw [hr.1, l1, n_add]
    simp (disch := omega) only [sm_s, u1_eq, u1_ne, if_true, gd_n, n_cl]
  · obtain ⟨v1, v2, v3, v4, v5, v6, v7, v8⟩ := hv
    refine ⟨⟨by have := (bD_at b l n f s g 0).1; omega, v1.2⟩, v2, fun k k1 k2 => ?_, fun k k' k1 k2 k3 k4 e4 e5 => ?_, fun m m1 m2 => ?_, v6, v7, fun i hi => ?_⟩
    · have k2 : k ≤ nC b + 1 := k2
      obtain ⟨-, q4, q5, q6, q7, q8⟩ := bD_at b l n f s g k
      rw [q4, q5, q6, q7, q8]
      by_cases e : k = nC b + 1
      · simp only [if_pos e]
        exact ⟨hl, hn, hf, by omega, hg, hfs⟩
      · simp only [if_neg e]
        exact v3 k k1 (by omega)
    · have k2 : k ≤ nC b + 1 := k2
      have k4 : k' ≤ nC b + 1 := k4
      rw [(bD_at b l n f s g k).2.1, (bD_at b l n f s g k').2.1] at e4
      rw [(bD_at b l n f s g k).2.2.1, (bD_at b l n f s g k').2.2.1] at e5
      by_cases e : k = nC b + 1
      · by_cases e' : k' = nC b + 1
        · omega
        · rw [if_pos e, if_neg e'] at e4 e5
          exact absurd ⟨e4.symm, e5.symm⟩ (own_no h0 k3 (by omega))
      · by_cases e' : k' = nC b + 1
        · rw [if_neg e, if_pos e'] at e4 e5
          exact absurd ⟨e4, e5⟩ (own_no h0 k1 (by omega))
        · rw [if_neg e, if_neg e'] at e4 e5
          exact v4 k k' k1 (by omega) k3 (by omega) e4 e5
    · obtain ⟨a1, a2, a3⟩ := v5 m m1 m2
      exact ⟨a1, Nat.le_trans a2 (Nat.le_succ _), a3⟩
    · obtain ⟨a1, a2, a3⟩ := v8 i hi
      exact ⟨a1, Nat.le_trans a2 (Nat.le_succ _), a3⟩
  · exact RB_u (RB_u (RB_u (RB_u (RB_u (RB_0 hr _).1 (by omega) (by omega) _ _) (by omega) (by omega) _ _) (by omega) (by omega) _ _) (by omega) (by omega) _ _) (by omega) (by omega) _ _
  · have e0 : ∀ k, k ≠ 0 → k ≠ 2 → (k < 19 ∨ 28 < k) → (u1 (u1 (u1 (u1 (u1 (u1 (u1 (fg Mc) 2 5 (nI (nC b + 1))) 24 (nC b + 1) (nI l)) 25 (nC b + 1) (nI n)) 26 (nC b + 1) (nI f)) 27 (nC b + 1) (nI s)) 28 (nC b + 1) (nI g)) (19 + l) n (nI (nC b + 1))).1 k = Mc.1 k := fun k k0 k1 k2 => by
      rw [u1_ne (by omega), u1_ne (by omega), u1_ne (by omega), u1_ne (by omega), u1_ne (by omega), u1_ne (by omega), u1_ne (by omega), fg_1 k0]
    refine ⟨⟨?_, ?_, ?_⟩, CB2_c (b := bD b l n f s g) cb2 (fun k k1 k2 => e0 k (by omega) (by omega) (by omega)), fun l' n' hl' hn' => ?_, fun k k1 k2 => ?_, CB5_c (b := bD b l n f s g) cb5 (fun k k1 k2 => e0 k (by omega) (by omega) (by omega)), CB6_c (b := bD b l n f s g) cb6 rfl, CB7_c (b := bD b l n f s g) cb7 (fun k k1 k2 => e0 k (by omega) (by omega) (by omega))⟩
    · simp (disch := omega) only [u1_eq, u1_ne, if_true]
      rfl
    · rw [e0 3 (by omega) (by omega) (by omega)]; exact c2
    · rw [e0 4 (by omega) (by omega) (by omega)]; exact c3
    · rw [bD_own l n f s g h0]
      by_cases el : l' = l
      · subst el
        rw [u1_eq]
        by_cases en : n' = n
        · rw [if_pos en, if_pos ⟨rfl, en⟩]
        · rw [if_neg en, if_neg (fun q => en q.2)]
          simp (disch := omega) only [u1_ne]
          rw [fg_1 (by omega)]
          exact cb3 l' n' hl' hn'
      · rw [if_neg (fun q => el q.1)]
        simp (disch := omega) only [u1_ne]
        rw [fg_1 (by omega)]
        exact cb3 l' n' hl' hn'
    · have k2 : k ≤ nC b + 1 := k2
      obtain ⟨-, q4, q5, q6, q7, q8⟩ := bD_at b l n f s g k
      rw [q4, q5, q6, q7, q8]
      by_cases e : k = nC b + 1
      · simp (disch := omega) only [u1_eq, u1_ne, if_pos e]
        refine ⟨?_, ?_, ?_, ?_, ?_⟩ <;> trivial
      · simp (disch := omega) only [u1_eq, u1_ne, if_neg e, fg_1]
        exact cb4 k k1 (by omega)
  · exact Fresh_c (fg_F Mc) (by simp (disch := omega) only [u1_ne])
theorem mut_b {b : Sp} {Mc Mr : Mem} (h : Base b Mc Mr) {l n f s g : Nat} (hl : l < 5) (hn : n < 12) (hf : f < 16) (hs : s < 13) (hg : g < 4096) (hfs : f &&& 8 ≠ 0 → s = 12) : Mut Mc Mr (f_LinkAudit_define_b85 Mc (nI l) (nI n) (nI f) (nI s) (nI g)) (f_LinkAuditModel_define_b74 Mr (nI l) (nI n) (nI f) (nI s) (nI g)) := by
  obtain ⟨hv, hr, hc⟩ := id h
  have ho := own_le hv l n
  have h16 := hv.1.1
  unfold f_LinkAudit_define_b85 f_LinkAuditModel_define_b74
  rw [gd_n (by omega) (by omega), gd_n (by omega) (by omega), r_own hv hr (by omega) (by omega), bd1_s, l0, i_le (by omega) (by omega)]
  have e : Mc.1 (19 + (nI l).toNatClampNeg) (nI n).toNatClampNeg = nI (own b l n) := by rw [n_cl (by omega), n_cl (by omega)]; exact hc.2.2.1 l n hl hn
  rw [e, i_eq (by omega) (by omega)]
  by_cases z : own b l n = 0
  · rw [if_pos z, if_pos (show own b l n ≤ 0 by omega)]
    by_cases q : nC b < 16
    · obtain ⟨Nc, Nr, g1, g2, g3, g4⟩ := def_new h hl hn hf hs hg hfs z q
      have c1 : Mc.1 2 5 < 16 := by rw [hc.1.1, l16, n_lt (by omega) (by omega)]; exact q
      have c2 : ¬ Mr.1 0 3 = 16 := by rw [hr.1, l16, n_eq (by omega) (by omega)]; omega
      rw [if_pos c1, if_neg c2, g1, g2]
      exact Or.inr ⟨_, _, _, _, rfl, rfl, g3, g4⟩
    · have c1 : ¬ Mc.1 2 5 < 16 := by rw [hc.1.1, l16, n_lt (by omega) (by omega)]; exact q
      have c2 : Mr.1 0 3 = 16 := by rw [hr.1, l16, n_eq (by omega) (by omega)]; omega
      rw [if_neg c1, if_pos c2]
      exact Or.inl ⟨_, rfl, rfl⟩
  · rw [if_neg z, if_neg (show ¬ own b l n ≤ 0 by omega)]
    exact Or.inl ⟨_, rfl, rfl⟩
theorem mut_define {b : Sp} {Mc Mr : Mem} (h : Base b Mc Mr) (x1 x2 x3 x4 x5 : Int32) : Mut Mc Mr (f_LinkAudit_define Mc x1 x2 x3 x4 x5) (f_LinkAuditModel_define Mr x1 x2 x3 x4 x5) := by
  unfold f_LinkAudit_define f_LinkAuditModel_define
  rcases rg x1 5 (by omega) (by omega) with ⟨l, hl, rfl, p1, q1⟩ | ⟨p1, q1⟩
  · rw [show f_LinkAudit_isBelow (nI l) 5 = some 1 from p1, show f_LinkAuditModel_in (nI l) 0 4 = some 1 from q1, bd1_s, bd1_s, i1, i1]
    rcases rg x2 12 (by omega) (by omega) with ⟨n, hn, rfl, p2, q2⟩ | ⟨p2, q2⟩
    · rw [show f_LinkAudit_isBelow (nI n) 12 = some 1 from p2, show f_LinkAuditModel_in (nI n) 0 11 = some 1 from q2, bd1_s, bd1_s, i1, i1]
      rcases rg x3 16 (by omega) (by omega) with ⟨f, hf, rfl, p3, q3⟩ | ⟨p3, q3⟩
      · rw [show f_LinkAudit_isBelow (nI f) 16 = some 1 from p3, show f_LinkAuditModel_in (nI f) 0 15 = some 1 from q3, bd1_s, bd1_s, i1, i1]
        rcases rg x4 13 (by omega) (by omega) with ⟨s, hs, rfl, p4, q4⟩ | ⟨p4, q4⟩
        · rw [show f_LinkAudit_isBelow (nI s) 13 = some 1 from p4, show f_LinkAuditModel_in (nI s) 0 12 = some 1 from q4, bd1_s, bd1_s, i1, i1]
          rcases rg x5 4096 (by omega) (by omega) with ⟨g, hg, rfl, p5, q5⟩ | ⟨p5, q5⟩
          · rw [show f_LinkAudit_isBelow (nI g) 4096 = some 1 from p5, show f_LinkAuditModel_in (nI g) 0 4095 = some 1 from q5, bd1_s, bd1_s, i1, i1]
            unfold f_LinkAudit_define_b63
            have e8 : ∀ {α : Type} {u v : α}, (if (nI f &&& (8 : Int32)) = 0 then u else v) = if f &&& 8 = 0 then u else v := i_and (c := 8) (by omega)
            have e2 : ∀ {α : Type} {u v : α}, (if (nI f &&& (2 : Int32)) = 0 then u else v) = if f &&& 2 = 0 then u else v := i_and (c := 2) (by omega)
            have e12 : ∀ {α : Type} {u v : α}, (if nI s = (12 : Int32) then u else v) = if s = 12 then u else v := i_eq (b := 12) (by omega) (by omega)
            have e12' : ∀ {α : Type} {u v : α}, (if nI s < (12 : Int32) then u else v) = if s < 12 then u else v := i_lt (b := 12) (by omega) (by omega)
            rw [e8, e8, i0, i1]
            by_cases z : f &&& 8 = 0
            · rw [if_pos z, if_pos z]
              exact mut_b h hl hn hf hs hg (fun q => absurd z q)
            · rw [if_neg z, if_neg z, e12, e12', e2, e2]
              by_cases y : s = 12
              · rw [if_pos y, if_neg (show ¬ s < 12 by omega)]
                by_cases w : f &&& 2 = 0
                · rw [if_pos w, if_pos w]
                  exact mut_b h hl hn hf hs hg (fun _ => y)
                · rw [if_neg w, if_neg w]
                  exact Or.inl ⟨_, rfl, rfl⟩
              · rw [if_neg y, if_pos (show s < 12 by omega)]
                exact Or.inl ⟨_, rfl, rfl⟩
          · rw [show f_LinkAudit_isBelow x5 4096 = some 0 from p5, show f_LinkAuditModel_in x5 0 4095 = some 0 from q5, bd1_s, bd1_s, i0, i0]
            exact Or.inl ⟨_, rfl, rfl⟩
        · rw [show f_LinkAudit_isBelow x4 13 = some 0 from p4, show f_LinkAuditModel_in x4 0 12 = some 0 from q4, bd1_s, bd1_s, i0, i0]
          exact Or.inl ⟨_, rfl, rfl⟩
      · rw [show f_LinkAudit_isBelow x3 16 = some 0 from p3, show f_LinkAuditModel_in x3 0 15 = some 0 from q3, bd1_s, bd1_s, i0, i0]
        exact Or.inl ⟨_, rfl, rfl⟩
    · rw [show f_LinkAudit_isBelow x2 12 = some 0 from p2, show f_LinkAuditModel_in x2 0 11 = some 0 from q2, bd1_s, bd1_s, i0, i0]
      exact Or.inl ⟨_, rfl, rfl⟩
  · rw [show f_LinkAudit_isBelow x1 5 = some 0 from p1, show f_LinkAuditModel_in x1 0 4 = some 0 from q1, bd1_s, bd1_s, i0, i0]
    exact Or.inl ⟨_, rfl, rfl⟩
