/-! PURE: calls that change the base data: provide, mask -/
def ub (b : Sp) (a i v : Nat) : Sp := fun a' => if a' = a then (fun i' => if i' = i then v else b a i') else b a'
theorem ub_eq {b : Sp} {a i v j : Nat} : ub b a i v a j = if j = i then v else b a j := by
  unfold ub
  rw [if_pos rfl]
theorem ub_ne {b : Sp} {a i v a' : Nat} (h : a' ≠ a) : ub b a i v a' = b a' := by
  unfold ub
  rw [if_neg h]
theorem RB_u {b : Sp} {R : Mem} (h : RB b R) {a : Nat} (h1 : 1 ≤ a) (h2 : a ≤ 15) (i v : Nat) : RB (ub b a i v) (u1 R a i (nI v)) := by
  obtain ⟨r1, r2, r3, r4⟩ := h
  have e : (u1 R a i (nI v)).1 0 = R.1 0 := u1_ne (by omega)
  have e2 : ub b a i v 0 = b 0 := ub_ne (by omega)
  refine ⟨by rw [e]; unfold nC; rw [e2]; exact r1, by rw [e]; unfold nM; rw [e2]; exact r2, by rw [e]; unfold nR; rw [e2]; exact r3, fun a' k1 k2 i' => ?_⟩
  by_cases ea : a' = a
  · subst ea
    rw [u1_eq, ub_eq]
    by_cases ei : i' = i
    · rw [if_pos ei, if_pos ei]
    · rw [if_neg ei, if_neg ei]; exact r4 a' k1 k2 i'
  · rw [u1_ne ea, ub_ne ea]; exact r4 a' k1 k2 i'
def Base (b : Sp) (Mc Mr : Mem) : Prop := BV b ∧ RB b Mr ∧ CB b Mc
def Fresh (M : Mem) : Prop := M.1 0 8 = 0 ∧ M.1 0 9 = 0
/-- refused on both sides alike, or changed on both sides alike -/
def Mut (Mc Mr : Mem) (x y : Option (Int32 × Mem)) : Prop := (∃ r, x = some (r, Mc) ∧ y = some (r, Mr)) ∨ ∃ (r : Int32) (b' : Sp) (Nc Nr : Mem), x = some (r, Nc) ∧ y = some (r, Nr) ∧ Base b' Nc Nr ∧ Fresh Nc
def fg (M : Mem) : Mem := u1 (u1 M 0 8 0) 0 9 0
theorem f_forget (M : Mem) : f_LinkAudit_forgetLinks M = some (fg M) := rfl
theorem fg_1 {M : Mem} {k : Nat} (h : k ≠ 0) : (fg M).1 k = M.1 k := by
  unfold fg
  rw [u1_ne h, u1_ne h]
theorem fg_2 (M : Mem) : (fg M).2 = M.2 := rfl
theorem fg_F (M : Mem) : Fresh (fg M) := by
  unfold fg Fresh
  rw [u1_eq, u1_eq, if_neg (by decide), if_pos rfl, u1_eq, if_pos rfl]
  exact ⟨rfl, rfl⟩
theorem Fresh_c {M N : Mem} (h : Fresh M) (e : N.1 0 = M.1 0) : Fresh N := by unfold Fresh; rw [e]; exact h
theorem CB1_c {b : Sp} {M N : Mem} (h : CB1 b M) (e : ∀ k, 2 ≤ k → k ≤ 4 → N.1 k = M.1 k) : CB1 b N := by
  unfold CB1
  rw [e 2 (by omega) (by omega), e 3 (by omega) (by omega), e 4 (by omega) (by omega)]
  exact h
theorem CB2_c {b : Sp} {M N : Mem} (h : CB2 b M) (e : ∀ k, 11 ≤ k → k ≤ 17 → N.1 k = M.1 k) : CB2 b N :=
  ⟨fun l hl => by rw [e 16 (by omega) (by omega)]; exact h.1 l hl, fun l j hl hj => by rw [e (11 + l) (by omega) (by omega)]; exact h.2.1 l j hl hj, fun l hl => by rw [e 17 (by omega) (by omega)]; exact h.2.2 l hl⟩
theorem CB3_c {b : Sp} {M N : Mem} (h : CB3 b M) (e : ∀ k, 19 ≤ k → k ≤ 23 → N.1 k = M.1 k) : CB3 b N := fun l n hl hn => by rw [e (19 + l) (by omega) (by omega)]; exact h l n hl hn
theorem CB4_c {b : Sp} {M N : Mem} (h : CB4 b M) (e : ∀ k, 24 ≤ k → k ≤ 28 → N.1 k = M.1 k) : CB4 b N := fun k k1 k2 => by
  rw [e 24 (by omega) (by omega), e 25 (by omega) (by omega), e 26 (by omega) (by omega), e 27 (by omega) (by omega), e 28 (by omega) (by omega)]
  exact h k k1 k2
theorem CB5_c {b : Sp} {M N : Mem} (h : CB5 b M) (e : ∀ k, 29 ≤ k → k ≤ 31 → N.1 k = M.1 k) : CB5 b N := fun k k1 k2 => by
  rw [e 29 (by omega) (by omega), e 30 (by omega) (by omega), e 31 (by omega) (by omega)]
  exact h k k1 k2
theorem CB6_c {b : Sp} {M N : Mem} (h : CB6 b M) (e : N.2 = M.2) : CB6 b N := by unfold CB6; rw [e]; exact h
theorem CB7_c {b : Sp} {M N : Mem} (h : CB7 b M) (e : ∀ k, 33 ≤ k → k ≤ 36 → N.1 k = M.1 k) : CB7 b N := fun k k1 => by
  rw [e 33 (by omega) (by omega), e 34 (by omega) (by omega), e 35 (by omega) (by omega), e 36 (by omega) (by omega)]
  exact h k k1
/-- is o among the providers of l from the j-th on, r of them -/
def inP (b : Sp) (l o : Nat) : Nat → Nat → Bool
  | 0, _ => false
  | r + 1, j => b 2 (3 * l + j) == o || inP b l o r (j + 1)
theorem c_hasP {b : Sp} {M : Mem} (hv : BV b) (hc : CB b M) {τ : Type} {l o : Nat} (hl : l < 5) (ho : o < 5) (k1 k2 : Option τ) : ∀ r f j, r < f → j + r = b 1 l → f_Loaders_hasProvider_L2 M (nI l) (nI o) k1 k2 f (nI j) = if inP b l o r j = true then k1 else k2 := by
  obtain ⟨-, ⟨p1, p2, -⟩, -⟩ := hc
  have h3 := (hv.2.1.2.2.1 l hl).1
  intro r
  induction r with
  | zero =>
    intro f j hf hj
    obtain ⟨f, rfl⟩ : ∃ g, f = g + 1 := ⟨f - 1, by omega⟩
    rw [f_Loaders_hasProvider_L2, gd_n (by omega) (by omega), n_cl (by omega), p1 l hl, i_le (by omega) (by omega), if_pos (by omega)]
    rfl
  | succ r ih =>
    intro f j hf hj
    obtain ⟨f, rfl⟩ : ∃ g, f = g + 1 := ⟨f - 1, by omega⟩
    have hp := hv.2.1.2.2.2 l j hl (by omega)
    rw [f_Loaders_hasProvider_L2, gd_n (by omega) (by omega), n_cl (by omega), p1 l hl, i_le (by omega) (by omega), if_neg (by omega), gd_n (by omega) (by omega), gd_n (by omega) (by omega), n_cl (by omega), p2 l j hl (by omega), i_eq (by omega) (by omega), l1, n_add, ih f (j + 1) (by omega) (by omega), inP]
    by_cases e : b 2 (3 * l + j) = o
    · simp [e]
    · simp [e]
theorem r_hasP {b : Sp} {R : Mem} (hv : BV b) (hr : RB b R) {τ : Type} {l o : Nat} (hl : l < 5) (ho : o < 5) (k1 k2 : Option τ) : ∀ r f j, r < f → j + r = b 1 l → f_LinkAuditModel_provide_L27 R (nI l) (nI o) k1 k2 f (nI j) = if inP b l o r j = true then k1 else k2 := by
  have h3 := (hv.2.1.2.2.1 l hl).1
  intro r
  induction r with
  | zero =>
    intro f j hf hj
    obtain ⟨f, rfl⟩ : ∃ g, f = g + 1 := ⟨f - 1, by omega⟩
    rw [f_LinkAuditModel_provide_L27, gd_n (by omega) (by omega), n_cl (by omega), hr.2.2.2 1 (by omega) (by omega), i_le (by omega) (by omega), if_pos (by omega)]
    rfl
  | succ r ih =>
    intro f j hf hj
    obtain ⟨f, rfl⟩ : ∃ g, f = g + 1 := ⟨f - 1, by omega⟩
    have hp := hv.2.1.2.2.2 l j hl (by omega)
    rw [f_LinkAuditModel_provide_L27, gd_n (by omega) (by omega), n_cl (by omega), hr.2.2.2 1 (by omega) (by omega), i_le (by omega) (by omega), if_neg (by omega), l3, n_mul, n_add, gd_n (by omega) (by omega), n_cl (by omega), hr.2.2.2 2 (by omega) (by omega), i_eq (by omega) (by omega), l1, n_add, ih f (j + 1) (by omega) (by omega), inP]
    by_cases e : b 2 (3 * l + j) = o
    · simp [e]
    · simp [e]
/-- the loader is a plugin's -/
theorem rgP (a : Int32) : (∃ k, 1 ≤ k ∧ k < 5 ∧ a = nI k ∧ f_LinkAudit_isPlugin a = some 1 ∧ f_LinkAuditModel_in a 1 4 = some 1) ∨ (f_LinkAudit_isPlugin a = some 0 ∧ f_LinkAuditModel_in a 1 4 = some 0) := by
  unfold f_LinkAudit_isPlugin
  rcases rg a 5 (by omega) (by omega) with ⟨k, hk, rfl, h1, h2⟩ | ⟨h1, h2⟩
  · rw [show f_LinkAudit_isBelow (nI k) 5 = some 1 from h1, bd1_s, i1, i_eq0 (by omega)]
    by_cases e : k = 0
    · subst e
      exact Or.inr ⟨by rw [if_pos rfl], by decide⟩
    · refine Or.inl ⟨k, by omega, hk, rfl, by rw [if_neg e], ?_⟩
      unfold f_LinkAuditModel_in
      rw [l1, l4, i_lt (by omega) (by omega), if_neg (by omega), i_lt (by omega) (by omega), if_neg (by omega)]
  · refine Or.inr ⟨?_, ?_⟩
    · rw [show f_LinkAudit_isBelow a 5 = some 0 from h1, bd1_s, i0]
      split <;> rfl
    · have h2 : f_LinkAuditModel_in a 0 4 = some 0 := h2
      unfold f_LinkAuditModel_in at h2 ⊢
      by_cases z : a < 0
      · rw [if_pos (Int32.lt_trans z (by decide))]
      · rw [if_neg z] at h2
        by_cases y : 4 < a
        · by_cases w : a < 1
          · rw [if_pos w]
          · rw [if_neg w, if_pos y]
        · rw [if_neg y] at h2
          exact absurd h2 (by decide)
