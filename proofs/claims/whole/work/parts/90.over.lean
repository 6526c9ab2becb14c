/-! PURE: overriding, both sides -/
def Yc (x : Option Int32) (P : Prop) : Prop := (x = some 1 ∧ P) ∨ (x = some 0 ∧ ¬ P)
theorem Yc_i {P Q : Prop} {x : Option Int32} (h : Yc x P) (e : P ↔ Q) : Yc x Q := h.imp (fun q => ⟨q.1, e.mp q.2⟩) (fun q => ⟨q.1, fun w => q.2 (e.mpr w)⟩)
theorem Yn_i {P Q : Prop} {x : Option (Int32 × Mem)} {R : Mem} (h : Yn x R P) (e : P ↔ Q) : Yn x R Q := h.elim (fun N w => ⟨N, w.1, w.2.imp (fun q => ⟨q.1, e.mp q.2⟩) (fun q => ⟨q.1, fun z => q.2 (e.mpr z)⟩)⟩)
theorem c_isCov {b : Sp} {M : Mem} (hv : BV b) (hc : CB b M) (hk : LK b M) {m o : Nat} (hm : mr b m) (ho : mr b o) (g : good b (b 9 m)) : Yc (f_Selector_isCovering M (nI m) (nI o)) (m ≠ o ∧ Co b m o) := by
  obtain ⟨m40, m1, m2, m3, m4, m5, m6, -⟩ := m_lt hv hm
  obtain ⟨o40, o1, o2, o3, o4, o5, o6, -⟩ := m_lt hv ho
  have sm' := sig_lt m3 m4 m5 m6
  have so' := sig_lt o3 o4 o5 o6
  unfold f_Selector_isCovering
  simp (disch := omega) only [gd_n, n_cl]
  rw [i_eq (by omega) (by omega), (hc.2.2.2.2.1 m hm.1 hm.2).2.1, (hc.2.2.2.2.1 o ho.1 ho.2).2.1, i_eq (by omega) (by omega), f_hasBit _ (show m < 64 by omega), bd1_s, i_hb, f_hasBit _ (show o < 64 by omega), bd1_s, i_hb, c_once hv hc hm ho, bd1_s, i_hb, f_hasBit _ (show o < 64 by omega), bd1_s, i_hb]
  by_cases e0 : m = o
  · rw [if_pos e0]
    exact Or.inr ⟨rfl, fun q => q.1 e0⟩
  · rw [if_neg e0]
    by_cases e1 : msig b m = msig b o
    · have lk' : likeM b m o := (msig_i hv hm o4 o5 o6).mp e1
      rw [if_pos e1]
      by_cases e2 : tb (M.2 3 4) m = true
      · have v1 := ((hc.2.2.2.2.2.1.2.1 m (by omega)).mp e2).2.2
        rw [if_pos e2]
        by_cases e3 : tb (M.2 3 4) o = true
        · have v2 := ((hc.2.2.2.2.2.1.2.1 o (by omega)).mp e3).2.2
          rw [if_pos e3]
          by_cases e4 : once b m o
          · rw [if_pos e4]
            exact Or.inl ⟨rfl, e0, lk', v1, v2, Or.inl e4⟩
          · rw [if_neg e4]
            have cv := hk.2.2 m hm v1 g o (by omega)
            by_cases e5 : tb (M.2 60 m) o = true
            · rw [if_pos e5]
              exact Or.inl ⟨rfl, e0, lk', v1, v2, Or.inr (cv.mp e5)⟩
            · rw [if_neg e5]
              exact Or.inr ⟨rfl, fun q => q.2.2.2.2.elim e4 (fun w => e5 (cv.mpr w))⟩
        · rw [if_neg e3]
          exact Or.inr ⟨rfl, fun q => e3 ((hc.2.2.2.2.2.1.2.1 o (by omega)).mpr ⟨ho.1, ho.2, q.2.2.2.1⟩)⟩
      · rw [if_neg e2]
        exact Or.inr ⟨rfl, fun q => e2 ((hc.2.2.2.2.2.1.2.1 m (by omega)).mpr ⟨hm.1, hm.2, q.2.2.1⟩)⟩
    · rw [if_neg e1]
      exact Or.inr ⟨rfl, fun q => e1 ((msig_i hv hm o4 o5 o6).mpr q.2.1)⟩
abbrev Ps (b : Sp) (x y : Nat) : Prop := (pm b 16 x).testBit y = true ∨ (fm b 16 x).testBit y = true
theorem Ps_ne {b : Sp} (hv : BV b) {x y : Nat} (g : good b x) (h : Ps b x y) : x ≠ y := fun e => by
  rw [← e] at h
  exact h.elim (pm_ir hv g) (fm_ir hv g)
theorem c_isPs {b : Sp} {M : Mem} (hv : BV b) (hk : LK b M) {x y : Nat} (h1 : 1 ≤ x) (h2 : x ≤ nC b) (g : good b x) (hy : y ≤ 16) : f_Links_isProperSuper M (nI x) (nI y) = some (if Ps b x y then 1 else 0) := by
  have h16 := hv.1.1
  have a := pm_lt hv 16 x
  have c := fm_lt hv 16 x
  have ac : pm b 16 x ||| fm b 16 x < 2 ^ 17 := Nat.or_lt_two_pow a c
  have ht := hk.1 x h1 h2 g
  unfold f_Links_isProperSuper
  rw [gd_n (by omega) (by omega), gd_n (by omega) (by omega), n_cl (by omega), ht.2.2.2.1, ht.2.2.2.2, n_or, f_hasBitN (by omega) (by omega), bd1_s, Nat.testBit_or]
  have e : ((pm b 16 x).testBit y || (fm b 16 x).testBit y) = true ↔ Ps b x y := by rw [Bool.or_eq_true]
  by_cases q : Ps b x y
  · rw [if_pos q, if_pos (e.mpr q), gd_p (Or.inr rfl)]
  · rw [if_neg q, if_neg (fun w => q (e.mp w)), gd_p (Or.inl rfl)]
theorem c_over {b : Sp} {M : Mem} (hv : BV b) (hc : CB b M) (hk : LK b M) {m o : Nat} (hm : mr b m) (ho : mr b o) : Yc (f_Selector_isOverriding M (nI m) (nI o)) (cde b (b 9 m) = 0 ∧ Ps b (b 9 m) (b 9 o) ∧ Co b m o) := by
  have h16 := hv.1.1
  obtain ⟨m40, m1, m2, -⟩ := m_lt hv hm
  obtain ⟨o40, o1, o2, -⟩ := m_lt hv ho
  unfold f_Selector_isOverriding
  simp (disch := omega) only [gd_n, n_cl]
  rw [(hc.2.2.2.2.1 m hm.1 hm.2).1, (hc.2.2.2.2.1 o ho.1 ho.2).1, c_isL hv hk m1 m2, bd1_s, i_hb]
  by_cases e : cde b (b 9 m) = 0
  · have g := (cde_0 hv m1 m2).mp e
    rw [if_pos e, c_isPs hv hk m1 m2 g (by omega), bd1_s, i_hb]
    by_cases p : Ps b (b 9 m) (b 9 o)
    · rw [if_pos p]
      have ne : m ≠ o := fun q => Ps_ne hv g p (by rw [q])
      rcases c_isCov hv hc hk hm ho g with ⟨q1, q2⟩ | ⟨q1, q2⟩
      · rw [q1, bd1_s, i1]
        exact Or.inl ⟨rfl, e, p, q2.2⟩
      · rw [q1, bd1_s, i0]
        exact Or.inr ⟨rfl, fun w => q2 ⟨ne, w.2.2⟩⟩
    · rw [if_neg p]
      exact Or.inr ⟨rfl, fun w => p w.2.1⟩
  · rw [if_neg e]
    exact Or.inr ⟨rfl, fun w => e w.1⟩
theorem r_over {b : Sp} {R : Mem} (hv : BV b) (hr : RB b R) (hp : RP b R) {m o : Nat} (hm : mr b m) (ho : mr b o) (g : good b (b 9 m)) : Yn (f_LinkAuditModel_overridesIt R (nI m) (nI o)) R (Ps b (b 9 m) (b 9 o) ∧ Co b m o) := by
  have h16 := hv.1.1
  obtain ⟨m40, m1, m2, -⟩ := m_lt hv hm
  obtain ⟨o40, o1, o2, -⟩ := m_lt hv ho
  unfold f_LinkAuditModel_overridesIt f_LinkAuditModel_overridesIt_b31
  simp (disch := omega) only [gd_n, n_cl]
  rw [hr.2.2.2 9 (by omega) (by omega), hr.2.2.2 9 (by omega) (by omega), i_eq (by omega) (by omega), r_sub hv hp m1 m2 (by omega), bd1_s, i_hb, r_face hv hp m1 m2 (by omega), bd1_s, i_hb, T1_pm hv m1 m2 g, T2_fm hv m1 m2 g]
  have yes : Ps b (b 9 m) (b 9 o) → Yn (f_LinkAuditModel_overridesIt_b41 R (nI m) (nI o)) R (Ps b (b 9 m) (b 9 o) ∧ Co b m o) := fun p => by
    unfold f_LinkAuditModel_overridesIt_b41
    obtain ⟨N, lo, q⟩ := r_cov hv hr hp hm ho g
    rcases q with ⟨q1, q2⟩ | ⟨q1, q2⟩
    · rw [q1, bd2_s, i1]
      exact ⟨N, lo, Or.inl ⟨rfl, p, q2⟩⟩
    · rw [q1, bd2_s, i0]
      exact ⟨N, lo, Or.inr ⟨rfl, fun w => q2 w.2⟩⟩
  have face : (¬ b 9 m = b 9 o → ¬ (pm b 16 (b 9 m)).testBit (b 9 o) = true) → Yn (if (fm b 16 (b 9 m)).testBit (b 9 o) = true then f_LinkAuditModel_overridesIt_b41 R (nI m) (nI o) else some ((0 : Int32), R)) R (Ps b (b 9 m) (b 9 o) ∧ Co b m o) := fun np => by
    by_cases f : (fm b 16 (b 9 m)).testBit (b 9 o) = true
    · rw [if_pos f]
      exact yes (Or.inr f)
    · rw [if_neg f]
      exact ⟨R, Lq_r R, Or.inr ⟨rfl, fun w => w.1.elim (np (Ps_ne hv g w.1)) f⟩⟩
  by_cases e : b 9 m = b 9 o
  · rw [if_pos e]
    exact face (fun q => absurd e q)
  · rw [if_neg e, Nat.testBit_or]
    have : (2 ^ (b 9 m)).testBit (b 9 o) = false := by
      cases q : (2 ^ (b 9 m)).testBit (b 9 o)
      · rfl
      · exact absurd ((p2_b _ _).mp q) e
    rw [this, Bool.false_or]
    by_cases p : (pm b 16 (b 9 m)).testBit (b 9 o) = true
    · rw [if_pos p]
      exact yes (Or.inl p)
    · rw [if_neg p]
      exact face (fun _ => p)
