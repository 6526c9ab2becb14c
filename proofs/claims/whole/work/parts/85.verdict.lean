/-! PURE: verdicts, both sides -/
theorem b_ff {b : Sp} {M R : Mem} (h : Bo b M R) {x n a : Nat} (h1 : 1 ≤ x) (h2 : x ≤ nC b) (g : good b x) (hn : n < 4) (ha : a < 13) {l : Int64} (hl : Bs l (fun m => 1 ≤ m ∧ m ≤ nM b ∧ msig b m = sig 0 n a 12)) : ∃ k S R', k ≤ 40 ∧ (k ≠ 0 → mr b k) ∧ f_Resolver_searchField DP (u1 M 7 5 0) (nI x) l = some (nI k, u1 M 7 5 (nI S)) ∧ f_LinkAuditModel_findField R (nI x) (nI n) (nI a) = some (nI k, R') ∧ Lq R R' := by
  obtain ⟨hv, hc, hk, hr, hp⟩ := h
  have da := D_a hv n a 16 x 0 g h2 (by decide)
  have e1 := c_sf hv hc hk hn ha hl 16 DP x 0 (by unfold DP; omega) g g h1 h2 (by decide)
  have lo : Lq R (u1 R 23 0 (nI x)) := Lq_u (Lq_r R) (by omega)
  obtain ⟨c, N, n1, n2, n3, n4⟩ := r_dfs hv hn ha (fun y7 M7 => some (y7, M7)) (fun M8 => some ((0 : Int32), M8)) 16 x 0 [] (u1 R 23 0 (nI x)) g g h1 h2 (by decide) (RB_Lo hr (Lq_16 lo)) (RP_Lo hp lo) (Stk_p (o := []) trivial) (by simp)
  have c16 : (14 : Nat) ^ 16 < 10 ^ 30 := by decide
  obtain ⟨fu, hfu⟩ := FU_s (r := c) (by omega)
  refine ⟨(D b n a 16 x 0).1, (D b n a 16 x 0).2, N, da.2.2, da.2.1, e1, ?_, Lq_t lo n2⟩
  have e2 := n4 (fu + 1)
  unfold f_LinkAuditModel_findField
  rw [show ok (0 : Int32) 300 = true from by decide, gd_t, sm_s, hfu]
  show f_LinkAuditModel_findField_L13 (nI n) (nI a) _ _ (fu + 1 + c) (nI 0) (nI ([x] : List Nat).length) (u1 R 23 0 (nI x)) = _
  rw [e2]
  by_cases z : (D b n a 16 x 0).1 = 0
  · rw [if_pos z, z, f_LinkAuditModel_findField_L13, if_pos (by decide)]
    rfl
  · rw [if_neg z]
/-- only what the search has been through differs -/
def Sw (M N : Mem) : Prop := (∀ a, a ≠ 7 → N.1 a = M.1 a) ∧ N.2 = M.2
theorem Sw_r (M : Mem) : Sw M M := ⟨fun _ _ => rfl, rfl⟩
theorem Sw_t {M N O : Mem} (h : Sw M N) (g : Sw N O) : Sw M O := ⟨fun a ha => by rw [g.1 a ha, h.1 a ha], by rw [g.2, h.2]⟩
theorem Sw_u (M : Mem) (v : Int32) : Sw M (u1 M 7 5 v) := ⟨fun a ha => u1_ne ha, rfl⟩
theorem Sw_CB {b : Sp} {M N : Mem} (h : CB b M) (g : Sw M N) : CB b N := CB_k h ⟨fun a ha => g.1 a (by omega), fun a _ => by rw [g.2]⟩
theorem Sw_LK {b : Sp} {M N : Mem} (hv : BV b) (h : LK b M) (g : Sw M N) : LK b N := LK_k hv h (fun a a1 a2 => g.1 a (by omega)) (by rw [g.2])
theorem Bo_s {b : Sp} {M M' R R' : Mem} (h : Bo b M R) (g : Sw M M') (l : Lq R R') : Bo b M' R' := ⟨h.1, Sw_CB h.2.1 g, Sw_LK h.1 h.2.2.1 g, RB_Lo h.2.2.2.1 (Lq_16 l), RP_Lo h.2.2.2.2 l⟩
theorem cde_ne {b : Sp} {x : Nat} (h : cde b x ≠ 0) (y : Nat) (hy : y < 1000000) : cde b x ≠ nI y ∧ ¬ 0 ≤ cde b x := by
  have q := lc_Cd b 16 [] x
  have n := Cd_neg q h
  refine ⟨fun e => ?_, n.1⟩
  have e' : cde b x = nI y := e
  have : ¬ 0 ≤ nI y := by rw [← e']; exact n.1
  exact this ((nI_leI (a := 0) (by omega) (by omega)).mpr (Nat.zero_le _))
theorem c_isL {b : Sp} {M : Mem} (hv : BV b) (hk : LK b M) {x : Nat} (h1 : 1 ≤ x) (h2 : x ≤ nC b) : f_Links_isLoadable M (nI x) = some (if cde b x = 0 then 1 else 0) := by
  have h16 := hv.1.1
  unfold f_Links_isLoadable
  rw [gd_n (by omega) (by omega), n_cl (by omega)]
  by_cases e : cde b x = 0
  · rw [(hk.1 x h1 h2 ((cde_0 hv h1 h2).mp e)).1, if_pos rfl, if_pos e]
  · rw [hk.2.1 x h1 h2 (fun q => e ((cde_0 hv h1 h2).mpr q)), if_neg (cde_ne e x (by omega)).1, if_neg e]
theorem c_isA {b : Sp} {M : Mem} (hv : BV b) (hc : CB b M) {k : Nat} (h1 : 1 ≤ k) (h2 : k ≤ nC b) : f_Classes_isAbstract M (nI k) = some (if b 6 k &&& 12 = 0 then 0 else 1) := by
  have h16 := hv.1.1
  have := hv.2.2.1 k h1 h2
  unfold f_Classes_isAbstract
  rw [gd_n (by omega) (by omega), n_cl (by omega), (hc.2.2.2.1 k h1 h2).2.2.1, l12, i_and (by omega)]
  by_cases e : b 6 k &&& 12 = 0
  · rw [if_pos e, if_pos e]
  · rw [if_neg e, if_neg e]
theorem c_isS {b : Sp} {M : Mem} (hv : BV b) (hc : CB b M) {m : Nat} (h : mr b m) : f_Members_isStatic M (nI m) = some (if b 14 m &&& 4 = 0 then 0 else 1) := by
  obtain ⟨m40, -, -, -, -, -, -, m14⟩ := m_lt hv h
  unfold f_Members_isStatic
  rw [gd_n (by omega) (by omega), n_cl (by omega), (hc.2.2.2.2.1 m h.1 h.2).2.2, l4, i_and (by omega)]
  by_cases e : b 14 m &&& 4 = 0
  · rw [if_pos e, if_pos e]
  · rw [if_neg e, if_neg e]
theorem c_isSub {b : Sp} {M : Mem} (hv : BV b) (hk : LK b M) {x y : Nat} (h1 : 1 ≤ x) (h2 : x ≤ nC b) (g : good b x) (hy : y ≤ 16) : f_Links_isSubclass M (nI x) (nI y) = some (if (T1 b x).testBit y = true then 1 else 0) := by
  have h16 := hv.1.1
  have hp := pm_lt hv 16 x
  unfold f_Links_isSubclass
  rw [i_eq (by omega) (by omega), gd_n (by omega) (by omega), n_cl (by omega), (hk.1 x h1 h2 g).2.2.2.1, f_hasBitN (by omega) (by omega), bd1_s, i_hb, T1_pm hv h1 h2 g, Nat.testBit_or]
  by_cases e : x = y
  · rw [if_pos e, e, (p2_b y y).mpr rfl]
    rfl
  · rw [if_neg e]
    have : (2 ^ x).testBit y = false := by
      cases q : (2 ^ x).testBit y
      · rfl
      · exact absurd ((p2_b x y).mp q) e
    rw [this, Bool.false_or]
    by_cases t : (pm b 16 x).testBit y = true
    · rw [if_pos t, if_pos t]
    · rw [if_neg t, if_neg t]
theorem b_reach {b : Sp} {M R : Mem} (h : Bo b M R) {d m : Nat} (h1 : 1 ≤ d) (h2 : d ≤ nC b) (g : good b d) (hm : mr b m) : ∃ r : Int32, f_Resolver_mayReach M (nI d) (nI m) = some r ∧ f_LinkAuditModel_reaches R (nI d) (nI m) = some r := by
  obtain ⟨hv, hc, hk, hr, hp⟩ := h
  have h16 := hv.1.1
  obtain ⟨m40, m1, m2, -, -, -, -, m14⟩ := m_lt hv hm
  have a3 := a3_lt (b 14 m)
  unfold f_Resolver_mayReach f_LinkAuditModel_reaches
  simp (disch := omega) only [gd_n, n_cl]
  rw [c_acc hv hc hm, bd1_s, (hc.2.2.2.2.1 m hm.1 hm.2).1, hr.2.2.2 14 (by omega) (by omega), hr.2.2.2 9 (by omega) (by omega), c_nb hv hc h1 h2 m1 m2, r_nb hv hr h1 h2 m1 m2, c_isSub hv hk h1 h2 g (by omega), r_sub hv hp h1 h2 (by omega), l3, n_and]
  generalize hA : b 14 m &&& 3 = A at *
  by_cases n' : nb b d (b 9 m)
  · simp only [if_pos n', bd1_s]
    rcases (show A = 0 ∨ A = 1 ∨ A = 2 ∨ A = 3 by omega) with e | e | e | e
    · subst e; exact ⟨1, rfl, rfl⟩
    · subst e; exact ⟨1, rfl, rfl⟩
    · subst e; exact ⟨1, rfl, rfl⟩
    · subst e
      rw [i_eq (show d < 1000000 by omega) (show b 9 m < 1000000 by omega)]
      by_cases w : d = b 9 m
      · rw [if_pos w]; exact ⟨1, rfl, rfl⟩
      · rw [if_neg w]; exact ⟨0, rfl, rfl⟩
  · simp only [if_neg n', bd1_s]
    rcases (show A = 0 ∨ A = 1 ∨ A = 2 ∨ A = 3 by omega) with e | e | e | e
    · subst e; exact ⟨1, rfl, rfl⟩
    · subst e
      by_cases w : (T1 b d).testBit (b 9 m) = true
      · rw [if_pos w]; exact ⟨1, rfl, rfl⟩
      · rw [if_neg w]; exact ⟨0, rfl, rfl⟩
    · subst e; exact ⟨0, rfl, rfl⟩
    · subst e
      rw [i_eq (show d < 1000000 by omega) (show b 9 m < 1000000 by omega)]
      by_cases w : d = b 9 m
      · rw [if_pos w]; exact ⟨1, rfl, rfl⟩
      · rw [if_neg w]; exact ⟨0, rfl, rfl⟩
theorem b_resolved {b : Sp} {M R : Mem} (h : Bo b M R) {d cn : Nat} (h1 : 1 ≤ d) (h2 : d ≤ nC b) (hn : cn < 12) : (∃ v : Int32, f_Links_resolved M (nI d) (nI cn) = some v ∧ ¬ 0 ≤ v ∧ v ≤ 0 ∧ ((fnd b (b 4 d) cn = 0 ∧ v = -3) ∨ (fnd b (b 4 d) cn ≠ 0 ∧ cde b (fnd b (b 4 d) cn) ≠ 0 ∧ v = cde b (fnd b (b 4 d) cn)) ∨ (fnd b (b 4 d) cn ≠ 0 ∧ cde b (fnd b (b 4 d) cn) = 0 ∧ ¬ mu b d (fnd b (b 4 d) cn) ∧ v = -6))) ∨ (f_Links_resolved M (nI d) (nI cn) = some (nI (fnd b (b 4 d) cn)) ∧ fnd b (b 4 d) cn ≠ 0 ∧ cde b (fnd b (b 4 d) cn) = 0 ∧ mu b d (fnd b (b 4 d) cn)) := by
  obtain ⟨hv, hc, hk, hr, hp⟩ := h
  have h16 := hv.1.1
  have hd := hv.2.2.1 d h1 h2
  have hf := fnd_le hv (b 4 d) cn
  unfold f_Links_resolved
  rw [gd_n (by omega) (by omega), n_cl (by omega), (hc.2.2.2.1 d h1 h2).1, c_found hv hc (by omega) hn, bd1_s, i_eq0 (by omega)]
  generalize fnd b (b 4 d) cn = c at *
  by_cases e : c = 0
  · rw [if_pos e]
    exact Or.inl ⟨-3, rfl, by decide, by decide, Or.inl ⟨e, rfl⟩⟩
  · rw [if_neg e, c_isL hv hk (by omega) hf, bd1_s, i_hb, gd_n (by omega) (by omega), n_cl (by omega)]
    by_cases z : cde b c = 0
    · rw [if_pos z, c_mu hv hc h1 h2 (by omega) hf, bd1_s, i_hb]
      by_cases u : mu b d c
      · rw [if_pos u]
        exact Or.inr ⟨rfl, e, z, u⟩
      · rw [if_neg u]
        exact Or.inl ⟨-6, rfl, by decide, by decide, Or.inr (Or.inr ⟨e, z, u, rfl⟩)⟩
    · rw [if_neg z, hk.2.1 c (by omega) hf (fun q => z ((cde_0 hv (by omega) hf).mpr q))]
      exact Or.inl ⟨_, rfl, (cde_ne z 0 (by omega)).2, (Cd_neg (lc_Cd b 16 [] c) z).2, Or.inr (Or.inl ⟨e, z, rfl⟩)⟩
/-- what both sides say of a reference, and what they leave -/
def Vd (b : Sp) (M R : Mem) (i : Nat) (x y : Option (Int32 × Mem)) : Prop := ∃ (v : Int32) (M' R' : Mem), x = some (v, M') ∧ y = some (v, R') ∧ Sw M M' ∧ Lq R R' ∧ (v ≤ 0 ∨ b 15 (5 * i + 1) / 4 = 0 ∨ ∃ m, mr b m ∧ v = nI m)
theorem b_b51 {b : Sp} {M R M1 R1 : Mem} (h : Bo b M1 R1) (sw : Sw M M1) (lo : Lq R R1) {i d k : Nat} (hi : i < nR b) (h1 : 1 ≤ d) (h2 : d ≤ nC b) (g : good b d) (hk40 : k ≤ 40) (hk : k ≠ 0 → mr b k) : Vd b M R i (f_Resolver_memberVerdict_b51 M1 (nI i) (nI d) (nI k)) (f_LinkAuditModel_verdictOf_b214 R1 (nI d) (nI (b 15 (5 * i + 1) / 4)) (nI k)) := by
  have hv := h.1
  have h12 := hv.1.2.2
  have v8 := hv.2.2.2.2.2.2.2 i hi
  unfold f_Resolver_memberVerdict_b51 f_LinkAuditModel_verdictOf_b214
  rw [i_eq0 (by omega), i_eq0 (by omega)]
  by_cases z : k = 0
  · rw [if_pos z, if_pos z]
    exact ⟨-7, M1, R1, rfl, rfl, sw, lo, Or.inl (by decide)⟩
  · have hm := hk z
    obtain ⟨m40, -, -, -, -, -, -, m14⟩ := m_lt hv hm
    obtain ⟨r, r1, r2⟩ := b_reach h h1 h2 g hm
    rw [if_neg z, if_neg z, r1, r2, bd1_s, bd1_s]
    by_cases e : r = 0
    · rw [if_pos e, if_pos e]
      exact ⟨-6, M1, R1, rfl, rfl, sw, lo, Or.inl (by decide)⟩
    · rw [if_neg e, if_neg e, c_isS hv h.2.1 hm, bd1_s]
      unfold f_References_wantsStatic f_LinkAuditModel_verdictOf_b249 f_LinkAuditModel_verdictOf_b254 f_LinkAuditModel_verdictOf_b275
      simp (disch := omega) only [gd_n, n_cl]
      rw [(h.2.1.2.2.2.2.2.2 i hi).2.1, h.2.2.2.1.2.2.2 14 (by omega) (by omega), l2, l4, i_eq (by omega) (by omega), i_eq (by omega) (by omega), i_eq (by omega) (by omega), i_eq (by omega) (by omega)]
      have good1 : Vd b M R i (some (nI k, M1)) (some (nI k, R1)) := ⟨_, M1, R1, rfl, rfl, sw, lo, Or.inr (Or.inr ⟨k, hm, rfl⟩)⟩
      have bad1 : Vd b M R i (some (-5, M1)) (some (-5, R1)) := ⟨-5, M1, R1, rfl, rfl, sw, lo, Or.inl (by decide)⟩
      have iff4 : (nI (b 14 k) &&& nI 4 = 0) ↔ b 14 k &&& 4 = 0 := by
        have : b 14 k &&& 4 < 1000000 := Nat.lt_of_le_of_lt Nat.and_le_left (by omega)
        rw [n_and, show (0 : Int32) = nI 0 from rfl, n_eq this (by omega)]
      by_cases s : b 14 k &&& 4 = 0
      · simp only [if_pos s, if_pos (iff4.mpr s)]
        by_cases q2 : b 15 (5 * i + 1) / 4 = 2
        · rw [if_pos q2, if_pos q2, bd1_s]
          exact bad1
        · rw [if_neg q2, if_neg q2]
          by_cases q4 : b 15 (5 * i + 1) / 4 = 4
          · rw [if_pos q4, if_pos q4, bd1_s]
            exact bad1
          · rw [if_neg q4, if_neg q4, bd1_s]
            exact good1
      · simp only [if_neg s, if_neg (fun q => s (iff4.mp q))]
        by_cases q2 : b 15 (5 * i + 1) / 4 = 2
        · rw [if_pos q2, if_pos q2, bd1_s]
          exact good1
        · rw [if_neg q2, if_neg q2]
          by_cases q4 : b 15 (5 * i + 1) / 4 = 4
          · rw [if_pos q4, if_pos q4, bd1_s]
            exact good1
          · rw [if_neg q4, if_neg q4, bd1_s]
            exact bad1
