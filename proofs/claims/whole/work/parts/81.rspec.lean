/-! PURE: the reference: own member, counts, most specific, the specific body -/
theorem r_om_L {b : Sp} {R : Mem} (hv : BV b) (hr : RB b R) {τ : Type} {c k n f s : Nat} (hc : c < 1000) (hk : k < 1000) (hn : n < 1000) (hf : f < 1000) (hs : s < 1000) (k1 : Int32 → Option τ) (k2 : Option τ) : ∀ r fu i, r < fu → i + r = nM b + 1 → 1 ≤ i → f_LinkAuditModel_ownMember_L3 R (nI c) (nI k) (nI n) (nI f) (nI s) k1 k2 fu (nI i) = if fi (fun m => b 9 m == c && b 10 m == k && b 11 m == n && b 12 m == f && b 13 m == s) r i = 0 then k2 else k1 (nI (fi (fun m => b 9 m == c && b 10 m == k && b 11 m == n && b 12 m == f && b 13 m == s) r i)) := by
  have h40 := hv.1.2.1
  have h16 := hv.1.1
  intro r
  induction r with
  | zero =>
    intro fu i hf' hi h1
    obtain ⟨fu, rfl⟩ : ∃ g, fu = g + 1 := ⟨fu - 1, by omega⟩
    rw [f_LinkAuditModel_ownMember_L3, hr.2.1, i_lt (by omega) (by omega), if_pos (by omega)]
    rfl
  | succ r ih =>
    intro fu i hf' hi h1
    obtain ⟨fu, rfl⟩ : ∃ g, fu = g + 1 := ⟨fu - 1, by omega⟩
    obtain ⟨-, v9, v10, v11, v12, v13, -⟩ := hv.2.2.2.2.1 i h1 (by omega)
    rw [f_LinkAuditModel_ownMember_L3, hr.2.1, i_lt (by omega) (by omega), if_neg (by omega)]
    simp (disch := omega) only [gd_n, n_cl]
    rw [hr.2.2.2 9 (by omega) (by omega) i, hr.2.2.2 10 (by omega) (by omega) i, hr.2.2.2 11 (by omega) (by omega) i, hr.2.2.2 12 (by omega) (by omega) i, hr.2.2.2 13 (by omega) (by omega) i, i_eq (by omega) (by omega), i_eq (by omega) (by omega), i_eq (by omega) (by omega), i_eq (by omega) (by omega), i_eq (by omega) (by omega), l1, n_add, ih fu (i + 1) (by omega) (by omega) (by omega), fi_s]
    by_cases e1 : b 9 i = c
    · by_cases e2 : b 10 i = k
      · by_cases e3 : b 11 i = n
        · by_cases e4 : b 12 i = f
          · by_cases e5 : b 13 i = s
            · simp [e1, e2, e3, e4, e5]
              intro q; omega
            · simp [e1, e2, e3, e4, e5]
          · simp [e1, e2, e3, e4]
        · simp [e1, e2, e3]
      · simp [e1, e2]
    · simp [e1]
theorem r_om {b : Sp} {R : Mem} (hv : BV b) (hr : RB b R) {c k n f s : Nat} (hc : c < 1000) (hk : k < 1000) (hn : n < 1000) (hf : f < 1000) (hs : s < 1000) : f_LinkAuditModel_ownMember R (nI c) (nI k) (nI n) (nI f) (nI s) = some (nI (lk b c k n f s)) := by
  have h40 := hv.1.2.1
  obtain ⟨fu, hfu⟩ := FU_s (r := nM b) (by omega)
  unfold f_LinkAuditModel_ownMember
  rw [l1, r_om_L hv hr hc hk hn hf hs _ _ (nM b) FU 1 (by omega) (by omega) (Nat.le_refl 1)]
  show (if lk b c k n f s = 0 then some 0 else some (nI (lk b c k n f s))) = _
  by_cases h : lk b c k n f s = 0
  · rw [if_pos h, h]; rfl
  · rw [if_neg h]
theorem r_face {b : Sp} {R : Mem} (hv : BV b) (hp : RP b R) {x y : Nat} (h1 : 1 ≤ x) (h2 : x ≤ nC b) (hy : y ≤ 16) : f_LinkAuditModel_hasFace R (nI x) (nI y) = some (if (T2 b x).testBit y = true then 1 else 0) := by
  have h16 := hv.1.1
  have ht := T2_lt hv x
  unfold f_LinkAuditModel_hasFace
  rw [gd_n (by omega) (by omega), n_cl (by omega), (hp.1 x h1 h2).2.2.2.2, i_bit (by omega) (by omega)]
  by_cases e : (T2 b x).testBit y = true
  · rw [if_pos e, if_pos e]
  · rw [if_neg e, if_neg e]
theorem r_sub {b : Sp} {R : Mem} (hv : BV b) (hp : RP b R) {x y : Nat} (h1 : 1 ≤ x) (h2 : x ≤ nC b) (hy : y ≤ 16) : f_LinkAuditModel_isSub R (nI x) (nI y) = some (if (T1 b x).testBit y = true then 1 else 0) := by
  have h16 := hv.1.1
  have ht := T1_lt hv h2
  unfold f_LinkAuditModel_isSub
  rw [gd_n (by omega) (by omega), n_cl (by omega), (hp.1 x h1 h2).2.2.2.1, i_bit (by omega) (by omega)]
  by_cases e : (T1 b x).testBit y = true
  · rw [if_pos e, if_pos e]
  · rw [if_neg e, if_neg e]
abbrev ct (b : Sp) (c n a s m : Nat) : Prop := b 10 m = 1 ∧ b 11 m = n ∧ b 12 m = a ∧ b 13 m = s ∧ (T2 b c).testBit (b 9 m) = true ∧ b 14 m &&& 3 ≠ 3 ∧ b 14 m &&& 4 = 0
theorem r_ct {b : Sp} {R : Mem} (hv : BV b) (hr : RB b R) (hp : RP b R) {c n a s m : Nat} (h1 : 1 ≤ c) (h2 : c ≤ nC b) (hm : mr b m) (hn : n < 1000) (ha : a < 1000) (hs : s < 1000) : f_LinkAuditModel_counts R (nI c) (nI m) (nI n) (nI a) (nI s) = some (if ct b c n a s m then 1 else 0) := by
  have h16 := hv.1.1
  obtain ⟨m40, m1, m2, m3, m4, m5, m6, m7⟩ := m_lt hv hm
  have a3 := a3_lt (b 14 m)
  unfold f_LinkAuditModel_counts f_LinkAuditModel_counts_b45 f_LinkAuditModel_counts_b46
  simp (disch := omega) only [gd_n, n_cl]
  rw [hr.2.2.2 10 (by omega) (by omega), hr.2.2.2 11 (by omega) (by omega), hr.2.2.2 12 (by omega) (by omega), hr.2.2.2 13 (by omega) (by omega), hr.2.2.2 9 (by omega) (by omega), hr.2.2.2 14 (by omega) (by omega), i_eq0 (by omega), i_eq (by omega) (by omega), i_eq (by omega) (by omega), i_eq (by omega) (by omega), if_pos True.intro, i1, r_face hv hp h1 h2 (by omega), bd1_s, i_hb, l3, l4, n_and, i_eq (by omega) (by omega), i_and (by omega)]
  by_cases e0 : b 10 m = 0
  · rw [if_pos e0, if_neg (fun q : ct b c n a s m => by have := q.1; omega)]
  · rw [if_neg e0]
    by_cases e1 : b 11 m = n
    · rw [if_pos e1]
      by_cases e2 : b 12 m = a
      · rw [if_pos e2]
        by_cases e3 : b 13 m = s
        · rw [if_pos e3]
          by_cases e4 : (T2 b c).testBit (b 9 m) = true
          · rw [if_pos e4]
            by_cases e5 : b 14 m &&& 3 = 3
            · rw [if_pos e5, if_neg (fun q : ct b c n a s m => q.2.2.2.2.2.1 e5)]
            · rw [if_neg e5]
              by_cases e6 : b 14 m &&& 4 = 0
              · rw [if_pos e6, if_pos (show ct b c n a s m from ⟨by omega, e1, e2, e3, e4, e5, e6⟩)]
              · rw [if_neg e6, if_neg (fun q : ct b c n a s m => e6 q.2.2.2.2.2.2)]
          · rw [if_neg e4, if_neg (fun q : ct b c n a s m => e4 q.2.2.2.2.1)]
        · rw [if_neg e3, if_neg (fun q : ct b c n a s m => e3 q.2.2.2.1)]
      · rw [if_neg e2, if_neg (fun q : ct b c n a s m => e2 q.2.2.1)]
    · rw [if_neg e1, if_neg (fun q : ct b c n a s m => e1 q.2.1)]
/-- none from i on stands in m's way -/
def ms (b : Sp) (c n a s m i : Nat) : Prop := ∀ o, i ≤ o → o ≤ nM b → o ≠ m → ct b c n a s o → ¬ (T2 b (b 9 o)).testBit (b 9 m) = true
theorem r_ms_L {b : Sp} {R : Mem} (hv : BV b) (hr : RB b R) (hp : RP b R) {c n a s m : Nat} (h1 : 1 ≤ c) (h2 : c ≤ nC b) (hm : mr b m) (hn : n < 1000) (ha : a < 1000) (hs : s < 1000) {τ : Type} (k1 k2 : Option τ) : ∀ r f i, r < f → i + r = nM b + 1 → 1 ≤ i → (f_LinkAuditModel_mostSpecific_L3 R (nI c) (nI m) (nI n) (nI a) (nI s) k1 k2 f (nI i) = k1 ∧ ¬ ms b c n a s m i) ∨ (f_LinkAuditModel_mostSpecific_L3 R (nI c) (nI m) (nI n) (nI a) (nI s) k1 k2 f (nI i) = k2 ∧ ms b c n a s m i) := by
  have h40 := hv.1.2.1
  have h16 := hv.1.1
  obtain ⟨m40, m1, m2, -⟩ := m_lt hv hm
  intro r
  induction r with
  | zero =>
    intro f i hf hi i1
    obtain ⟨f, rfl⟩ : ∃ g, f = g + 1 := ⟨f - 1, by omega⟩
    rw [f_LinkAuditModel_mostSpecific_L3, hr.2.1, i_lt (by omega) (by omega), if_pos (by omega)]
    exact Or.inr ⟨rfl, fun o o1 o2 => by omega⟩
  | succ r ih =>
    intro f i hf hi i1
    obtain ⟨f, rfl⟩ : ∃ g, f = g + 1 := ⟨f - 1, by omega⟩
    have hi' : mr b i := ⟨i1, by omega⟩
    obtain ⟨i40, q1, q2, -⟩ := m_lt hv hi'
    rw [f_LinkAuditModel_mostSpecific_L3, hr.2.1, i_lt (by omega) (by omega), if_neg (by omega), i_eq (by omega) (by omega), r_ct hv hr hp h1 h2 hi' hn ha hs, bd1_s, i_hb, gd_n (by omega) (by omega), gd_n (by omega) (by omega), n_cl (by omega), n_cl (by omega), hr.2.2.2 9 (by omega) (by omega), hr.2.2.2 9 (by omega) (by omega), r_face hv hp q1 q2 (by omega), bd1_s, i_hb, show nI i + (1 : Int32) = nI (i + 1) from n_add i 1]
    have next : (i ≠ m → ct b c n a s i → ¬ (T2 b (b 9 i)).testBit (b 9 m) = true) → (f_LinkAuditModel_mostSpecific_L3 R (nI c) (nI m) (nI n) (nI a) (nI s) k1 k2 f (nI (i + 1)) = k1 ∧ ¬ ms b c n a s m i) ∨ (f_LinkAuditModel_mostSpecific_L3 R (nI c) (nI m) (nI n) (nI a) (nI s) k1 k2 f (nI (i + 1)) = k2 ∧ ms b c n a s m i) := fun hh => by
      rcases ih f (i + 1) (by omega) (by omega) (by omega) with ⟨e1, e2⟩ | ⟨e1, e2⟩
      · exact Or.inl ⟨e1, fun q => e2 (fun o o1 => q o (by omega))⟩
      · refine Or.inr ⟨e1, fun o o1 o2 o3 o4 => ?_⟩
        by_cases z : o = i
        · rw [z] at o3 o4 ⊢; exact hh o3 o4
        · exact e2 o (by omega) o2 o3 o4
    by_cases e : i = m
    · rw [if_pos e]
      exact next (fun q => absurd e q)
    · rw [if_neg e]
      by_cases e' : ct b c n a s i
      · rw [if_pos e']
        by_cases t : (T2 b (b 9 i)).testBit (b 9 m) = true
        · rw [if_pos t]
          exact Or.inl ⟨rfl, fun q => q i (Nat.le_refl i) hi'.2 e e' t⟩
        · rw [if_neg t]
          exact next (fun _ _ => t)
      · rw [if_neg e']
        exact next (fun _ q => absurd q e')
theorem r_ms {b : Sp} {R : Mem} (hv : BV b) (hr : RB b R) (hp : RP b R) {c n a s m : Nat} (h1 : 1 ≤ c) (h2 : c ≤ nC b) (hm : mr b m) (hn : n < 1000) (ha : a < 1000) (hs : s < 1000) : (f_LinkAuditModel_mostSpecific R (nI c) (nI m) (nI n) (nI a) (nI s) = some 0 ∧ ¬ ms b c n a s m 1) ∨ (f_LinkAuditModel_mostSpecific R (nI c) (nI m) (nI n) (nI a) (nI s) = some 1 ∧ ms b c n a s m 1) := by
  have h40 := hv.1.2.1
  obtain ⟨fu, hfu⟩ := FU_s (r := nM b) (by omega)
  exact r_ms_L hv hr hp h1 h2 hm hn ha hs (some 0) (some 1) (nM b) FU 1 (by omega) (by omega) (Nat.le_refl 1)
def SB (b : Sp) (c n a s m : Nat) : Prop := mr b m ∧ ct b c n a s m ∧ ms b c n a s m 1 ∧ b 14 m &&& 8 = 0
theorem Sv_c {v : Int32} {P Q : Nat → Prop} (h : Sv v P) (e : ∀ m, P m ↔ Q m) : Sv v Q := by
  rcases h with ⟨h1, h2⟩ | ⟨k, h1, h2, h3, h4⟩ | ⟨h1, i, j, h2, h3, h4⟩
  · exact Or.inl ⟨h1, fun m q => h2 m ((e m).mpr q)⟩
  · exact Or.inr (Or.inl ⟨k, h1, h2, h3, fun m => (e m).symm.trans (h4 m)⟩)
  · exact Or.inr (Or.inr ⟨h1, i, j, h2, (e i).mp h3, (e j).mp h4⟩)
theorem r_sb_L {b : Sp} {R : Mem} (hv : BV b) (hr : RB b R) (hp : RP b R) {c n a s : Nat} (h1 : 1 ≤ c) (h2 : c ≤ nC b) (hn : n < 1000) (ha : a < 1000) (hs : s < 1000) {τ : Type} (ke : Int32 → Option τ) : ∀ r f i v, r < f → i + r = nM b + 1 → 1 ≤ i → Sv v (fun m => SB b c n a s m ∧ m < i) → ∃ w, f_LinkAuditModel_specificBody_L6 R (nI c) (nI n) (nI a) (nI s) ke f v (nI i) = ke w ∧ Sv w (SB b c n a s) := by
  have h40 := hv.1.2.1
  have h16 := hv.1.1
  intro r
  induction r with
  | zero =>
    intro f i v hf hi i1 hs'
    obtain ⟨f, rfl⟩ : ∃ g, f = g + 1 := ⟨f - 1, by omega⟩
    rw [f_LinkAuditModel_specificBody_L6, hr.2.1, i_lt (by omega) (by omega), if_pos (by omega)]
    exact ⟨v, rfl, Sv_c hs' (fun m => ⟨fun q => q.1, fun q => ⟨q, by have := q.1.2; omega⟩⟩)⟩
  | succ r ih =>
    intro f i v hf hi i1 hs'
    obtain ⟨f, rfl⟩ : ∃ g, f = g + 1 := ⟨f - 1, by omega⟩
    have hi' : mr b i := ⟨i1, by omega⟩
    obtain ⟨i40, q1, q2, -, -, -, -, q14⟩ := m_lt hv hi'
    rw [f_LinkAuditModel_specificBody_L6, hr.2.1, i_lt (by omega) (by omega), if_neg (by omega), r_ct hv hr hp h1 h2 hi' hn ha hs, bd1_s, i_hb, gd_n (by omega) (by omega), n_cl (by omega), hr.2.2.2 14 (by omega) (by omega), l8, i_and (by omega), show nI i + (1 : Int32) = nI (i + 1) from n_add i 1]
    have skip : ¬ SB b c n a s i → ∃ w, f_LinkAuditModel_specificBody_L6 R (nI c) (nI n) (nI a) (nI s) ke f v (nI (i + 1)) = ke w ∧ Sv w (SB b c n a s) := fun no =>
      ih f (i + 1) v (by omega) (by omega) (by omega) (Sv_c hs' (fun m => ⟨fun q => ⟨q.1, by omega⟩, fun q => ⟨q.1, by
        by_cases e : m = i
        · rw [e] at q; exact absurd q.1 no
        · omega⟩⟩))
    by_cases e1 : ct b c n a s i
    · rw [if_pos e1]
      rcases r_ms hv hr hp h1 h2 hi' hn ha hs with ⟨e2, e3⟩ | ⟨e2, e3⟩
      · rw [e2, bd1_s, i0]
        exact skip (fun q => e3 q.2.2.1)
      · rw [e2, bd1_s, if_neg (show ¬ (1 : Int32) = 0 by decide)]
        by_cases e4 : b 14 i &&& 8 = 0
        · have sb' : SB b c n a s i := ⟨hi', e1, e3, e4⟩
          rw [if_pos e4]
          rcases hs' with ⟨s1, s2⟩ | ⟨k, s1, s2, s3, s4⟩ | ⟨s1, j, k, s2, s3, s4⟩
          · rw [if_pos s1]
            refine ih f (i + 1) _ (by omega) (by omega) (by omega) (Or.inr (Or.inl ⟨i, rfl, i1, i40, fun m => ?_⟩))
            constructor
            · rintro ⟨w1, w2⟩
              by_cases z : m = i
              · exact z
              · exact absurd ⟨w1, by omega⟩ (s2 m)
            · rintro rfl; exact ⟨sb', by omega⟩
          · have hk := (s4 k).mpr rfl
            rw [if_neg (by rw [s1, l0, n_eq (by omega) (by omega)]; omega)]
            exact ih f (i + 1) _ (by omega) (by omega) (by omega) (Or.inr (Or.inr ⟨rfl, k, i, hk.2, ⟨hk.1, by omega⟩, sb', by omega⟩))
          · rw [if_neg (by rw [s1]; decide)]
            exact ih f (i + 1) _ (by omega) (by omega) (by omega) (Or.inr (Or.inr ⟨rfl, j, k, s2, ⟨s3.1, by omega⟩, s4.1, by omega⟩))
        · rw [if_neg e4]
          exact skip (fun q => e4 q.2.2.2)
    · rw [if_neg e1]
      exact skip (fun q => e1 q.2.1)
theorem r_sb {b : Sp} {R : Mem} (hv : BV b) (hr : RB b R) (hp : RP b R) {c n a s : Nat} (h1 : 1 ≤ c) (h2 : c ≤ nC b) (hn : n < 1000) (ha : a < 1000) (hs : s < 1000) : ∃ w, f_LinkAuditModel_specificBody R (nI c) (nI n) (nI a) (nI s) = some w ∧ Sv w (SB b c n a s) := by
  have h40 := hv.1.2.1
  obtain ⟨fu, hfu⟩ := FU_s (r := nM b) (by omega)
  exact r_sb_L hv hr hp h1 h2 hn ha hs (fun y5 => some y5) (nM b) FU 1 0 (by omega) (by omega) (Nat.le_refl 1) (Or.inl ⟨rfl, fun m q => by have := q.1.1.1; omega⟩)
