/-! PURE: the reference prepares: the rounds -/
theorem um_b {g : Nat → Nat} {k : Nat} : ∀ r s a, (um g r s a).testBit k = true ↔ a.testBit k = true ∨ ∃ i, s ≤ i ∧ i < s + r ∧ (g i).testBit k = true := by
  intro r
  induction r with
  | zero => intro s a; exact ⟨fun h => Or.inl h, fun h => h.elim id (fun ⟨i, h1, h2, _⟩ => by omega)⟩
  | succ r ih =>
    intro s a
    rw [um, ih, Nat.testBit_or, Bool.or_eq_true]
    constructor
    · rintro ((h | h) | ⟨i, h1, h2, h3⟩)
      · exact Or.inl h
      · exact Or.inr ⟨s, Nat.le_refl s, by omega, h⟩
      · exact Or.inr ⟨i, by omega, by omega, h3⟩
    · rintro (h | ⟨i, h1, h2, h3⟩)
      · exact Or.inl (Or.inl h)
      · by_cases e : i = s
        · subst e; exact Or.inl (Or.inr h3)
        · exact Or.inr ⟨i, by omega, by omega, h3⟩
theorem p2_b (x k : Nat) : (2 ^ x).testBit k = true ↔ x = k := by
  rw [Nat.testBit_two_pow]
  exact decide_eq_true_iff
def up1 (f : Nat → Nat) (c v : Nat) : Nat → Nat := fun y => if y = c then v else f y
theorem up1_e {f : Nat → Nat} {c v : Nat} : up1 f c v c = v := if_pos rfl
theorem up1_n {f : Nat → Nat} {c v y : Nat} (h : y ≠ c) : up1 f c v y = f y := if_neg h
def T1 (b : Sp) (x : Nat) : Nat := 2 ^ x ||| if cde b x = 0 then pm b 16 x else 0
def T2 (b : Sp) (x : Nat) : Nat := if cde b x = 0 then fm b 16 x else 0
theorem ab_16 {b : Sp} {x : Nat} (h : good b x) (h0 : ab b x ≠ 0) : good b (ab b x) := gk_s _ _ (ab_g h h0)
theorem sp_16 {b : Sp} {x s : Nat} (h : good b x) (hs : s < 13) (hw : wt b x s ≠ 12) : sp b x s ≠ 0 ∧ good b (sp b x s) := ⟨(h s hs hw).1, gk_s _ _ (h s hs hw).2.2⟩
theorem fcm_b {b : Sp} {x i : Nat} : (fcm b x).testBit i = true ↔ ∃ s, 1 ≤ s ∧ s < 13 ∧ wt b x s ≠ 12 ∧ sp b x s = i := by
  unfold fcm
  rw [um_b]
  constructor
  · rintro (h | ⟨s, h1, h2, h3⟩)
    · rw [Nat.zero_testBit] at h; cases h
    · by_cases e : wt b x s = 12
      · rw [if_pos e, Nat.zero_testBit] at h3; cases h3
      · rw [if_neg e, p2_b] at h3
        exact ⟨s, h1, by omega, e, h3⟩
  · rintro ⟨s, h1, h2, h3, h4⟩
    refine Or.inr ⟨s, h1, by omega, ?_⟩
    rw [if_neg h3, p2_b]
    exact h4
theorem T1_b {b : Sp} (hv : BV b) {x : Nat} (h1 : 1 ≤ x) (h2 : x ≤ nC b) (k : Nat) : (T1 b x).testBit k = true ↔ x = k ∨ (aA b x ≠ 0 ∧ (T1 b (aA b x)).testBit k = true) := by
  unfold T1 aA
  rw [Nat.testBit_or, Bool.or_eq_true, p2_b]
  by_cases e : cde b x = 0
  · have g := (cde_0 hv h1 h2).mp e
    rw [if_pos e, if_pos e, (tab_16 g).2.1]
    by_cases a : ab b x = 0
    · rw [if_pos a, Nat.zero_testBit]
      simp [a]
    · have ga := (cde_0 hv (by omega) (ab_le hv x)).mpr (ab_16 g a)
      rw [if_neg a, if_pos ga]
      simp [a]
  · rw [if_neg e, if_neg e, Nat.zero_testBit]
    simp
theorem T2_b {b : Sp} (hv : BV b) {x : Nat} (h1 : 1 ≤ x) (h2 : x ≤ nC b) (k : Nat) : (T2 b x).testBit k = true ↔ (aA b x ≠ 0 ∧ (T2 b (aA b x)).testBit k = true) ∨ (aF b x).testBit k = true ∨ ∃ i, 1 ≤ i ∧ i ≤ nC b ∧ (aF b x).testBit i = true ∧ (T2 b i).testBit k = true := by
  by_cases e : cde b x = 0
  · have g := (cde_0 hv h1 h2).mp e
    have eF : aF b x = fcm b x := by unfold aF; rw [if_pos e]
    have eA : aA b x = ab b x := by unfold aA; rw [if_pos e]
    have e2 : T2 b x = fm b 16 x := by unfold T2; rw [if_pos e]
    have up : ∀ s, s < 13 → wt b x s ≠ 12 → T2 b (sp b x s) = fm b 16 (sp b x s) := fun s hs hw => by
      have q := sp_16 g hs hw
      unfold T2
      rw [if_pos ((cde_0 hv (by omega) (sp_le hv x s)).mpr q.2)]
    rw [e2, eF, eA, (tab_16 g).2.2, um_b]
    constructor
    · rintro (h | ⟨s, s1, s2, h⟩)
      · by_cases a : ab b x = 0
        · rw [if_pos a, Nat.zero_testBit] at h; cases h
        · rw [if_neg a] at h
          obtain ⟨w, q⟩ := ab_s a
          refine Or.inl ⟨a, ?_⟩
          rw [q] at h ⊢
          rw [up 0 (by omega) w]
          exact h
      · by_cases w : wt b x s = 12
        · rw [if_pos w, Nat.zero_testBit] at h; cases h
        · rw [if_neg w, Nat.testBit_or, Bool.or_eq_true, p2_b] at h
          rcases h with h | h
          · exact Or.inr (Or.inl (fcm_b.mpr ⟨s, s1, by omega, w, h⟩))
          · have q := sp_16 g (s := s) (by omega) w
            refine Or.inr (Or.inr ⟨sp b x s, by omega, sp_le hv x s, fcm_b.mpr ⟨s, s1, by omega, w, rfl⟩, ?_⟩)
            rw [up s (by omega) w]
            exact h
    · rintro (⟨a, h⟩ | h | ⟨i, i1, i2, h, h'⟩)
      · rw [if_neg a]
        obtain ⟨w, q⟩ := ab_s a
        rw [q] at h ⊢
        rw [up 0 (by omega) w] at h
        exact Or.inl h
      · obtain ⟨s, s1, s2, w, h⟩ := fcm_b.mp h
        refine Or.inr ⟨s, s1, by omega, ?_⟩
        rw [if_neg w, Nat.testBit_or, Bool.or_eq_true, p2_b]
        exact Or.inl h
      · obtain ⟨s, s1, s2, w, h⟩ := fcm_b.mp h
        refine Or.inr ⟨s, s1, by omega, ?_⟩
        rw [if_neg w, Nat.testBit_or, Bool.or_eq_true, p2_b]
        rw [← h, up s (by omega) w] at h'
        exact Or.inr h'
  · have eF : aF b x = 0 := by unfold aF; rw [if_neg e]
    have eA : aA b x = 0 := by unfold aA; rw [if_neg e]
    have e2 : T2 b x = 0 := by unfold T2; rw [if_neg e]
    rw [eF, eA, e2]
    simp
theorem T1_lt {b : Sp} (hv : BV b) {x : Nat} (h2 : x ≤ nC b) : T1 b x < 2 ^ 17 := by
  have h16 := hv.1.1
  refine Nat.or_lt_two_pow (p2_lt (by omega)) ?_
  split
  · exact pm_lt hv _ _
  · exact (by decide : 0 < 2 ^ 17)
theorem T2_lt {b : Sp} (hv : BV b) (x : Nat) : T2 b x < 2 ^ 17 := by
  unfold T2
  split
  · exact fm_lt hv _ _
  · exact (by decide : 0 < 2 ^ 17)
/-- the reference's rows, with L and F as they stand -/
def RI (b : Sp) (M : Mem) (L F : Nat → Nat) : Prop := (∀ y, 1 ≤ y → y ≤ nC b → M.1 16 y = cde b y ∧ M.1 17 y = nI (aA b y) ∧ M.1 18 y = nI (aF b y) ∧ M.1 19 y = nI (L y) ∧ M.1 20 y = nI (F y)) ∧ ∀ y, 1 ≤ y → y ≤ nC b → L y < 2 ^ 17 ∧ F y < 2 ^ 17
theorem r_L236 {b : Sp} {M : Mem} (hv : BV b) {L F : Nat → Nat} (hr : RB b M) (hi : RI b M L F) {τ : Type} (ke : Mem → Option τ) (x1 : Int32) {c : Nat} (h1 : 1 ≤ c) (h2 : c ≤ nC b) : ∀ r f i a, r < f → i + r = nC b + 1 → 1 ≤ i → f_LinkAuditModel_prepare_L236 x1 (nI c) ke f (nI i) (u1 M 20 c (nI a)) = ke (u1 M 20 c (nI (um (fun i => if (aF b c).testBit i = true then (if i = c then 0 else F i) else 0) r i a))) := by
  have h16 := hv.1.1
  have hF := aF_lt hv c
  intro r
  induction r with
  | zero =>
    intro f i a hf hn i1
    obtain ⟨f, rfl⟩ : ∃ g, f = g + 1 := ⟨f - 1, by omega⟩
    rw [f_LinkAuditModel_prepare_L236, u1_ne (by omega), hr.1, i_lt (by omega) (by omega), if_pos (by omega)]
    rfl
  | succ r ih =>
    intro f i a hf hn i1
    obtain ⟨f, rfl⟩ : ∃ g, f = g + 1 := ⟨f - 1, by omega⟩
    rw [f_LinkAuditModel_prepare_L236, show (u1 M 20 c (nI a)).1 0 = M.1 0 from u1_ne (by omega), hr.1, i_lt (by omega) (by omega), if_neg (show ¬ nC b < i by omega)]
    simp (disch := omega) only [gd_n, n_cl]
    rw [show (u1 M 20 c (nI a)).1 18 = M.1 18 from u1_ne (by omega), (hi.1 c h1 h2).2.2.1, i_bit (show aF b c < 2 ^ 31 by omega) (show i < 32 by omega), show nI i + (1 : Int32) = nI (i + 1) from n_add i 1]
    rw [um]
    by_cases t : (aF b c).testBit i = true
    · rw [if_pos t, if_pos t, sm_s]
      have e : (u1 (u1 M 20 c (nI a)) 20 c ((u1 M 20 c (nI a)).1 20 c ||| (u1 M 20 c (nI a)).1 20 i)) = u1 M 20 c (nI (a ||| if i = c then 0 else F i)) := by
        rw [u1_u1, u1_eq, if_pos rfl, u1_eq]
        by_cases e : i = c
        · rw [if_pos e, if_pos e, n_or, Nat.or_self, Nat.or_zero]
        · rw [if_neg e, if_neg e, (hi.1 i i1 (by omega)).2.2.2.2, n_or]
      rw [e, ih f (i + 1) _ (by omega) (by omega) (by omega)]
    · rw [if_neg t, if_neg t, ih f (i + 1) _ (by omega) (by omega) (by omega), Nat.or_zero]
/-- one class of a round -/
theorem r_round {b : Sp} {M : Mem} (hv : BV b) {L F : Nat → Nat} (hr : RB b M) (hi : RI b M L F) {τ : Type} (ke : Mem → Option τ) {p t f : Nat} (ht : t < nC b) (hp : p < 16) : ∃ N L' F', f_LinkAuditModel_prepare_L153 ke (f + 1) (nI (p * nC b + t)) M = f_LinkAuditModel_prepare_L153 ke f (nI (p * nC b + t + 1)) N ∧ Lo 16 M N ∧ RI b N L' F' ∧ (∀ y, y ≠ t + 1 → L' y = L y ∧ F' y = F y) ∧ (∀ k, (L' (t + 1)).testBit k = true ↔ (L (t + 1)).testBit k = true ∨ (aA b (t + 1) ≠ 0 ∧ (L (aA b (t + 1))).testBit k = true)) ∧ (∀ k, (F' (t + 1)).testBit k = true ↔ (F (t + 1)).testBit k = true ∨ (aA b (t + 1) ≠ 0 ∧ (F (aA b (t + 1))).testBit k = true) ∨ (aF b (t + 1)).testBit k = true ∨ ∃ i, 1 ≤ i ∧ i ≤ nC b ∧ (aF b (t + 1)).testBit i = true ∧ (F i).testBit k = true) := by
  have h16 := hv.1.1
  have hlt : p * nC b + t < 16 * nC b := by
    have : p * nC b ≤ 15 * nC b := Nat.mul_le_mul_right _ (by omega)
    omega
  have hmod : (p * nC b + t) % nC b = t := by
    rw [Nat.mul_comm, Nat.mul_add_mod, Nat.mod_eq_of_lt ht]
  have hA := aA_le hv (t + 1)
  have hFl := aF_lt hv (t + 1)
  have hc := hi.1 (t + 1) (by omega) (by omega)
  have hb := hi.2 (t + 1) (by omega) (by omega)
  obtain ⟨fu, hfu⟩ := FU_s (r := nC b) (by omega)
  have e1 : (1 : Int32) + (nI (p * nC b + t) - nI (p * nC b + t) / nI (nC b) * nI (nC b)) = nI (t + 1) := by
    rw [n_rem (by omega) (by omega) (by omega), hmod, l1, n_add, Nat.add_comm]
  -- from b218 on
  have tail : ∀ (X : Mem) (L1 F1 : Nat → Nat), Lo 16 M X → RI b X L1 F1 → (∀ y, y ≠ t + 1 → L1 y = L y ∧ F1 y = F y) → (∀ k, (L1 (t + 1)).testBit k = true ↔ (L (t + 1)).testBit k = true ∨ (aA b (t + 1) ≠ 0 ∧ (L (aA b (t + 1))).testBit k = true)) → (∀ k, (F1 (t + 1)).testBit k = true ↔ (F (t + 1)).testBit k = true ∨ (aA b (t + 1) ≠ 0 ∧ (F (aA b (t + 1))).testBit k = true)) → ∃ N L' F', f_LinkAuditModel_prepare_b218 X (nI (p * nC b + t)) (nI (t + 1)) (f_LinkAuditModel_prepare_L153 ke f) ke = f_LinkAuditModel_prepare_L153 ke f (nI (p * nC b + t + 1)) N ∧ Lo 16 M N ∧ RI b N L' F' ∧ (∀ y, y ≠ t + 1 → L' y = L y ∧ F' y = F y) ∧ (∀ k, (L' (t + 1)).testBit k = true ↔ (L (t + 1)).testBit k = true ∨ (aA b (t + 1) ≠ 0 ∧ (L (aA b (t + 1))).testBit k = true)) ∧ (∀ k, (F' (t + 1)).testBit k = true ↔ (F (t + 1)).testBit k = true ∨ (aA b (t + 1) ≠ 0 ∧ (F (aA b (t + 1))).testBit k = true) ∨ (aF b (t + 1)).testBit k = true ∨ ∃ i, 1 ≤ i ∧ i ≤ nC b ∧ (aF b (t + 1)).testBit i = true ∧ (F i).testBit k = true) := by
    intro X L1 F1 lX rX same lb fb
    have hx := rX.1 (t + 1) (by omega) (by omega)
    have hxb := rX.2 (t + 1) (by omega) (by omega)
    unfold f_LinkAuditModel_prepare_b218
    simp (disch := omega) only [gd_n, n_cl, sm_s]
    rw [hx.2.2.2.2, hx.2.2.1, n_or, show (1 : Int32) = nI 1 from rfl, r_L236 hv (RB_Lo hr lX) rX _ _ (by omega) (by omega) (nC b) FU 1 _ (by omega) (by omega) (by omega)]
    have hu : um (fun i => if (aF b (t + 1)).testBit i = true then (if i = t + 1 then 0 else F1 i) else 0) (nC b) 1 (F1 (t + 1) ||| aF b (t + 1)) < 2 ^ 17 := by
      have : ∀ i, (if 1 ≤ i ∧ i ≤ nC b ∧ (aF b (t + 1)).testBit i = true then (if i = t + 1 then 0 else F1 i) else 0) < 2 ^ 17 := fun i => by
        split
        · rename_i hh
          split
          · exact (by decide : 0 < 2 ^ 17)
          · exact (rX.2 i hh.1 hh.2.1).2
        · exact (by decide : 0 < 2 ^ 17)
      rw [um_cong _ _ _ (fun i h1 h2 => show _ = (if 1 ≤ i ∧ i ≤ nC b ∧ (aF b (t + 1)).testBit i = true then (if i = t + 1 then 0 else F1 i) else 0) from by
        by_cases e : (aF b (t + 1)).testBit i = true
        · exact (if_pos e).trans (if_pos (c := 1 ≤ i ∧ i ≤ nC b ∧ (aF b (t + 1)).testBit i = true) ⟨h1, by omega, e⟩).symm
        · exact (if_neg e).trans (if_neg (c := 1 ≤ i ∧ i ≤ nC b ∧ (aF b (t + 1)).testBit i = true) (fun q => e q.2.2)).symm)]
      exact um_lt this _ _ _ (Nat.or_lt_two_pow hxb.2 hFl)
    refine ⟨_, L1, up1 F1 (t + 1) (um (fun i => if (aF b (t + 1)).testBit i = true then (if i = t + 1 then 0 else F1 i) else 0) (nC b) 1 (F1 (t + 1) ||| aF b (t + 1))), by rw [n_add], Lo_u lX (by omega), ⟨fun y y1 y2 => ?_, fun y y1 y2 => ⟨(rX.2 y y1 y2).1, ?_⟩⟩, fun y hy => ⟨(same y hy).1, by rw [up1_n hy]; exact (same y hy).2⟩, lb, fun k => ?_⟩
    · rw [u1_ne (by omega), u1_ne (by omega), u1_ne (by omega), u1_ne (by omega), u1_eq]
      have q := rX.1 y y1 y2
      refine ⟨q.1, q.2.1, q.2.2.1, q.2.2.2.1, ?_⟩
      by_cases e : y = t + 1
      · rw [if_pos e, e, up1_e]
      · rw [if_neg e, up1_n e]; exact q.2.2.2.2
    · by_cases e : y = t + 1
      · rw [e, up1_e]; exact hu
      · rw [up1_n e]; exact (rX.2 y y1 y2).2
    · rw [up1_e, um_b, Nat.testBit_or, Bool.or_eq_true, fb]
      constructor
      · rintro (((h | h) | h) | ⟨i, i1, i2, h⟩)
        · exact Or.inl h
        · exact Or.inr (Or.inl h)
        · exact Or.inr (Or.inr (Or.inl h))
        · by_cases e : (aF b (t + 1)).testBit i = true
          · rw [if_pos e] at h
            by_cases z : i = t + 1
            · rw [if_pos z, Nat.zero_testBit] at h; cases h
            · rw [if_neg z, (same i z).2] at h
              exact Or.inr (Or.inr (Or.inr ⟨i, i1, by omega, e, h⟩))
          · rw [if_neg e, Nat.zero_testBit] at h; cases h
      · rintro (h | h | h | ⟨i, i1, i2, e, h⟩)
        · exact Or.inl (Or.inl (Or.inl h))
        · exact Or.inl (Or.inl (Or.inr h))
        · exact Or.inl (Or.inr h)
        · by_cases z : i = t + 1
          · rw [z] at h
            exact Or.inl (Or.inl (Or.inl h))
          · refine Or.inr ⟨i, i1, by omega, ?_⟩
            rw [if_pos e, if_neg z, (same i z).2]
            exact h
  rw [f_LinkAuditModel_prepare_L153, hr.1, l16, n_mul, i_le (by omega) (by omega), if_neg (show ¬ 16 * nC b ≤ p * nC b + t by omega), gd_p (by rw [l0, n_eq (by omega) (by omega)]; omega), e1]
  simp (disch := omega) only [gd_n, n_cl]
  rw [hc.2.1, show (0 : Int32) = nI 0 from rfl, i_le (by omega) (by omega)]
  by_cases z : aA b (t + 1) = 0
  · rw [if_pos (show aA b (t + 1) ≤ 0 by omega)]
    unfold f_LinkAuditModel_prepare_b199
    rw [show (0 : Int32) = nI 0 from rfl, i_le (by omega) (by omega), if_pos (show aA b (t + 1) ≤ 0 by omega)]
    exact tail M L F (Lo_r 16 M) hi (fun y _ => ⟨rfl, rfl⟩) (fun k => ⟨Or.inl, fun h => h.elim id (fun q => absurd z q.1)⟩) (fun k => ⟨Or.inl, fun h => h.elim id (fun q => absurd z q.1)⟩)
  · have ha := hi.1 (aA b (t + 1)) (by omega) hA
    have hab := hi.2 (aA b (t + 1)) (by omega) hA
    rw [if_neg (show ¬ aA b (t + 1) ≤ 0 by omega)]
    simp (disch := omega) only [gd_n, n_cl, sm_s]
    unfold f_LinkAuditModel_prepare_b199
    rw [show (0 : Int32) = nI 0 from rfl, i_le (by omega) (by omega), if_neg (show ¬ aA b (t + 1) ≤ 0 by omega)]
    simp (disch := omega) only [gd_n, n_cl, sm_s]
    rw [hc.2.2.2.1, ha.2.2.2.1, n_or, show (u1 M 19 (t + 1) (nI (L (t + 1) ||| L (aA b (t + 1))))).1 20 = M.1 20 from u1_ne (by omega), hc.2.2.2.2, ha.2.2.2.2, n_or]
    refine tail _ (up1 L (t + 1) (L (t + 1) ||| L (aA b (t + 1)))) (up1 F (t + 1) (F (t + 1) ||| F (aA b (t + 1)))) (Lo_u (Lo_u (Lo_r 16 M) (by omega)) (by omega)) ⟨fun y y1 y2 => ?_, fun y y1 y2 => ?_⟩ (fun y hy => ⟨up1_n hy, up1_n hy⟩) (fun k => ?_) (fun k => ?_)
    · have q := hi.1 y y1 y2
      rw [u1_ne (by omega), u1_ne (by omega), u1_ne (by omega), u1_ne (by omega), u1_ne (by omega), u1_ne (by omega), u1_ne (by omega), u1_eq, u1_eq, u1_ne (by omega)]
      refine ⟨q.1, q.2.1, q.2.2.1, ?_, ?_⟩
      · by_cases e : y = t + 1
        · rw [if_pos e, e, up1_e]
        · rw [if_neg e, up1_n e]; exact q.2.2.2.1
      · by_cases e : y = t + 1
        · rw [if_pos e, e, up1_e]
        · rw [if_neg e, up1_n e]; exact q.2.2.2.2
    · have q := hi.2 y y1 y2
      by_cases e : y = t + 1
      · rw [e, up1_e, up1_e]
        exact ⟨Nat.or_lt_two_pow hb.1 hab.1, Nat.or_lt_two_pow hb.2 hab.2⟩
      · rw [up1_n e, up1_n e]; exact q
    · rw [up1_e, Nat.testBit_or, Bool.or_eq_true]
      exact ⟨fun h => h.elim Or.inl (fun q => Or.inr ⟨z, q⟩), fun h => h.elim Or.inl (fun q => Or.inr q.2)⟩
    · rw [up1_e, Nat.testBit_or, Bool.or_eq_true]
      exact ⟨fun h => h.elim Or.inl (fun q => Or.inr ⟨z, q⟩), fun h => h.elim Or.inl (fun q => Or.inr q.2)⟩
