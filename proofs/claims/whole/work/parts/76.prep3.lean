/-! PURE: the reference prepares: done -/
def dn (b : Sp) (L F : Nat → Nat) (y : Nat) : Prop := L y = T1 b y ∧ F y = T2 b y
def sb (x y : Nat) : Prop := ∀ k, x.testBit k = true → y.testBit k = true
theorem sb_eq {x y : Nat} (h : ∀ k, x.testBit k = true ↔ y.testBit k = true) : x = y := Nat.eq_of_testBit_eq (fun k => by
  have := h k
  cases hx : x.testBit k <;> cases hy : y.testBit k <;> simp_all)
def lev (b : Sp) (p y : Nat) : Prop := cde b y ≠ 0 ∨ gk b p y
theorem aA_lev {b : Sp} (hv : BV b) {p x : Nat} (h1 : 1 ≤ x) (h2 : x ≤ nC b) (h : lev b (p + 1) x) (h0 : aA b x ≠ 0) : lev b p (aA b x) := by
  unfold aA at h0 ⊢
  by_cases e : cde b x = 0
  · rw [if_pos e] at h0 ⊢
    rcases h with h | h
    · exact absurd e h
    · exact Or.inr (ab_g h h0)
  · rw [if_neg e] at h0; exact absurd rfl h0
theorem aF_lev {b : Sp} (hv : BV b) {p x i : Nat} (h1 : 1 ≤ x) (h2 : x ≤ nC b) (h : lev b (p + 1) x) (h0 : (aF b x).testBit i = true) : lev b p i := by
  unfold aF at h0
  by_cases e : cde b x = 0
  · rw [if_pos e] at h0
    rcases h with h | h
    · exact absurd e h
    · obtain ⟨s, s1, s2, w, q⟩ := fcm_b.mp h0
      rw [← q]
      exact Or.inr (h s s2 w).2.2
  · rw [if_neg e, Nat.zero_testBit] at h0; cases h0
theorem r_rounds {b : Sp} (hv : BV b) {τ : Type} (ke : Mem → Option τ) : ∀ r f p t M L F, r < f → p * nC b + t + r = 16 * nC b → t < nC b → RB b M → RI b M L F → (∀ y, 1 ≤ y → y ≤ nC b → (L y).testBit y = true ∧ sb (L y) (T1 b y) ∧ sb (F y) (T2 b y)) → (∀ y, 1 ≤ y → y ≤ nC b → (lev b p y ∨ (y ≤ t ∧ lev b (p + 1) y)) → dn b L F y) → ∃ N, f_LinkAuditModel_prepare_L153 ke f (nI (p * nC b + t)) M = ke N ∧ Lo 16 M N ∧ RI b N (T1 b) (T2 b) := by
  have h16 := hv.1.1
  intro r
  induction r with
  | zero =>
    intro f p t M L F hf hq ht hr hi hs hd
    obtain ⟨f, rfl⟩ : ∃ g, f = g + 1 := ⟨f - 1, by omega⟩
    have hp : p = 16 := by
      have e1 : (p * nC b + t) / nC b = p := by rw [Nat.mul_comm, Nat.mul_add_div (by omega), Nat.div_eq_of_lt ht]; omega
      have e2 : 16 * nC b / nC b = 16 := Nat.mul_div_cancel _ (by omega)
      rw [← e1, ← e2, ← hq]
      rfl
    rw [f_LinkAuditModel_prepare_L153, hr.1, l16, n_mul, i_le (by omega) (by omega), if_pos (show 16 * nC b ≤ p * nC b + t by omega)]
    refine ⟨M, rfl, Lo_r 16 M, fun y y1 y2 => ?_, fun y y1 y2 => ⟨T1_lt hv y2, T2_lt hv y⟩⟩
    have q := hi.1 y y1 y2
    have d := hd y y1 y2 (Or.inl (by
      rw [hp]
      by_cases e : cde b y = 0
      · exact Or.inr ((cde_0 hv y1 y2).mp e)
      · exact Or.inl e))
    rw [← d.1, ← d.2]
    exact q
  | succ r ih =>
    intro f p t M L F hf hq ht hr hi hs hd
    obtain ⟨f, rfl⟩ : ∃ g, f = g + 1 := ⟨f - 1, by omega⟩
    have hp : p < 16 := by
      refine Nat.lt_of_not_le (fun q => ?_)
      have : 16 * nC b ≤ p * nC b := Nat.mul_le_mul_right _ q
      omega
    obtain ⟨N, L', F', e1, lN, rN, same, lb, fb⟩ := r_round hv hr hi ke (f := f) ht hp
    rw [e1]
    have hA := aA_le hv (t + 1)
    have hs' : ∀ y, 1 ≤ y → y ≤ nC b → (L' y).testBit y = true ∧ sb (L' y) (T1 b y) ∧ sb (F' y) (T2 b y) := fun y y1 y2 => by
      by_cases e : y = t + 1
      · rw [e]
        refine ⟨(lb _).mpr (Or.inl (hs (t + 1) (by omega) (by omega)).1), fun k hk => ?_, fun k hk => ?_⟩
        · rcases (lb k).mp hk with h | ⟨h, h'⟩
          · exact (hs (t + 1) (by omega) (by omega)).2.1 k h
          · exact (T1_b hv (by omega) (by omega) k).mpr (Or.inr ⟨h, (hs _ (by omega) hA).2.1 k h'⟩)
        · rcases (fb k).mp hk with h | ⟨h, h'⟩ | h | ⟨i, i1, i2, h, h'⟩
          · exact (hs (t + 1) (by omega) (by omega)).2.2 k h
          · exact (T2_b hv (by omega) (by omega) k).mpr (Or.inl ⟨h, (hs _ (by omega) hA).2.2 k h'⟩)
          · exact (T2_b hv (by omega) (by omega) k).mpr (Or.inr (Or.inl h))
          · exact (T2_b hv (by omega) (by omega) k).mpr (Or.inr (Or.inr ⟨i, i1, i2, h, (hs i i1 i2).2.2 k h'⟩))
      · rw [(same y e).1, (same y e).2]; exact hs y y1 y2
    have hd' : ∀ y, 1 ≤ y → y ≤ nC b → (lev b p y ∨ (y ≤ t + 1 ∧ lev b (p + 1) y)) → dn b L' F' y := fun y y1 y2 hy => by
      by_cases e : y = t + 1
      · have lv : lev b (p + 1) (t + 1) := by
          rw [e] at hy
          rcases hy with h | h
          · exact h.elim Or.inl (fun q => Or.inr (gk_s _ _ q))
          · exact h.2
        rw [e]
        have s' := hs' (t + 1) (by omega) (by omega)
        refine ⟨sb_eq (fun k => ⟨s'.2.1 k, fun hk => ?_⟩), sb_eq (fun k => ⟨s'.2.2 k, fun hk => ?_⟩)⟩
        · rcases (T1_b hv (by omega) (by omega) k).mp hk with h | ⟨h, h'⟩
          · rw [← h]; exact s'.1
          · refine (lb k).mpr (Or.inr ⟨h, ?_⟩)
            rw [(hd _ (by omega) hA (Or.inl (aA_lev hv (by omega) (by omega) lv h))).1]
            exact h'
        · rcases (T2_b hv (by omega) (by omega) k).mp hk with ⟨h, h'⟩ | h | ⟨i, i1, i2, h, h'⟩
          · refine (fb k).mpr (Or.inr (Or.inl ⟨h, ?_⟩))
            rw [(hd _ (by omega) hA (Or.inl (aA_lev hv (by omega) (by omega) lv h))).2]
            exact h'
          · exact (fb k).mpr (Or.inr (Or.inr (Or.inl h)))
          · refine (fb k).mpr (Or.inr (Or.inr (Or.inr ⟨i, i1, i2, h, ?_⟩)))
            rw [(hd i i1 i2 (Or.inl (aF_lev hv (by omega) (by omega) lv h))).2]
            exact h'
      · unfold dn
        rw [(same y e).1, (same y e).2]
        exact hd y y1 y2 (hy.elim Or.inl (fun q => Or.inr ⟨by omega, q.2⟩))
    have out : ∀ O, Lo 16 N O → Lo 16 M O := fun O h => Lo_t lN h
    by_cases e : t + 1 = nC b
    · have e2 : p * nC b + t + 1 = (p + 1) * nC b + 0 := by rw [Nat.add_mul]; omega
      rw [e2]
      obtain ⟨O, o1, o2, o3⟩ := ih f (p + 1) 0 N L' F' (by omega) (by omega) (by omega) (RB_Lo hr lN) rN hs' (fun y y1 y2 hy => by
        rcases hy with h | h
        · exact hd' y y1 y2 (Or.inr ⟨by omega, h⟩)
        · omega)
      exact ⟨O, o1, out O o2, o3⟩
    · obtain ⟨O, o1, o2, o3⟩ := ih f p (t + 1) N L' F' (by omega) (by omega) (by omega) (RB_Lo hr lN) rN hs' hd'
      exact ⟨O, o1, out O o2, o3⟩
/-- what prepare leaves -/
def RP (b : Sp) (M : Mem) : Prop := RI b M (T1 b) (T2 b)
theorem r_prepare {b : Sp} {M : Mem} (hv : BV b) (hr : RB b M) : ∃ N, f_LinkAuditModel_prepare M = some N ∧ Lo 16 M N ∧ RP b N := by
  have h16 := hv.1.1
  obtain ⟨fu, hfu⟩ := FU_s (r := 16 * nC b) (by omega)
  unfold f_LinkAuditModel_prepare
  obtain ⟨N, n1, n2, n3⟩ := r_prep_L hv (fun M13 => f_LinkAuditModel_prepare_L153 (fun M19 => some M19) FU (0 : Int32) M13) (nC b) FU 1 M (by omega) (by omega) (Nat.le_refl 1) hr (fun y y1 y2 => by omega)
  rw [l1, n1]
  by_cases e : nC b = 0
  · refine ⟨N, ?_, n2, fun y y1 y2 => by omega, fun y y1 y2 => by omega⟩
    have rn := RB_Lo hr n2
    show f_LinkAuditModel_prepare_L153 _ FU 0 N = _
    rw [hfu, show fu + 1 + 16 * nC b = fu + 16 * nC b + 1 by omega, f_LinkAuditModel_prepare_L153, rn.1, e]
    exact if_pos (by decide)
  · have ri : RI b N (fun y => 2 ^ y) (fun _ => 0) := ⟨fun y y1 y2 => n3 y y1 y2, fun y y1 y2 => ⟨p2_lt (by omega), by show 0 < 2 ^ 17; decide⟩⟩
    obtain ⟨O, o1, o2, o3⟩ := r_rounds hv (fun M19 => some M19) (16 * nC b) FU 0 0 N _ _ (by omega) (by omega) (by omega) (RB_Lo hr n2) ri (fun y y1 y2 => ⟨(p2_b y y).mpr rfl, fun k hk => by
      unfold T1
      rw [Nat.testBit_or, hk]
      rfl, fun k hk => by
      rw [Nat.zero_testBit] at hk; cases hk⟩) (fun y y1 y2 hy => by
        rcases hy with (h | h) | h
        · unfold dn T1 T2
          rw [if_neg h, if_neg h, Nat.or_zero]
          exact ⟨rfl, rfl⟩
        · exact h.elim
        · omega)
    refine ⟨O, ?_, Lo_t n2 o2, o3⟩
    rw [show 0 * nC b + 0 = 0 by omega] at o1
    exact o1
