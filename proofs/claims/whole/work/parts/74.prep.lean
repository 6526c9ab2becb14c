/-! PURE: the reference prepares: codes, above, faces -/
def fcm (b : Sp) (x : Nat) : Nat := um (fun s => if wt b x s = 12 then 0 else 2 ^ sp b x s) 12 1 0
def aA (b : Sp) (x : Nat) : Nat := if cde b x = 0 then ab b x else 0
def aF (b : Sp) (x : Nat) : Nat := if cde b x = 0 then fcm b x else 0
theorem fcm_lt {b : Sp} (hv : BV b) (x : Nat) : fcm b x < 2 ^ 17 := by
  have h16 := hv.1.1
  refine um_lt (fun s => ?_) _ _ _ (by decide)
  split
  · exact (by decide : 0 < 2 ^ 17)
  · exact p2_lt (by have := sp_le hv x s; omega)
theorem aA_le {b : Sp} (hv : BV b) (x : Nat) : aA b x ≤ nC b := by
  unfold aA
  split
  · exact ab_le hv x
  · omega
theorem aF_lt {b : Sp} (hv : BV b) (x : Nat) : aF b x < 2 ^ 17 := by
  unfold aF
  split
  · exact fcm_lt hv x
  · exact (by decide : 0 < 2 ^ 17)
theorem r_L98 {b : Sp} {M : Mem} (hv : BV b) (hr : RB b M) {τ : Type} (ke : Mem → Option τ) {x : Nat} (h1 : 1 ≤ x) (h2 : x ≤ nC b) : ∀ r f n a, r < f → n + r = 12 → f_LinkAuditModel_prepare_L98 (nI x) ke f (nI n) (u1 M 18 x (nI a)) = ke (u1 M 18 x (nI (um (fun s => if wt b x s = 12 then 0 else 2 ^ sp b x s) r (n + 1) a))) := by
  have h16 := hv.1.1
  have hx := hv.2.2.1 x h1 h2
  intro r
  induction r with
  | zero =>
    intro f n a hf hn
    obtain ⟨f, rfl⟩ : ∃ g, f = g + 1 := ⟨f - 1, by omega⟩
    rw [f_LinkAuditModel_prepare_L98, l12, i_le (by omega) (by omega), if_pos (by omega)]
    rfl
  | succ r ih =>
    intro f n a hf hn
    obtain ⟨f, rfl⟩ : ∃ g, f = g + 1 := ⟨f - 1, by omega⟩
    have hr' : RB b (u1 M 18 x (nI a)) := RB_Lo hr (Lo_u (Lo_r 16 M) (by omega))
    rw [f_LinkAuditModel_prepare_L98, l12, i_le (by omega) (by omega), if_neg (show ¬ 12 ≤ n by omega)]
    simp (disch := omega) only [gd_n, n_cl]
    rw [hr'.2.2.2 8 (by omega) (by omega), hr'.2.2.2 4 (by omega) (by omega), i_bit (show b 8 x < 2 ^ 31 by omega) (show n < 32 by omega), show nI n + (1 : Int32) = nI (n + 1) from n_add n 1]
    rw [um]
    by_cases t : (b 8 x).testBit n = true
    · have w := (wt_b (x := x) (show n < 12 by omega)).1 t
      have e : sp b x (n + 1) = fnd b (b 4 x) n := by unfold sp; rw [w]
      have hsp := sp_le hv x (n + 1)
      rw [if_pos t, if_neg (show ¬ wt b x (n + 1) = 12 by omega), r_found hv hr' (by omega) (by omega), bd1_s, ← e]
      rw [u1_eq, if_pos rfl, n_shl _ (by omega), n_or, sm_s, u1_u1, ih f (n + 1) _ (by omega) (by omega)]
    · have w := (wt_b (x := x) (show n < 12 by omega)).2 t
      rw [if_neg t, if_pos w, ih f (n + 1) _ (by omega) (by omega), Nat.or_zero]
/-- the rows of class x before the rounds -/
def PR (b : Sp) (M : Mem) (x : Nat) : Prop := M.1 16 x = cde b x ∧ M.1 17 x = nI (aA b x) ∧ M.1 18 x = nI (aF b x) ∧ M.1 19 x = nI (2 ^ x) ∧ M.1 20 x = nI 0
theorem PR_c {b : Sp} {M N : Mem} {x : Nat} (h : PR b M x) (e : ∀ a, 16 ≤ a → a ≤ 20 → N.1 a x = M.1 a x) : PR b N x := by
  unfold PR
  rw [e 16 (by omega) (by omega), e 17 (by omega) (by omega), e 18 (by omega) (by omega), e 19 (by omega) (by omega), e 20 (by omega) (by omega)]
  exact h
theorem r_prep_L {b : Sp} (hv : BV b) {τ : Type} (ke : Mem → Option τ) : ∀ r f n M, r < f → n + r = nC b + 1 → 1 ≤ n → RB b M → (∀ y, 1 ≤ y → y < n → PR b M y) → ∃ N, f_LinkAuditModel_prepare_L2 ke f (nI n) M = ke N ∧ Lo 16 M N ∧ ∀ y, 1 ≤ y → y ≤ nC b → PR b N y := by
  have h16 := hv.1.1
  intro r
  induction r with
  | zero =>
    intro f n M hf hn h1 hr hp
    obtain ⟨f, rfl⟩ : ∃ g, f = g + 1 := ⟨f - 1, by omega⟩
    rw [f_LinkAuditModel_prepare_L2, hr.1, i_lt (by omega) (by omega), if_pos (show nC b < n by omega)]
    exact ⟨M, rfl, Lo_r 16 M, fun y y1 y2 => hp y y1 (by omega)⟩
  | succ r ih =>
    intro f n M hf hn h1 hr hp
    obtain ⟨f, rfl⟩ : ∃ g, f = g + 1 := ⟨f - 1, by omega⟩
    have hx := hv.2.2.1 n h1 (by omega)
    obtain ⟨N, n1, n2⟩ := r_loadCode hv hr h1 (show n ≤ nC b by omega)
    have rest : ∀ X : Mem, (∀ a j, a ≤ 20 → j ≠ n → X.1 a j = M.1 a j) → Lo 16 M X → PR b X n → ∃ O, f_LinkAuditModel_prepare_L2 ke f (nI n + 1) X = ke O ∧ Lo 16 M O ∧ ∀ y, 1 ≤ y → y ≤ nC b → PR b O y := by
      intro X hX lX pX
      rw [l1, n_add]
      obtain ⟨O, o1, o2, o3⟩ := ih f (n + 1) X (by omega) (by omega) (by omega) (RB_Lo hr lX) (fun y y1 y2 => by
        by_cases e : y = n
        · rw [e]; exact pX
        · exact PR_c (hp y y1 (by omega)) (fun a a1 a2 => hX a y a2 e))
      exact ⟨O, o1, Lo_t lX o2, o3⟩
    rw [f_LinkAuditModel_prepare_L2, hr.1, i_lt (by omega) (by omega), if_neg (show ¬ nC b < n by omega), n2, bd2_s]
    simp (disch := omega) only [gd_n, n_cl, sm_s, n_shl]
    have l16 : Lo 16 M (u1 (u1 (u1 (u1 (u1 N 16 n (cde b n)) 17 n 0) 18 n 0) 19 n (nI (2 ^ n))) 20 n 0) := Lo_u (Lo_u (Lo_u (Lo_u (Lo_u (Lo_le n1 (by omega)) (by omega)) (by omega)) (by omega)) (by omega)) (by omega)
    have rb := RB_Lo hr l16
    have same : ∀ a j, a ≤ 20 → j ≠ n → (u1 (u1 (u1 (u1 (u1 N 16 n (cde b n)) 17 n 0) 18 n 0) 19 n (nI (2 ^ n))) 20 n 0).1 a j = M.1 a j := fun a j ha hj => by
      have q : ∀ (X : Mem) (c : Nat) (v : Int32), (u1 X c n v).1 a j = X.1 a j := fun X c v => by
        by_cases e : a = c
        · rw [e, u1_eq, if_neg hj]
        · rw [u1_ne e]
      rw [q, q, q, q, q, n1 a (by omega)]
    have e16 : (u1 (u1 (u1 (u1 (u1 N 16 n (cde b n)) 17 n 0) 18 n 0) 19 n (nI (2 ^ n))) 20 n 0).1 16 n = cde b n := by
      rw [u1_ne (by omega), u1_ne (by omega), u1_ne (by omega), u1_ne (by omega), u1_eq, if_pos rfl]
    have e18 : (u1 (u1 (u1 (u1 (u1 N 16 n (cde b n)) 17 n 0) 18 n 0) 19 n (nI (2 ^ n))) 20 n 0).1 18 n = nI 0 := by
      rw [u1_ne (by omega), u1_ne (by omega), u1_eq, if_pos rfl]; rfl
    have e17 : (u1 (u1 (u1 (u1 (u1 N 16 n (cde b n)) 17 n 0) 18 n 0) 19 n (nI (2 ^ n))) 20 n 0).1 17 n = nI 0 := by
      rw [u1_ne (by omega), u1_ne (by omega), u1_ne (by omega), u1_eq, if_pos rfl]; rfl
    have e19 : (u1 (u1 (u1 (u1 (u1 N 16 n (cde b n)) 17 n 0) 18 n 0) 19 n (nI (2 ^ n))) 20 n 0).1 19 n = nI (2 ^ n) := by
      rw [u1_ne (by omega), u1_eq, if_pos rfl]
    have e20 : (u1 (u1 (u1 (u1 (u1 N 16 n (cde b n)) 17 n 0) 18 n 0) 19 n (nI (2 ^ n))) 20 n 0).1 20 n = nI 0 := by
      rw [u1_eq, if_pos rfl]; rfl
    generalize u1 (u1 (u1 (u1 (u1 N 16 n (cde b n)) 17 n 0) 18 n 0) 19 n (nI (2 ^ n))) 20 n 0 = X at *
    rw [e16]
    by_cases z : cde b n = 0
    · rw [if_pos z, rb.2.2.2 7 (by omega) (by omega), rb.2.2.2 4 (by omega) (by omega), l12, i_le (by omega) (by omega)]
      obtain ⟨fu, hfu⟩ := FU_s (r := 12) (by omega)
      have aF' : aF b n = fcm b n := by unfold aF; rw [if_pos z]
      have tail : ∀ Y : Mem, (∀ a j, a ≤ 20 → j ≠ n → Y.1 a j = M.1 a j) → Lo 16 M Y → Y.1 16 n = cde b n → Y.1 17 n = nI (aA b n) → Y.1 18 n = nI 0 → Y.1 19 n = nI (2 ^ n) → Y.1 20 n = nI 0 → ∃ O, f_LinkAuditModel_prepare_b96 Y (nI n) (f_LinkAuditModel_prepare_L2 ke f) ke = ke O ∧ Lo 16 M O ∧ ∀ y, 1 ≤ y → y ≤ nC b → PR b O y := by
        intro Y y0 yl y16 y17 y18 y19 y20
        have ye : Y = u1 Y 18 n (nI 0) := by
          refine Prod.ext ?_ rfl
          funext a j
          by_cases ea : a = 18
          · subst ea
            rw [u1_eq]
            by_cases ej : j = n
            · rw [if_pos ej, ej]; exact y18
            · rw [if_neg ej]
          · rw [u1_ne ea]
        unfold f_LinkAuditModel_prepare_b96
        rw [ye, l0, r_L98 hv (RB_Lo hr yl) _ h1 (show n ≤ nC b by omega) 12 FU 0 0 (by omega) (by omega)]
        refine rest _ (fun a j ha hj => ?_) (Lo_u yl (by omega)) ⟨?_, ?_, ?_, ?_, ?_⟩
        · by_cases ea : a = 18
          · rw [ea, u1_eq, if_neg hj]; exact y0 18 j (by omega) hj
          · rw [u1_ne ea]; exact y0 a j ha hj
        · rw [u1_ne (by omega)]; exact y16
        · rw [u1_ne (by omega)]; exact y17
        · rw [u1_eq, if_pos rfl, aF']; rfl
        · rw [u1_ne (by omega)]; exact y19
        · rw [u1_ne (by omega)]; exact y20
      by_cases e : b 7 n = 12
      · have ea : aA b n = 0 := by unfold aA ab; rw [if_pos z, if_pos (show wt b n 0 = 12 from e)]
        rw [if_pos (show 12 ≤ b 7 n by omega)]
        exact tail X same l16 e16 (by rw [ea]; exact e17) e18 e19 e20
      · have ea : aA b n = fnd b (b 4 n) (b 7 n) := by unfold aA ab; rw [if_pos z, if_neg (show ¬ wt b n 0 = 12 from e)]; rfl
        rw [if_neg (show ¬ 12 ≤ b 7 n by omega), r_found hv rb (by omega) (by omega), bd1_s, ← ea]
        refine tail (u1 X 17 n (nI (aA b n))) (fun a j ha hj => ?_) (Lo_u l16 (by omega)) ?_ ?_ ?_ ?_ ?_
        · by_cases ec : a = 17
          · rw [ec, u1_eq, if_neg hj]; exact same 17 j (by omega) hj
          · rw [u1_ne ec]; exact same a j ha hj
        · rw [u1_ne (by omega)]; exact e16
        · rw [u1_eq, if_pos rfl]
        · rw [u1_ne (by omega)]; exact e18
        · rw [u1_ne (by omega)]; exact e19
        · rw [u1_ne (by omega)]; exact e20
    · rw [if_neg z]
      refine rest X same l16 ⟨e16, ?_, ?_, e19, e20⟩
      · rw [e17]; unfold aA; rw [if_neg z]
      · rw [e18]; unfold aF; rw [if_neg z]
