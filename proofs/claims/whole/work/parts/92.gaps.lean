/-! PURE: gaps, both sides -/
theorem Bo_q {b : Sp} {M R R' : Mem} (h : Bo b M R) (l : Lq R R') : Bo b M R' := Bo_s h (Sw_r M) l
theorem c_gap0 {b : Sp} {M : Mem} (hv : BV b) (hc : CB b M) (hk : LK b M) {τ : Type} (ke : Int32 → Option τ) {x : Nat} (h1 : 1 ≤ x) (h2 : x ≤ nC b) (no : cde b x ≠ 0 ∨ b 6 x &&& 12 ≠ 0) (c : Int32) : ∀ r f i, r < f → i + r = nM b + 1 → 1 ≤ i → f_Selector_gapCount_L17 M (nI x) ke f c (nI i) = ke c := by
  have h40 := hv.1.2.1
  intro r
  induction r with
  | zero =>
    intro f i hf hi i1
    obtain ⟨f, rfl⟩ : ∃ g, f = g + 1 := ⟨f - 1, by omega⟩
    rw [f_Selector_gapCount_L17, hc.1.2.1, i_lt (by omega) (by omega), if_pos (by omega)]
  | succ r ih =>
    intro f i hf hi i1
    obtain ⟨f, rfl⟩ : ∃ g, f = g + 1 := ⟨f - 1, by omega⟩
    have need : f_Selector_needsCode M (nI x) (nI i) = some 0 := by
      unfold f_Selector_needsCode
      rw [c_isL hv hk h1 h2, bd1_s, i_hb, c_isA hv hc h1 h2, bd1_s]
      by_cases e : cde b x = 0
      · have e2 : ¬ b 6 x &&& 12 = 0 := no.elim (fun q => absurd e q) id
        rw [if_pos e, if_neg e2, if_neg (by decide)]
      · rw [if_neg e]
    rw [f_Selector_gapCount_L17, hc.1.2.1, i_lt (by omega) (by omega), if_neg (by omega), need, bd1_s, i0, show nI i + (1 : Int32) = nI (i + 1) from n_add i 1]
    exact ih f (i + 1) (by omega) (by omega) (by omega)
theorem b_gap1 {b : Sp} {M : Mem} {σ τ : Type} (ke : Int32 → Option σ) (qe : Int32 → Mem → Option τ) {x : Nat} (h1 : 1 ≤ x) (h2 : x ≤ nC b) (z : cde b x = 0) (z2 : b 6 x &&& 12 = 0) : ∀ r f f' i c R, r < f → r < f' → i + r = nM b + 1 → 1 ≤ i → Bo b M R → ∃ c' N, f_Selector_gapCount_L17 M (nI x) ke f (nI c) (nI i) = ke (nI c') ∧ f_LinkAuditModel_allGaps_L38 (nI x) qe f' (nI c) (nI i) R = qe (nI c') N ∧ Lq R N ∧ c' ≤ c + r := by
  intro r
  induction r with
  | zero =>
    intro f f' i c R hf hf' hi i1 h
    have h40 := h.1.1.2.1
    obtain ⟨f, rfl⟩ : ∃ g, f = g + 1 := ⟨f - 1, by omega⟩
    obtain ⟨f', rfl⟩ : ∃ g, f' = g + 1 := ⟨f' - 1, by omega⟩
    refine ⟨c, R, ?_, ?_, Lq_r R, by omega⟩
    · rw [f_Selector_gapCount_L17, h.2.1.1.2.1, i_lt (by omega) (by omega), if_pos (by omega)]
    · rw [f_LinkAuditModel_allGaps_L38, h.2.2.2.1.2.1, i_lt (by omega) (by omega), if_pos (by omega)]
  | succ r ih =>
    intro f f' i c R hf hf' hi i1 h
    obtain ⟨f, rfl⟩ : ∃ g, f = g + 1 := ⟨f - 1, by omega⟩
    obtain ⟨f', rfl⟩ : ∃ g, f' = g + 1 := ⟨f' - 1, by omega⟩
    have h0 := h
    obtain ⟨hv, hc, hk, hr, hp⟩ := h
    have h40 := hv.1.2.1
    have h16 := hv.1.1
    have hi' : mr b i := ⟨i1, by omega⟩
    obtain ⟨i40, q1, q2, q3, q4, q5, q6, q7⟩ := m_lt hv hi'
    have g := (cde_0 hv h1 h2).mp z
    have goon : ∀ c1 N, Lq R N → c1 ≤ c + 1 → ∃ c' N', f_Selector_gapCount_L17 M (nI x) ke f (nI c1) (nI (i + 1)) = ke (nI c') ∧ f_LinkAuditModel_allGaps_L38 (nI x) qe f' (nI c1) (nI (i + 1)) N = qe (nI c') N' ∧ Lq R N' ∧ c' ≤ c + (r + 1) := fun c1 N lo hc1 => by
      obtain ⟨c', N', w1, w2, w3, w4⟩ := ih f f' (i + 1) c1 N (by omega) (by omega) (by omega) (by omega) (Bo_q h0 lo)
      exact ⟨c', N', w1, w2, Lq_t lo w3, by omega⟩
    have n1 : nI i + (1 : Int32) = nI (i + 1) := n_add i 1
    have n2 : nI c + (1 : Int32) = nI (c + 1) := n_add c 1
    -- the reference: its
    have ref : f_LinkAuditModel_allGaps_L38 (nI x) qe (f' + 1) (nI c) (nI i) R = f_LinkAuditModel_allGaps_b89 R (nI c) (nI x) (nI i) (if Ps b x (b 9 i) then 1 else 0) (f_LinkAuditModel_allGaps_L38 (nI x) qe f') qe := by
      rw [f_LinkAuditModel_allGaps_L38, hr.2.1, i_lt (by omega) (by omega), if_neg (by omega)]
      unfold f_LinkAuditModel_allGaps_b70 f_LinkAuditModel_allGaps_b84
      simp (disch := omega) only [gd_n, n_cl]
      rw [hr.2.2.2 9 (by omega) (by omega), r_sub hv hp h1 h2 (by omega), bd1_s, i_hb, r_face hv hp h1 h2 (by omega), bd1_s, i_hb, i_eq (show b 9 i < 1000000 by omega) (show x < 1000000 by omega), T1_pm hv h1 h2 g, T2_fm hv h1 h2 g, Nat.testBit_or]
      by_cases e : b 9 i = x
      · rw [e]
        have px : (2 ^ x).testBit x = true := (p2_b x x).mpr rfl
        rw [px, Bool.true_or, if_pos rfl, if_pos rfl]
        by_cases fq : (fm b 16 x).testBit x = true
        · exact absurd fq (fm_ir hv g)
        · rw [if_neg fq, if_neg (fun w : Ps b x x => w.elim (pm_ir hv g) fq)]
      · have : (2 ^ x).testBit (b 9 i) = false := by
          cases q : (2 ^ x).testBit (b 9 i)
          · rfl
          · exact absurd ((p2_b _ _).mp q).symm e
        rw [this, Bool.false_or, if_neg e]
        by_cases pq : (pm b 16 x).testBit (b 9 i) = true
        · rw [if_pos pq, if_pos (Or.inl pq)]
        · rw [if_neg pq]
          by_cases fq : (fm b 16 x).testBit (b 9 i) = true
          · rw [if_pos fq, if_pos (Or.inr fq)]
          · rw [if_neg fq, if_neg (fun w : Ps b x (b 9 i) => w.elim pq fq)]
    rw [ref, f_Selector_gapCount_L17, hc.1.2.1, i_lt (by omega) (by omega), if_neg (by omega)]
    unfold f_Selector_needsCode f_LinkAuditModel_allGaps_b89
    simp (disch := omega) only [gd_n, n_cl]
    rw [c_isL hv hk h1 h2, bd1_s, i_hb, if_pos z, c_isA hv hc h1 h2, bd1_s, if_pos z2, i0, f_hasBit _ (show i < 64 by omega), bd1_s, i_hb, (hc.2.2.2.2.1 i i1 hi'.2).1, c_isPs hv hk h1 h2 g (by omega), bd1_s, i_hb, i_hb, hr.2.2.2 10 (by omega) (by omega), i_eq0 (show b 10 i < 1000000 by omega), r_hid hv hr hi', bd1_s, i_hb, n1]
    have vb := hc.2.2.2.2.2.1.2.1 i (by omega)
    by_cases v : tb (M.2 3 4) i = true
    · have hvi := (vb.mp v).2.2
      rw [if_pos v]
      by_cases p : Ps b x (b 9 i)
      · rw [if_pos p, if_pos p, if_neg (show ¬ b 10 i = 0 by have := hvi.1; omega), if_neg ((hd_v hvi.1).mpr hvi), bd1_s, if_neg (show ¬ (1 : Int32) = 0 by decide)]
        obtain ⟨w, N, s1, s2, s3⟩ := b_sel h0 h1 h2 g hi' hvi.1 hvi.2.2
        rw [s1, bd1_s, s2, bd2_s, n2]
        by_cases w0 : 0 ≤ w
        · rw [if_pos w0, if_pos w0]
          exact goon c N s3 (by omega)
        · rw [if_neg w0, if_neg w0]
          exact goon (c + 1) N s3 (by omega)
      · rw [if_neg p, if_neg p, bd1_s, i0]
        exact goon c R (Lq_r R) (by omega)
    · rw [if_neg v, bd1_s, i0]
      by_cases p : Ps b x (b 9 i)
      · rw [if_pos p]
        by_cases k0 : b 10 i = 0
        · rw [if_pos k0]
          exact goon c R (Lq_r R) (by omega)
        · rw [if_neg k0]
          by_cases hh : hd b i
          · rw [if_pos hh]
            exact goon c R (Lq_r R) (by omega)
          · exact absurd (vb.mpr ⟨i1, hi'.2, (hd_v (by omega)).mp hh⟩) v
      · rw [if_neg p]
        exact goon c R (Lq_r R) (by omega)
theorem b_gapL {b : Sp} {M : Mem} {σ τ : Type} (ke : Int32 → Option σ) (qe : Int32 → Mem → Option τ) : ∀ r f f' x c R, r < f → r < f' → x + r = nC b + 1 → 1 ≤ x → Bo b M R → ∃ c' N, f_Selector_gapCount_L4 M ke f (nI c) (nI x) = ke (nI c') ∧ f_LinkAuditModel_allGaps_L4 qe f' (nI c) (nI x) R = qe (nI c') N ∧ Lq R N ∧ c' ≤ c + 40 * r := by
  obtain ⟨fu, hfu⟩ := FU_s (r := 40) (by omega)
  intro r
  induction r with
  | zero =>
    intro f f' x c R hf hf' hi i1 h
    have h16 := h.1.1.1
    obtain ⟨f, rfl⟩ : ∃ g, f = g + 1 := ⟨f - 1, by omega⟩
    obtain ⟨f', rfl⟩ : ∃ g, f' = g + 1 := ⟨f' - 1, by omega⟩
    refine ⟨c, R, ?_, ?_, Lq_r R, by omega⟩
    · rw [f_Selector_gapCount_L4, h.2.1.1.1, i_lt (by omega) (by omega), if_pos (by omega)]
    · rw [f_LinkAuditModel_allGaps_L4, h.2.2.2.1.1, i_lt (by omega) (by omega), if_pos (by omega)]
  | succ r ih =>
    intro f f' x c R hf hf' hi i1 h
    obtain ⟨f, rfl⟩ : ∃ g, f = g + 1 := ⟨f - 1, by omega⟩
    obtain ⟨f', rfl⟩ : ∃ g, f' = g + 1 := ⟨f' - 1, by omega⟩
    have h0 := h
    obtain ⟨hv, hc, hk, hr, hp⟩ := h
    have h40 := hv.1.2.1
    have h16 := hv.1.1
    have hx := hv.2.2.1 x i1 (by omega)
    rw [f_Selector_gapCount_L4, hc.1.1, i_lt (by omega) (by omega), if_neg (by omega), f_LinkAuditModel_allGaps_L4, hr.1, i_lt (by omega) (by omega), if_neg (by omega)]
    simp (disch := omega) only [gd_n, n_cl]
    rw [(hp.1 x i1 (by omega)).1, hr.2.2.2 6 (by omega) (by omega), l12, i_and (by omega), show nI x + (1 : Int32) = nI (x + 1) from n_add x 1, show (1 : Int32) = nI 1 from rfl]
    have skip : (cde b x ≠ 0 ∨ b 6 x &&& 12 ≠ 0) → ∃ c' N, f_Selector_gapCount_L17 M (nI x) (fun y1 => f_Selector_gapCount_L4 M ke f y1 (nI (x + 1))) FU (nI c) (nI 1) = ke (nI c') ∧ f_LinkAuditModel_allGaps_L4 qe f' (nI c) (nI (x + 1)) R = qe (nI c') N ∧ Lq R N ∧ c' ≤ c + 40 * (r + 1) := fun no => by
      rw [c_gap0 hv hc hk _ i1 (by omega) no (nI c) (nM b) FU 1 (by omega) (by omega) (Nat.le_refl 1)]
      obtain ⟨c', N, w1, w2, w3, w4⟩ := ih f f' (x + 1) c R (by omega) (by omega) (by omega) (by omega) h0
      exact ⟨c', N, w1, w2, w3, by omega⟩
    by_cases e : cde b x = 0
    · rw [if_pos e]
      by_cases e2 : b 6 x &&& 12 = 0
      · rw [if_pos e2]
        obtain ⟨c1, N1, w1, w2, w3, w4⟩ := b_gap1 (b := b) (M := M) (fun y1 => f_Selector_gapCount_L4 M ke f y1 (nI (x + 1))) (fun y1 M6 => f_LinkAuditModel_allGaps_L4 qe f' y1 (nI (x + 1)) M6) i1 (show x ≤ nC b by omega) e e2 (nM b) FU FU 1 c R (by omega) (by omega) (by omega) (Nat.le_refl 1) h0
        rw [w1, w2]
        obtain ⟨c', N, v1, v2, v3, v4⟩ := ih f f' (x + 1) c1 N1 (by omega) (by omega) (by omega) (by omega) (Bo_q h0 w3)
        exact ⟨c', N, v1, v2, Lq_t w3 v3, by omega⟩
      · rw [if_neg e2]
        exact skip (Or.inr e2)
    · rw [if_neg e]
      exact skip (Or.inl e)
theorem b_gaps {b : Sp} {M R : Mem} (h : Bo b M R) : ∃ c N, f_Selector_gapCount M = some (nI c) ∧ f_LinkAuditModel_allGaps R = some (nI c, N) ∧ Lq R N ∧ c ≤ 640 := by
  have h16 := h.1.1.1
  obtain ⟨fu, hfu⟩ := FU_s (r := 40) (by omega)
  obtain ⟨c, N, w1, w2, w3, w4⟩ := b_gapL (b := b) (M := M) (fun y1 => some (y1)) (fun y1 M7 => some (y1, M7)) (nC b) FU FU 1 0 R (by omega) (by omega) (by omega) (Nat.le_refl 1) h
  exact ⟨c, N, w1, w2, w3, by omega⟩
