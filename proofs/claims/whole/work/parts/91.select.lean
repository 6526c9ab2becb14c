/-! PURE: selecting, both sides -/
/-- the walk along the chain: both find the same one, or none -/
theorem b_cand_L {b : Sp} {M : Mem} (hv : BV b) (hc : CB b M) (hk : LK b M) {r m : Nat} (r1 : 1 ≤ r) (r2 : r ≤ nC b) (g : good b r) (hm : mr b m) (vm' : virt b m) {l : Int64} (hl : Bs l (fun o => mr b o ∧ likeM b o m ∧ virt b o)) {σ τ : Type} (x1 : Int32) (kc : Int32 → Option σ) (kn : Option σ) (qc : Int32 → Mem → Option τ) (qn : Mem → Option τ) : ∀ (suf pre : List Nat) (x f f' : Nat) (R : Mem), suf.length < f → suf.length < f' → ch b 16 r = pre ++ suf → ((suf = [] ∧ x = 0) ∨ (suf = ch b 16 x ∧ good b x ∧ 1 ≤ x ∧ x ≤ nC b)) → RB b R → RP b R → ∃ N, Lq R N ∧ ((∃ k, mr b k ∧ f_Selector_candidate_L9 M (nI r) (nI m) l kc kn f (nI pre.length) = kc (nI k) ∧ f_LinkAuditModel_selected_L16 x1 (nI m) qc qn f' (nI x) R = qc (nI k) N) ∨ (f_Selector_candidate_L9 M (nI r) (nI m) l kc kn f (nI pre.length) = kn ∧ f_LinkAuditModel_selected_L16 x1 (nI m) qc qn f' (nI x) R = qn N)) := by
  have h16 := hv.1.1
  have hlen := ch_le b 16 r
  obtain ⟨m40, m1, m2, m3, m4, m5, m6, m7⟩ := m_lt hv hm
  obtain ⟨t1, t2, t3, t4, t5⟩ := hk.1 r r1 r2 g
  intro suf
  induction suf with
  | nil =>
    intro pre x f f' R hf hf' he hx hr hp
    obtain ⟨f, rfl⟩ : ∃ g, f = g + 1 := ⟨f - 1, by omega⟩
    obtain ⟨f', rfl⟩ : ∃ g, f' = g + 1 := ⟨f' - 1, by omega⟩
    rw [List.append_nil] at he
    rw [he] at hlen
    have x0 : x = 0 := by
      rcases hx with q | ⟨q1, q2, -⟩
      · exact q.2
      · rw [(tab_16 q2).1] at q1; cases q1
    refine ⟨R, Lq_r R, Or.inr ⟨?_, ?_⟩⟩
    · rw [f_Selector_candidate_L9, gd_n (by omega) (by omega), n_cl (by omega), t2, he, i_le (by omega) (by omega), if_pos (Nat.le_refl _)]
    · rw [x0, f_LinkAuditModel_selected_L16, if_pos (by decide)]
  | cons y suf ih =>
    intro pre x f f' R hf hf' he hx hr hp
    rw [List.length_cons] at hf hf'
    obtain ⟨f, rfl⟩ : ∃ g, f = g + 1 := ⟨f - 1, by omega⟩
    obtain ⟨f', rfl⟩ : ∃ g, f' = g + 1 := ⟨f' - 1, by omega⟩
    obtain ⟨hx1, gx, x1', x2'⟩ : y :: suf = ch b 16 x ∧ good b x ∧ 1 ≤ x ∧ x ≤ nC b := by
      rcases hx with q | q
      · exact absurd q.1 (by simp)
      · exact q
    have exy : y = x := by
      rw [(tab_16 gx).1] at hx1
      exact (List.cons.inj hx1).1
    subst exy
    have hl' : (ch b 16 r).length = pre.length + (suf.length + 1) := by rw [he, List.length_append, List.length_cons]
    have ey : (ch b 16 r).getD pre.length 0 = y := by rw [he]; simp
    have he' : ch b 16 r = (pre ++ [y]) ++ suf := by rw [he, List.append_assoc]; rfl
    have hlp : (pre ++ [y]).length = pre.length + 1 := by simp
    have on := On_vm hv hc (y := y) vm'.1 (by omega) hl
    have vle := vm_le hv m y
    have hlk := lk_le hv y 1 (b 11 m) (b 12 m) (b 13 m)
    obtain ⟨ea, e2⟩ := ch_ab hv x1' x2' gx
    have hx' : (suf = [] ∧ ab b y = 0) ∨ (suf = ch b 16 (ab b y) ∧ good b (ab b y) ∧ 1 ≤ ab b y ∧ ab b y ≤ nC b) := by
      rcases e2 with ⟨a0, a1⟩ | ⟨a0, a1, a2⟩
      · rw [a1] at hx1
        exact Or.inl ⟨(List.cons.inj hx1).2, a0⟩
      · rw [a1] at hx1
        exact Or.inr ⟨(List.cons.inj hx1).2, a2⟩
    have next : ∀ R', Lq R R' → ∃ N, Lq R N ∧ ((∃ k, mr b k ∧ f_Selector_candidate_L9 M (nI r) (nI m) l kc kn f (nI (pre ++ [y]).length) = kc (nI k) ∧ f_LinkAuditModel_selected_b70 R' x1 (nI m) (nI y) (f_LinkAuditModel_selected_L16 x1 (nI m) qc qn f') qc qn = qc (nI k) N) ∨ (f_Selector_candidate_L9 M (nI r) (nI m) l kc kn f (nI (pre ++ [y]).length) = kn ∧ f_LinkAuditModel_selected_b70 R' x1 (nI m) (nI y) (f_LinkAuditModel_selected_L16 x1 (nI m) qc qn f') qc qn = qn N)) := fun R' lo => by
      have hp' := RP_Lo hp lo
      obtain ⟨N, n1, n2⟩ := ih (pre ++ [y]) (ab b y) f f' R' (by omega) (by omega) he' hx' (RB_Lo hr (Lq_16 lo)) hp'
      unfold f_LinkAuditModel_selected_b70
      rw [gd_n (by omega) (by omega), n_cl (by omega), (hp'.1 y x1' x2').2.1, ea]
      exact ⟨N, Lq_t lo n1, n2⟩
    rw [f_Selector_candidate_L9, gd_n (by omega) (by omega), n_cl (by omega), t2, i_le (by omega) (by omega), if_neg (by omega), gd_n (by omega) (by omega), gd_n (by omega) (by omega), n_cl (by omega), t3 _ (by omega), ey, gd_n (by omega) (by omega), n_cl (by omega), On_if on, show nI pre.length + (1 : Int32) = nI (pre.length + 1) from n_add _ 1, ← hlp]
    rw [f_LinkAuditModel_selected_L16, i_le0 (by omega), if_neg (show ¬ y = 0 by omega)]
    simp (disch := omega) only [gd_n, n_cl]
    rw [hr.2.2.2 11 (by omega) (by omega), hr.2.2.2 12 (by omega) (by omega), hr.2.2.2 13 (by omega) (by omega), show (1 : Int32) = nI 1 from rfl, r_om hv hr (by omega) (by omega) (by omega) (by omega) (by omega), bd1_s, i_le0 (by omega), i_eq (show lk b y 1 (b 11 m) (b 12 m) (b 13 m) < 1000000 by omega) (show m < 1000000 by omega)]
    by_cases z : lk b y 1 (b 11 m) (b 12 m) (b 13 m) = 0
    · have v0 : vm b m y = 0 := by
        unfold vm
        rw [z]
        split <;> rfl
      rw [if_pos v0, if_pos z]
      exact next R (Lq_r R)
    · have kat := lk_at z
      have kmr : mr b (lk b y 1 (b 11 m) (b 12 m) (b 13 m)) := ⟨kat.1, kat.2.1⟩
      have gk' : good b (b 9 (lk b y 1 (b 11 m) (b 12 m) (b 13 m))) := by rw [kat.2.2.1]; exact gx
      rw [if_neg z]
      by_cases v : vt b (lk b y 1 (b 11 m) (b 12 m) (b 13 m))
      · have v0 : vm b m y = lk b y 1 (b 11 m) (b 12 m) (b 13 m) := if_pos v
        have onl := On_low on (by rw [v0]; exact z)
        rw [if_neg (show ¬ vm b m y = 0 by rw [v0]; exact z), onl, bd1_s, v0]
        generalize lk b y 1 (b 11 m) (b 12 m) (b 13 m) = k at *
        rw [i_eq (show k < 1000000 by omega) (show m < 1000000 by omega)]
        by_cases e : k = m
        · rw [if_pos e, if_pos e]
          exact ⟨R, Lq_r R, Or.inl ⟨k, kmr, rfl, rfl⟩⟩
        · rw [if_neg e, if_neg e]
          obtain ⟨N, lo, q⟩ := r_cov hv hr hp kmr hm gk'
          rcases c_isCov hv hc hk kmr hm gk' with ⟨p1, p2⟩ | ⟨p1, p2⟩
          · rw [p1, bd1_s, i1]
            rcases q with ⟨q1, q2⟩ | ⟨q1, q2⟩
            · rw [q1, bd2_s, i1]
              exact ⟨N, lo, Or.inl ⟨k, kmr, rfl, rfl⟩⟩
            · exact absurd p2.2 q2
          · rw [p1, bd1_s, i0]
            rcases q with ⟨q1, q2⟩ | ⟨q1, q2⟩
            · exact absurd ⟨e, q2⟩ p2
            · rw [q1, bd2_s, i0]
              exact next N lo
      · have v0 : vm b m y = 0 := if_neg v
        rw [if_pos v0]
        have e : ¬ lk b y 1 (b 11 m) (b 12 m) (b 13 m) = m := fun q => v (by rw [q]; exact vm')
        rw [if_neg e]
        obtain ⟨N, lo, q⟩ := r_cov hv hr hp kmr hm gk'
        rcases q with ⟨q1, q2⟩ | ⟨q1, q2⟩
        · exact absurd q2.2.1 v
        · rw [q1, bd2_s, i0]
          exact next N lo
theorem c_abs {b : Sp} {M : Mem} (hv : BV b) (hc : CB b M) {k : Nat} (h : mr b k) : f_LinkAudit_hasBit (M.2 3 5) (nI k) = some (if b 14 k &&& 8 = 0 then 0 else 1) := by
  obtain ⟨m40, -⟩ := m_lt hv h
  rw [f_hasBit _ (by omega)]
  have q := hc.2.2.2.2.2.1.2.2 k (by omega)
  by_cases e : b 14 k &&& 8 = 0
  · rw [if_pos e, if_neg (fun w => (q.mp w).2.2 e)]
  · rw [if_neg e, if_pos (q.mpr ⟨h.1, h.2, e⟩)]
/-- what both sides select -/
theorem b_sel {b : Sp} {M R : Mem} (h : Bo b M R) {r m : Nat} (r1 : 1 ≤ r) (r2 : r ≤ nC b) (g : good b r) (hm : mr b m) (m1 : b 10 m = 1) (ms' : b 14 m &&& 4 = 0) : ∃ (v : Int32) (N : Mem), f_Selector_selected M (nI r) (nI m) = some v ∧ f_LinkAuditModel_select2 R (nI r) (nI m) = some (v, N) ∧ Lq R N := by
  obtain ⟨hv, hc, hk, hr, hp⟩ := h
  have h16 := hv.1.1
  obtain ⟨m40, q1, q2, q3, q4, q5, q6, q7⟩ := m_lt hv hm
  have a3 := a3_lt (b 14 m)
  unfold f_Selector_selected f_LinkAuditModel_select2 f_LinkAuditModel_selected
  rw [c_acc hv hc hm, bd1_s, gd_n (show m < 41 by omega) (by omega), n_cl (show m < 1000000 by omega), hr.2.2.2 14 (by omega) (by omega), l3, n_and, i_eq (by omega) (by omega), i_eq (by omega) (by omega)]
  by_cases e : b 14 m &&& 3 = 3
  · rw [if_pos e, if_pos e, bd2_s, i_lt0 (by omega), gd_n (by omega) (by omega), hr.2.2.2 14 (by omega) (by omega), n_and, i_eq (by omega) (by omega), if_pos e]
    exact ⟨_, R, rfl, rfl, Lq_r R⟩
  · rw [if_neg e, if_neg e]
    have vm' : virt b m := ⟨m1, e, ms'⟩
    obtain ⟨l, l1', l2'⟩ := c_like hv hc hm
    have hlen := ch_le b 16 r
    obtain ⟨fu, hfu⟩ := FU_s (r := 40) (by omega)
    -- the end, once a candidate k is there
    have fin : ∀ k N, mr b k → Lq R N → ∃ (v : Int32) (N' : Mem), (if 0 ≤ nI k then bd1 (f_LinkAudit_hasBit (M.2 3 5) (nI k)) (fun r3 => if r3 = 0 then gd (ok (nI m) 41) (bd1 (f_Classes_isInterface M (M.1 29 m)) (fun r4 => if r4 = 0 then some (nI k) else bd1 (f_Members_access M (nI k)) (fun r5 => if r5 = 0 then some (nI k) else some ((-6 : Int32))))) else some ((-9 : Int32))) else some (nI k)) = some v ∧ (if nI k < 0 then some (nI k, N) else gd (ok (nI m) 41) (if ((N.1 14 m) &&& nI 3) = nI 3 then some (nI k, N) else gd (ok (nI k) 41) (if ((N.1 14 (nI k).toNatClampNeg) &&& (8 : Int32)) = 0 then gd (ok (nI m) 41) (bd1 (f_LinkAuditModel_isInterface N (N.1 9 m)) (fun r3 => if r3 = 0 then some (nI k, N) else gd (ok (nI k) 41) (if ((N.1 14 (nI k).toNatClampNeg) &&& nI 3) = 0 then some (nI k, N) else some ((-6 : Int32), N)))) else some ((-9 : Int32), N)))) = some (v, N') ∧ Lq R N' := by
      intro k N hk' lo
      have hrN := RB_Lo hr (Lq_16 lo)
      obtain ⟨k40, k1, k2, k3, k4, k5, k6, k7⟩ := m_lt hv hk'
      have ak := a3_lt (b 14 k)
      rw [i_ge0 (by omega), i_lt0 (by omega)]
      simp (disch := omega) only [gd_n, n_cl]
      rw [hrN.2.2.2 14 (by omega) (by omega), hrN.2.2.2 14 (by omega) (by omega), hrN.2.2.2 9 (by omega) (by omega), n_and, i_eq (by omega) (by omega), if_neg e, l8, i_and (by omega), i_and (by omega), c_abs hv hc hk', bd1_s, (hc.2.2.2.2.1 m hm.1 hm.2).1, c_isI hv hc q1 q2, bd1_s, r_isI hv hrN q1 q2, bd1_s, c_acc hv hc hk', bd1_s, i_eq0 (by omega)]
      by_cases e8 : b 14 k &&& 8 = 0
      · rw [if_pos e8, i0, if_pos e8]
        by_cases ei : b 6 (b 9 m) &&& 8 = 0
        · rw [if_pos ei, i0, i0]
          exact ⟨_, N, rfl, rfl, lo⟩
        · rw [if_neg ei, i1, i1]
          by_cases ea : b 14 k &&& 3 = 0
          · rw [if_pos ea, if_pos ea]
            exact ⟨_, N, rfl, rfl, lo⟩
          · rw [if_neg ea, if_neg ea]
            exact ⟨_, N, rfl, rfl, lo⟩
      · rw [if_neg e8, i1, if_neg e8]
        exact ⟨_, N, rfl, rfl, lo⟩
    unfold f_Selector_candidate
    rw [l1', bd1_s]
    obtain ⟨N, lo, q⟩ := b_cand_L hv hc hk r1 r2 g hm vm' l2' (nI r) (fun y8 => some (y8)) (bd1 (f_Inheritance_offered M (nI r) l) (fun r4 => bd1 (f_Inheritance_mostSpecificWithCode M r4) (fun r5 => if (lg_cmp r5 (0 : Int64)) = 0 then some ((-9 : Int32)) else bd1 (f_Long_bitCount r5) (fun r6 => if r6 = (1 : Int32) then bd1 (f_LinkAudit_lowestBit r5) (fun r7 => some (r7)) else some ((-5 : Int32)))))) (fun y4 M4 => some (y4, M4)) (fun M5 => gd (ok (nI m) 41) (gd (ok (nI m) 41) (gd (ok (nI m) 41) (bd1 (f_LinkAuditModel_specificBody M5 (nI r) (M5.1 11 m) (M5.1 12 m) (M5.1 13 m)) (fun r6 => if r6 ≤ 0 then if 0 ≤ r6 then some ((-9 : Int32), M5) else some ((-5 : Int32), M5) else some (r6, M5)))))) (ch b 16 r) [] r FU FU R (by omega) (by omega) rfl (Or.inr ⟨rfl, g, r1, r2⟩) hr hp
    rw [show nI ([] : List Nat).length = (0 : Int32) from rfl] at q
    rcases q with ⟨k, k1, k2, k3⟩ | ⟨k2, k3⟩
    · rw [k2, k3, bd1_s, bd2_s]
      exact fin k N k1 lo
    · have hrN := RB_Lo hr (Lq_16 lo)
      have hpN := RP_Lo hp lo
      rw [k2, k3]
      simp (disch := omega) only [gd_n]
      rw [hrN.2.2.2 11 (by omega) (by omega), hrN.2.2.2 12 (by omega) (by omega), hrN.2.2.2 13 (by omega) (by omega)]
      obtain ⟨y, w, o1, o2, o3, o4⟩ := c_best hv hc hk r1 r2 g l2' (n := b 11 m) (a := b 12 m) (s := b 13 m) (fun m' w1 w2 => ⟨fun q => q.2.1.2, fun q => ⟨w1, ⟨by rw [w2.1, m1], q⟩, w2⟩⟩)
      obtain ⟨v, v1, v2⟩ := r_sb hv hrN hpN r1 r2 (show b 11 m < 1000 by omega) (show b 12 m < 1000 by omega) (show b 13 m < 1000 by omega)
      rw [o1, bd1_s, o2, bd1_s, v1, bd1_s]
      rcases v2 with ⟨s1, s2⟩ | ⟨k, s1, s2, s3, s4⟩ | ⟨s1, i, j, s2, s3, s4⟩
      · rw [s1, (Bs_z o4).mpr (fun m' _ => s2 m'), if_pos (by rw [cmp0]), if_pos (by decide), if_pos (by decide), bd1_s, bd2_s, if_neg (by decide), if_pos (by decide)]
        exact ⟨_, N, rfl, rfl, lo⟩
      · obtain ⟨c1, c2⟩ := Bs_one o4 s3 s4
        have nz : ¬ lg_cmp w 0 = 0 := by
          rw [cmp0]
          exact fun q => (Bs_z o4).mp q k (by omega) ((s4 k).mpr rfl)
        rw [if_neg nz, c1, bd1_s, if_pos (show nI 1 = (1 : Int32) from rfl), c2, bd1_s, bd1_s, s1, i_le0 (by omega), if_neg (show ¬ k = 0 by omega), bd2_s]
        have q := fin k N ((s4 k).mpr rfl).1 lo
        simp (disch := omega) only [gd_n] at q ⊢
        exact q
      · obtain ⟨c, c1, c2, c3⟩ := Bs_two o4 (fun m w => by have := w.1.2; have := hv.1.2.1; omega) s2 s3 s4
        have nz : ¬ lg_cmp w 0 = 0 := by
          rw [cmp0]
          have := s3.1.2
          have := hv.1.2.1
          exact fun q => (Bs_z o4).mp q i (by omega) s3
        rw [if_neg nz, c3, bd1_s, if_neg (by rw [l1, n_eq (by omega) (by omega)]; omega), s1, if_pos (by decide), if_neg (by decide), bd1_s, bd2_s, if_neg (by decide), if_pos (by decide)]
        exact ⟨_, N, rfl, rfl, lo⟩
