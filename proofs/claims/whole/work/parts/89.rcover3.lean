/-! PURE: covering and overriding, both sides -/
/-- a yes or no, with what is left -/
def Yn (x : Option (Int32 × Mem)) (R : Mem) (P : Prop) : Prop := ∃ N, Lq R N ∧ ((x = some (1, N) ∧ P) ∨ (x = some (0, N) ∧ ¬ P))
theorem vm_self {b : Sp} (hv : BV b) {m : Nat} (hm : mr b m) (v : virt b m) : vm b m (b 9 m) = m := vm_un hv v.1 hm rfl ⟨rfl, rfl, rfl, rfl⟩ v
theorem r_cov {b : Sp} {R : Mem} (hv : BV b) (hr : RB b R) (hp : RP b R) {m o : Nat} (hm : mr b m) (ho : mr b o) (g : good b (b 9 m)) : Yn (f_LinkAuditModel_covers R (nI m) (nI o)) R (Co b m o) := by
  have h16 := hv.1.1
  obtain ⟨m40, m1, m2, -⟩ := m_lt hv hm
  obtain ⟨o40, o1, o2, -⟩ := m_lt hv ho
  unfold f_LinkAuditModel_covers
  simp (disch := omega) only [gd_n, n_cl]
  rw [r_once hv hr hm ho, bd1_s, i_hb, r_like hv hr hm ho, bd1_s, i_hb, r_hid hv hr hm, bd1_s, i_hb, r_hid hv hr ho, bd1_s, i_hb, hr.2.2.2 9 (by omega) (by omega), hr.2.2.2 9 (by omega) (by omega), i_eq (by omega) (by omega), r_sub hv hp m1 m2 (by omega), bd1_s, i_hb]
  have no : ¬ Co b m o → Yn (some ((0 : Int32), R)) R (Co b m o) := fun q => ⟨R, Lq_r R, Or.inr ⟨rfl, q⟩⟩
  by_cases e0 : On1 b m o
  · rw [if_pos e0]
    obtain ⟨q1, q2, q3, q4⟩ := (On1_c hv hm ho).mp e0
    exact ⟨R, Lq_r R, Or.inl ⟨rfl, q1, q2, q3, Or.inl q4⟩⟩
  · rw [if_neg e0]
    have nonce : ∀ q : Co b m o, Cv b m o := fun q => q.2.2.2.elim (fun w => absurd ((On1_c hv hm ho).mpr ⟨q.1, q.2.1, q.2.2.1, w⟩) e0) id
    by_cases e1 : lkm b m o
    · rw [if_pos e1]
      obtain ⟨w1, w2, w3⟩ := (lkm_l hv hm ho).mp e1
      by_cases e2 : hd b m
      · rw [if_pos e2]
        exact no (fun q => (hd_v w2).mpr q.2.1 e2)
      · rw [if_neg e2]
        have vm' := (hd_v w2).mp e2
        by_cases e3 : hd b o
        · rw [if_pos e3]
          exact no (fun q => (hd_v w3).mpr q.2.2.1 e3)
        · rw [if_neg e3]
          have vo := (hd_v w3).mp e3
          by_cases e4 : b 9 m = b 9 o
          · rw [if_pos e4]
            refine no (fun q => ?_)
            have := (Cv_a hv g (nonce q)).2.2.2.2.2
            rw [← e4] at this
            exact pm_ir hv g this
          · rw [if_neg e4]
            have tp : (T1 b (b 9 m)).testBit (b 9 o) = true ↔ (pm b 16 (b 9 m)).testBit (b 9 o) = true := by
              rw [T1_pm hv m1 m2 g, Nat.testBit_or, Bool.or_eq_true, p2_b]
              exact ⟨fun q => q.elim (fun w => absurd w e4) id, Or.inr⟩
            by_cases e5 : (T1 b (b 9 m)).testBit (b 9 o) = true
            · rw [if_pos e5]
              have po := tp.mp e5
              have hin : b 9 o ∈ ch b 16 (b 9 m) := (ch_mem hv g).mpr (Or.inr po)
              have hlen := ch_le b 16 (b 9 m)
              obtain ⟨fu, hfu⟩ := FU_s (r := 40) (by omega)
              obtain ⟨N, n1, n2, n3⟩ := r_walk hv hm ho w2 (fun y3 M9 => f_LinkAuditModel_covers_b165 M9 y3) (fun y3 M13 => f_LinkAuditModel_covers_b165 M13 y3) (ch b 16 (b 9 m)) (b 9 m) [] R FU rfl g m1 m2 hin (by omega) (by simp; omega) hr hp (fun t ht => by simp at ht)
              rw [show (0 : Int32) = nI ([] : List Nat).length from rfl, n1]
              rw [List.nil_append] at n2 ⊢
              have pw := ch_pw hv 16 _ g g
              have gch : ∀ y ∈ ch b 16 (b 9 m), good b y := fun y hy => (ch_in hv g m1 m2 hy).1
              generalize hLd : vs b m (pr (b 9 o) (ch b 16 (b 9 m))) = L at *
              have hL : L.length ≤ 16 := by
                rw [← hLd]
                have := vs_len (b := b) (m := m) (pr (b 9 o) (ch b 16 (b 9 m)))
                have := pr_len (e := b 9 o) (ch b 16 (b 9 m))
                omega
              have inL : ∀ z, z ∈ L → mr b z ∧ likeM b z m ∧ virt b z ∧ b 9 z ∈ pr (b 9 o) (ch b 16 (b 9 m)) := fun z hz => by
                rw [← hLd] at hz
                obtain ⟨y, y1, y2, y3⟩ := (vs_m _).mp hz
                have q := vm_at (x := y) w2 (by rw [y2]; exact y3)
                rw [y2] at q
                exact ⟨q.1, q.2.2.1, q.2.2.2, by rw [q.2.1]; exact y1⟩
              have Lin : ∀ z, mr b z → likeM b z m → virt b z → b 9 z ∈ ch b 16 (b 9 m) → (b 9 z = b 9 o ∨ (pm b 16 (b 9 z)).testBit (b 9 o) = true) → z ∈ L := fun z z1 z2 z3 z4 z5 => by
                rw [← hLd]
                exact (vs_m _).mpr ⟨b 9 z, pr_in hv _ pw gch hin z4 z5, vm_un hv w2 z1 rfl z2 z3, by have := z1.1; omega⟩
              have pwL : L.Pairwise (fun a c => (pm b 16 (b 9 a)).testBit (b 9 c) = true) := by
                rw [← hLd]
                exact vs_pw w2 _ (pr_pw _ pw)
              have ord : ∀ i j, i < j → j < L.length → (pm b 16 (b 9 (L.getD i 0))).testBit (b 9 (L.getD j 0)) = true := fun i j h1 h2 => by
                have := List.pairwise_iff_getElem.mp pwL i j (by omega) h2 h1
                simp only [List.getD_eq_getElem?_getD]
                rw [List.getElem?_eq_getElem (show i < L.length by omega), List.getElem?_eq_getElem h2]
                exact this
              have at' : ∀ i, i < L.length → L.getD i 0 ∈ L := fun i hi => by
                rw [List.getD_eq_getElem?_getD, List.getElem?_eq_getElem hi]
                exact List.getElem_mem _
              have gL : ∀ z ∈ L, good b (b 9 z) := fun z hz => gch _ (pr_sub _ (inL z hz).2.2.2)
              have idx : ∀ z ∈ L, ∃ t, t < L.length ∧ L.getD t 0 = z := fun z hz => by
                obtain ⟨t, t1, t2⟩ := List.mem_iff_getElem.mp hz
                refine ⟨t, t1, ?_⟩
                rw [List.getD_eq_getElem?_getD, List.getElem?_eq_getElem t1]
                exact t2
              have lt_of : ∀ i j, i < L.length → j < L.length → (pm b 16 (b 9 (L.getD i 0))).testBit (b 9 (L.getD j 0)) = true → i < j := fun i j h1 h2 h3 => by
                have gi := gL _ (at' i h1)
                rcases Nat.lt_trichotomy i j with q | q | q
                · exact q
                · rw [q] at h3; rw [q] at gi; exact absurd h3 (pm_ir hv gi)
                · exact absurd (pm_t hv gi h3 (ord j i q h1)) (pm_ir hv gi)
              have hO : ∀ i j, i < j → j < L.length → (On1 b (L.getD i 0) (L.getD j 0) → Rc b (L.getD i 0) (L.getD j 0)) := fun i j h1 h2 q => by
                have a1 := inL _ (at' i (by omega))
                have a2 := inL _ (at' j h2)
                obtain ⟨q1, q2, q3, q4⟩ := (On1_c hv a1.1 a2.1).mp q
                exact ⟨a1.1, a2.1, q1, q2, q3, ord i j h1 h2, q4⟩
              have hB : ∀ i j z, i < j → j < L.length → Rc b (L.getD i 0) z → Cv b z (L.getD j 0) → ∃ k, i < k ∧ k < j ∧ L.getD k 0 = z := fun i j z h1 h2 r1 r2 => by
                have ai := inL _ (at' i (by omega))
                have aj := inL _ (at' j h2)
                have gi := gL _ (at' i (by omega))
                have gz := (pm_in hv gi r1.2.2.2.2.2.1).1
                have c := Cv_a hv gz r2
                have zc : b 9 z ∈ ch b 16 (b 9 m) := by
                  refine (ch_mem hv g).mpr (Or.inr ?_)
                  rcases (ch_mem hv g).mp (pr_sub _ ai.2.2.2) with q | q
                  · rw [← q]; exact r1.2.2.2.2.2.1
                  · exact pm_t hv g q r1.2.2.2.2.2.1
                have zo : (pm b 16 (b 9 z)).testBit (b 9 o) = true := by
                  -- owner of L j is o's or below it
                  have last : b 9 (L.getD j 0) = b 9 o ∨ (pm b 16 (b 9 (L.getD j 0))).testBit (b 9 o) = true := by
                    obtain ⟨r, hr'⟩ := pr_last (ch b 16 (b 9 m)) hin
                    have hj := aj.2.2.2
                    have pp := pr_pw (e := b 9 o) _ pw
                    rw [hr'] at hj pp
                    rcases List.mem_append.mp hj with q | q
                    · exact Or.inr ((List.pairwise_append.mp pp).2.2 _ q _ (List.mem_singleton.mpr rfl))
                    · exact Or.inl (List.mem_singleton.mp q)
                  rcases last with q | q
                  · rw [← q]; exact c.2.2.2.2.2
                  · exact pm_t hv gz c.2.2.2.2.2 q
                obtain ⟨k, k1, k2⟩ := idx z (Lin z r1.2.1 (like_t (like_s r1.2.2.1) ai.2.1) r1.2.2.2.2.1 zc (Or.inr zo))
                refine ⟨k, lt_of i k (by omega) k1 (by rw [k2]; exact r1.2.2.2.2.2.1), lt_of k j k1 h2 (by rw [k2]; exact c.2.2.2.2.2), k2⟩
              have mL : m ∈ L := Lin m hm ⟨rfl, rfl, rfl, rfl⟩ vm' ((ch_mem hv g).mpr (Or.inl rfl)) (Or.inr po)
              have oL : o ∈ L := Lin o ho (like_s w1) vo hin (Or.inl rfl)
              obtain ⟨im, im1, im2⟩ := idx m mL
              obtain ⟨io, io1, io2⟩ := idx o oL
              have imo : im < io := lt_of im io im1 io1 (by rw [im2, io2]; exact po)
              have im0 : im = 0 := by
                refine Decidable.byContradiction (fun q => ?_)
                have q1 := ord 0 im (by omega) im1
                rw [im2] at q1
                have a0 := inL _ (at' 0 (by omega))
                have g0 := gL _ (at' 0 (by omega))
                rcases (ch_mem hv g).mp (pr_sub _ a0.2.2.2) with w | w
                · rw [w] at q1; exact pm_ir hv g q1
                · exact pm_ir hv g (pm_t hv g w q1)
              have iol : io = L.length - 1 := by
                refine Decidable.byContradiction (fun q => ?_)
                have q1 := ord io (L.length - 1) (by omega) (by omega)
                rw [io2] at q1
                have al := inL _ (at' (L.length - 1) (by omega))
                obtain ⟨r, hr'⟩ := pr_last (ch b 16 (b 9 m)) hin
                have hj := al.2.2.2
                have pp := pr_pw (e := b 9 o) _ pw
                have gO := gL o oL
                rw [hr'] at hj pp
                rcases List.mem_append.mp hj with w | w
                · exact pm_ir hv gO (pm_t hv gO q1 ((List.pairwise_append.mp pp).2.2 _ w _ (List.mem_singleton.mpr rfl)))
                · rw [List.mem_singleton.mp w] at q1; exact pm_ir hv gO q1
              unfold f_LinkAuditModel_covers_b165
              obtain ⟨O, p1, p2, p3⟩ := r_168 hv hL (fun z hz => (inL z hz).1) hO hB (fun M12 => gd (ok (nI L.length - (1 : Int32)) 400) (gd (decide ((M12.1 26 ((nI L.length - (1 : Int32))).toNatClampNeg) = 0 ∨ (M12.1 26 ((nI L.length - (1 : Int32))).toNatClampNeg) = 1)) (some ((M12.1 26 ((nI L.length - (1 : Int32))).toNatClampNeg), M12)))) (L.length - 1) FU 1 N (by omega) (by omega) (Nat.le_refl 1) (RB_Lo hr (Lq_16 n3)) n2 (fun i' j' h1 h2 h3 => by omega)
              rw [← l1] at p1
              rw [p1, show nI L.length - (1 : Int32) = nI (L.length - 1) from n_sub (b := 1) (by omega), gd_n (by omega) (by omega), n_cl (by omega)]
              have en := p3 0 (L.length - 1) (by omega) (by omega)
              unfold En at en
              rw [im0] at im2
              rw [iol] at io2
              rw [io2, im2, show 20 * 0 + (L.length - 1) = L.length - 1 by omega] at en
              rcases en with ⟨q1, q2⟩ | ⟨q1, q2⟩
              · rw [q1, gd_p (Or.inr rfl)]
                exact ⟨O, Lq_t n3 p2, Or.inl ⟨rfl, w1, vm', vo, Or.inr q2⟩⟩
              · rw [q1, gd_p (Or.inl rfl)]
                exact ⟨O, Lq_t n3 p2, Or.inr ⟨rfl, fun w => q2 (nonce w)⟩⟩
            · rw [if_neg e5]
              exact no (fun q => e5 (tp.mpr (Cv_a hv g (nonce q)).2.2.2.2.2))
    · rw [if_neg e1]
      exact no (fun q => e1 ((lkm_l hv hm ho).mpr ⟨q.1, q.2.1.1, q.2.2.1.1⟩))
