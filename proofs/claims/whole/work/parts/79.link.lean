/-! PURE: the class's link -/
theorem c_cov {b : Sp} {M : Mem} (hv : BV b) (hc : CB b M) {m : Nat} (hm : mr b m) (vm' : virt b m) (g : good b (b 9 m)) (ht : LT b M (b 9 m)) (h60 : ∀ z, mr b z → virt b z → (pm b 16 (b 9 m)).testBit (b 9 z) = true → Bs (M.2 60 z) (Cv b z)) : ∃ y, f_Selector_coveredFrom M (nI (b 9 m)) (nI m) = some y ∧ Bs y (Cv b m) := by
  obtain ⟨x3, e3, h3⟩ := c_like hv hc hm
  obtain ⟨fu, hfu⟩ := FU_s (r := 16) (by omega)
  have hlen := ch_le b 16 (b 9 m)
  have e := (tab_16 g).1
  unfold f_Selector_coveredFrom
  rw [e3, bd1_s]
  rw [e, List.length_cons] at hlen
  exact c_cov_L hv hc (fun y5 => some y5) hm vm' g ht h3 h60 (if ab b (b 9 m) = 0 then [] else ch b 16 (ab b (b 9 m))) [b 9 m] FU 0 0 (by omega) e (by simp) (Bs_0 (fun o _ q => by
    have a := (Cv_a hv g q.1).2.2.2.2.2
    rw [List.mem_singleton.mp q.2] at a
    exact pm_ir hv g a)) (Bs_0 (fun o _ ⟨z, q1, q2, _⟩ => by
    have a := (Cv_a hv g q1).2.2.2.2.2
    rw [List.mem_singleton.mp q2] at a
    exact pm_ir hv g a))
/-- only the coveredAbove differs -/
def K6 (M N : Mem) : Prop := N.1 = M.1 ∧ ∀ a, a ≠ 60 → N.2 a = M.2 a
theorem K6_r (M : Mem) : K6 M M := ⟨rfl, fun _ _ => rfl⟩
theorem K6_t {M N O : Mem} (h : K6 M N) (g : K6 N O) : K6 M O := ⟨by rw [g.1, h.1], fun a ha => by rw [g.2 a ha, h.2 a ha]⟩
theorem K6_u (M : Mem) (i : Nat) (x : Int64) : K6 M (u2 M 60 i x) := ⟨rfl, fun a ha => u2_ne ha⟩
theorem K6_Kc {M N : Mem} (h : K6 M N) : Kc M N := ⟨fun a _ => by rw [h.1], fun a ha => h.2 a (by omega)⟩
theorem K6_LT {b : Sp} {M N : Mem} (h : K6 M N) {x : Nat} (g : LT b M x) : LT b N x := by
  unfold LT
  rw [h.1]
  exact g
theorem c_rn_L {b : Sp} (hv : BV b) {τ : Type} (ke : Mem → Option τ) (x1 : Int32) {x : Nat} (gx : good b x) (hx1 : 1 ≤ x) (hx2 : x ≤ nC b) : ∀ r f n M, r < f → n + r = nM b + 1 → 1 ≤ n → CB b M → LT b M x → (∀ z, mr b z → virt b z → (pm b 16 x).testBit (b 9 z) = true → Bs (M.2 60 z) (Cv b z)) → ∃ N, f_Selector_renew_L25 x1 (nI x) ke f (nI n) M = ke N ∧ K6 M N ∧ (∀ z, b 9 z ≠ x ∨ z < n → N.2 60 z = M.2 60 z) ∧ ∀ z, mr b z → virt b z → b 9 z = x → n ≤ z → Bs (N.2 60 z) (Cv b z) := by
  have h16 := hv.1.1
  have h40 := hv.1.2.1
  intro r
  induction r with
  | zero =>
    intro f n M hf hn h1 hc ht h60
    obtain ⟨f, rfl⟩ : ∃ g, f = g + 1 := ⟨f - 1, by omega⟩
    rw [f_Selector_renew_L25, hc.1.2.1, i_lt (by omega) (by omega), if_pos (by omega)]
    exact ⟨M, rfl, K6_r M, fun _ _ => rfl, fun z hz _ _ q => by have := hz.2; omega⟩
  | succ r ih =>
    intro f n M hf hn h1 hc ht h60
    obtain ⟨f, rfl⟩ : ∃ g, f = g + 1 := ⟨f - 1, by omega⟩
    have hn' : mr b n := ⟨h1, by omega⟩
    obtain ⟨n40, n1, n2, -⟩ := m_lt hv hn'
    rw [f_Selector_renew_L25, hc.1.2.1, i_lt (by omega) (by omega), if_neg (by omega), gd_n (by omega) (by omega), n_cl (by omega), (hc.2.2.2.2.1 n h1 (by omega)).1, i_eq (by omega) (by omega), show nI n + (1 : Int32) = nI (n + 1) from n_add n 1]
    have skip : ¬ (b 9 n = x ∧ virt b n) → ∃ N, f_Selector_renew_L25 x1 (nI x) ke f (nI (n + 1)) M = ke N ∧ K6 M N ∧ (∀ z, b 9 z ≠ x ∨ z < n → N.2 60 z = M.2 60 z) ∧ ∀ z, mr b z → virt b z → b 9 z = x → n ≤ z → Bs (N.2 60 z) (Cv b z) := fun no => by
      obtain ⟨N, e1, e2, e3, e4⟩ := ih f (n + 1) M (by omega) (by omega) (by omega) hc ht h60
      refine ⟨N, e1, e2, fun z hz => e3 z (hz.imp id (fun q => by omega)), fun z z1 z2 z3 z4 => ?_⟩
      by_cases e : z = n
      · rw [e] at z2 z3; exact absurd ⟨z3, z2⟩ no
      · exact e4 z z1 z2 z3 (by omega)
    by_cases e : b 9 n = x
    · rw [if_pos e, f_hasBit _ (show n < 64 by omega), bd1_s, i_hb]
      have vb := hc.2.2.2.2.2.1.2.1 n (by omega)
      by_cases v : tb (M.2 3 4) n = true
      · have hvn := (vb.mp v).2.2
        rw [if_pos v]
        rw [← e] at gx ht h60
        obtain ⟨y, y1, y2⟩ := c_cov hv hc hn' hvn gx ht h60
        rw [e] at gx ht h60 y1
        rw [y1, bd1_s, gd_n (by omega) (by omega), sm_s]
        have k6 := K6_u M n y
        obtain ⟨N, e1, e2, e3, e4⟩ := ih f (n + 1) (u2 M 60 n y) (by omega) (by omega) (by omega) (CB_k hc (K6_Kc k6)) (K6_LT k6 ht) (fun z z1 z2 z3 => by
          rw [u2_eq, if_neg (by
            intro q
            rw [q, e] at z3
            exact pm_ir hv gx z3)]
          exact h60 z z1 z2 z3)
        refine ⟨N, e1, K6_t k6 e2, fun z hz => ?_, fun z z1 z2 z3 z4 => ?_⟩
        · rw [e3 z (hz.imp id (fun q => by omega)), u2_eq, if_neg]
          rcases hz with q | q
          · intro w; rw [w] at q; exact q e
          · omega
        · by_cases w : z = n
          · rw [e3 z (Or.inr (by omega)), u2_eq, if_pos w, w]
            exact y2
          · exact e4 z z1 z2 z3 (by omega)
      · rw [if_neg v]
        exact skip (fun q => v (vb.mpr ⟨h1, by omega, q.2⟩))
    · rw [if_neg e]
      exact skip (fun q => e q.1)
theorem Od_pm {b : Sp} : ∀ t : List Nat, Od b t → (∀ y ∈ t, good b y) → ∀ y ∈ t, ∀ z, (pm b 16 y).testBit z = true → z ∈ t := by
  intro t
  induction t with
  | nil => intro _ _ y hy; cases hy
  | cons x t ih =>
    intro ho hg y hy z hz
    have ih' := ih ho.2 (fun y q => hg y (List.mem_cons_of_mem _ q))
    rcases List.mem_cons.mp hy with e | e
    · rw [e] at hz
      have g := hg x (List.mem_cons_self ..)
      rw [(tab_16 g).2.1] at hz
      by_cases a : ab b x = 0
      · rw [if_pos a, Nat.zero_testBit] at hz; cases hz
      · rw [if_neg a, Nat.testBit_or, Bool.or_eq_true, p2_b] at hz
        rcases hz with q | q
        · rw [← q]; exact List.mem_cons_of_mem _ (ho.1 a)
        · exact List.mem_cons_of_mem _ (ih' _ (ho.1 a) z q)
    · exact List.mem_cons_of_mem _ (ih' y e z hz)
theorem Od_s {b : Sp} : ∀ r t : List Nat, Od b (r ++ t) → Od b t := by
  intro r
  induction r with
  | nil => intro t h; exact h
  | cons x r ih => intro t h; exact ih t h.2
theorem Ol_s {M : Mem} : ∀ r t : List Nat, Ol M (r ++ t) → Ol M t := by
  intro r
  induction r with
  | nil => intro t h; exact h
  | cons x r ih => intro t h; exact ih t h.2
/-- the order: o = the rest, last first, then what is done -/
theorem c_rn {b : Sp} (hv : BV b) {o : List Nat} (ho : Od b o) (hg : PV b o ∧ ∀ x ∈ o, good b x) {τ : Type} (ke : Mem → Option τ) : ∀ (r t : List Nat) (f : Nat) (M : Mem), r.length < f → o = r.reverse ++ t → CB b M → M.1 5 8 = nI o.length → Ol M o → (∀ x ∈ o, LT b M x) → (∀ z, mr b z → virt b z → b 9 z ∈ t → Bs (M.2 60 z) (Cv b z)) → ∃ N, f_Selector_renew_L2 ke f (nI t.length) M = ke N ∧ K6 M N ∧ ∀ z, mr b z → virt b z → b 9 z ∈ o → Bs (N.2 60 z) (Cv b z) := by
  have h16 := hv.1.1
  have h40 := hv.1.2.1
  have hol := PV_le hv hg.1
  intro r
  induction r with
  | nil =>
    intro t f M hf he hc h8 hl ht h60
    obtain ⟨f, rfl⟩ : ∃ g, f = g + 1 := ⟨f - 1, by omega⟩
    have e : o = t := he
    rw [f_Selector_renew_L2, h8, i_le (by omega) (by rw [← e]; omega), if_pos (by rw [e]; exact Nat.le_refl _)]
    rw [← e] at h60
    exact ⟨M, rfl, K6_r M, h60⟩
  | cons x r ih =>
    intro t f M hf he hc h8 hl ht h60
    rw [List.length_cons] at hf
    obtain ⟨f, rfl⟩ : ∃ g, f = g + 1 := ⟨f - 1, by omega⟩
    have he' : o = r.reverse ++ (x :: t) := by rw [he, List.reverse_cons, List.append_assoc]; rfl
    have ll : o.length = r.length + (t.length + 1) := by rw [he', List.length_append, List.length_reverse, List.length_cons]
    have xo : x ∈ o := by rw [he']; exact List.mem_append_right _ (List.mem_cons_self ..)
    have gx := hg.2 x xo
    obtain ⟨x1, x2⟩ := hg.1.2 x xo
    have od : Od b (x :: t) := Od_s r.reverse _ (by rw [← he']; exact ho)
    have ol : Ol M (x :: t) := Ol_s r.reverse _ (by rw [← he']; exact hl)
    have gt : ∀ y ∈ t, good b y := fun y q => hg.2 y (by rw [he']; exact List.mem_append_right _ (List.mem_cons_of_mem _ q))
    obtain ⟨fu, hfu⟩ := FU_s (r := nM b) (by omega)
    have pmt : ∀ z, (pm b 16 x).testBit z = true → z ∈ t := fun z hz => by
      have q := Od_pm (x :: t) od (fun y w => hg.2 y (by rw [he']; exact List.mem_append_right _ w)) x (List.mem_cons_self ..) z hz
      rcases List.mem_cons.mp q with w | w
      · rw [w] at hz; exact absurd hz (pm_ir hv gx)
      · exact w
    rw [f_Selector_renew_L2, h8, i_le (by omega) (by omega), if_neg (by omega), gd_n (by omega) (by omega), n_cl (by omega), ol.1, show nI t.length + (1 : Int32) = nI (t.length + 1) from n_add _ 1, show (1 : Int32) = nI 1 from rfl]
    obtain ⟨N, e1, e2, e3, e4⟩ := c_rn_L hv (fun M4 => f_Selector_renew_L2 ke f (nI (t.length + 1)) M4) (nI t.length) gx x1 x2 (nM b) FU 1 M (by omega) (by omega) (Nat.le_refl 1) hc (ht x xo) (fun z z1 z2 z3 => h60 z z1 z2 (pmt _ z3))
    rw [e1]
    obtain ⟨O, o1, o2, o3⟩ := ih (x :: t) f N (by omega) he' (CB_k hc (K6_Kc e2)) (by rw [e2.1]; exact h8) (by
      refine Ol_c o hl (fun i _ => by rw [e2.1])) (fun y hy => K6_LT e2 (ht y hy)) (fun z z1 z2 z3 => by
        by_cases w : b 9 z = x
        · exact e4 z z1 z2 w z1.1
        · rw [e3 z (Or.inl w)]
          refine h60 z z1 z2 ?_
          rcases List.mem_cons.mp z3 with q | q
          · exact absurd q w
          · exact q)
    exact ⟨O, o1, K6_t e2 o2, o3⟩
/-- the class's link tables are those of b -/
def LK (b : Sp) (M : Mem) : Prop := (∀ x, 1 ≤ x → x ≤ nC b → good b x → LT b M x) ∧ (∀ x, 1 ≤ x → x ≤ nC b → ¬ good b x → M.1 37 x = cde b x) ∧ ∀ z, mr b z → virt b z → good b (b 9 z) → Bs (M.2 60 z) (Cv b z)
theorem c_relink {b : Sp} {M : Mem} (hv : BV b) (hc : CB b M) (h0 : M.1 0 8 = 0) : ∃ N, f_LinkAudit_link M = some N ∧ CB b N ∧ LK b N ∧ N.1 0 8 = 1 ∧ N.1 0 9 = M.1 0 9 := by
  have h16 := hv.1.1
  obtain ⟨N, o, n1, n2, n3, n4, n5, n6, n7⟩ := c_renew hv hc
  obtain ⟨l1', l2', l3', l4', l5', l6'⟩ := n3
  have hol := PV_le hv l4'
  obtain ⟨fu, hfu⟩ := FU_s (r := 16) (by omega)
  obtain ⟨O, o1, o2, o3⟩ := c_rn hv l3' ⟨l4', fun x hx => (l5' x hx).1⟩ (fun M5 => some M5) o.reverse [] FU N (by rw [List.length_reverse]; omega) (by simp) n2 l1' l2' (fun x hx => (l5' x hx).2.1) (fun z _ _ q => by cases q)
  unfold f_LinkAudit_link
  rw [h0, i0, n1, bd1_s]
  have e : f_Selector_renew N = some O := by
    unfold f_Selector_renew
    exact o1
  rw [e, bd1_s, sm_s]
  have hk : ∀ a, a ≠ 0 → (u1 O 0 8 1).1 a = N.1 a := fun a ha => by rw [u1_ne ha, o2.1]
  refine ⟨_, rfl, CB_k n2 (Kc_t (K6_Kc o2) (Kc_u (Kc_r O) (by omega))), ⟨fun x x1 x2 g => ?_, fun x x1 x2 g => ?_, fun z z1 z2 g => ?_⟩, by rw [u1_eq, if_pos rfl], by rw [u1_eq, if_neg (by omega), o2.1, n6]⟩
  · have q := (l5' x (n4 x x1 x2 g)).2.1
    unfold LT at q ⊢
    rw [hk 37 (by omega), hk 56 (by omega), hk 57 (by omega), hk 58 (by omega), hk (39 + x) (by omega)]
    exact q
  · rw [hk 37 (by omega)]
    exact n5 x x1 x2 g
  · obtain ⟨-, q1, q2, -⟩ := m_lt hv z1
    exact o3 z z1 z2 (n4 _ q1 q2 g)
theorem c_link {b : Sp} {M : Mem} (hv : BV b) (hc : CB b M) (h0 : M.1 0 8 = 0 ∨ (M.1 0 8 = 1 ∧ LK b M)) : ∃ N, f_LinkAudit_link M = some N ∧ CB b N ∧ LK b N ∧ N.1 0 8 = 1 ∧ N.1 0 9 = M.1 0 9 ∧ (M.1 0 8 = 1 → N = M) := by
  rcases h0 with h0 | ⟨h0, h1⟩
  · obtain ⟨N, a, b', c, d, e⟩ := c_relink hv hc h0
    exact ⟨N, a, b', c, d, e, fun q => by rw [h0] at q; exact absurd q (by decide)⟩
  · refine ⟨M, ?_, hc, h1, h0, rfl, fun _ => rfl⟩
    unfold f_LinkAudit_link
    rw [h0, i1]
