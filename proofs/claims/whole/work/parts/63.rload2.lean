/-! PURE: loading, by the reference: its steps -/
theorem st_out {τ : Type} (ke : Int32 → Mem → Option τ) {f n : Nat} {z : Int32} {M : Mem} (hn : n < 100) (hz : z ≠ 0) : f_LinkAuditModel_loadCode_L18 ke (f + 1) (nI (n + 1)) z M = ke z M := by
  have e2 : ¬ nI (n + 1) ≤ 0 := by rw [l0, n_le (by omega) (by omega)]; omega
  rw [f_LinkAuditModel_loadCode_L18, if_neg e2, if_neg hz]
theorem st_head {τ : Type} (ke : Int32 → Mem → Option τ) {f n : Nat} {M : Mem} (hn : n < 18) : f_LinkAuditModel_loadCode_L18 ke (f + 1) (nI (n + 1)) 0 M = (if (M.1 22 n) = (13 : Int32) then if nI n ≤ 0 then f_LinkAuditModel_loadCode_L18 ke f (nI n) 0 M else gd (ok (nI n - (1 : Int32)) 20) (gd (ok (nI n - (1 : Int32)) 20) (bd1 (f_LinkAuditModel_fits M (M.1 21 ((nI n - (1 : Int32))).toNatClampNeg) (M.1 22 ((nI n - (1 : Int32))).toNatClampNeg) (M.1 21 n)) (fun r8 => gd (ok (nI n - (1 : Int32)) 20) (gd (ok (nI n - (1 : Int32)) 20) (sm (u1 M 22 (((nI n - (1 : Int32))).toNatClampNeg) ((M.1 22 ((nI n - (1 : Int32))).toNatClampNeg) + (1 : Int32))) (fun M9 => f_LinkAuditModel_loadCode_L18 ke f (nI n) r8 M9)))))) else bd1 (f_LinkAuditModel_wanted M (M.1 21 n) (M.1 22 n)) (fun r3 => if 0 ≤ r3 then gd (ok (M.1 21 n) 17) (bd1 (f_LinkAuditModel_found M (M.1 4 ((M.1 21 n)).toNatClampNeg) r3) (fun r4 => if r4 = 0 then f_LinkAuditModel_loadCode_b151 M (nI (n + 1)) (-3 : Int32) r4 (f_LinkAuditModel_loadCode_L18 ke f) ke else f_LinkAuditModel_loadCode_b151 M (nI (n + 1)) 0 r4 (f_LinkAuditModel_loadCode_L18 ke f) ke)) else sm (u1 M 22 n ((M.1 22 n) + (1 : Int32))) (fun M7 => f_LinkAuditModel_loadCode_L18 ke f (nI (n + 1)) 0 M7))) := by
  rw [f_LinkAuditModel_loadCode_L18]
  have e1 : nI (n + 1) - (1 : Int32) = nI n := by
    have := n_sub (a := n + 1) (b := 1) (by omega)
    exact this
  have e2 : ¬ nI (n + 1) ≤ 0 := by rw [l0, n_le (by omega) (by omega)]; omega
  rw [if_neg e2, if_pos rfl, e1, n_pred, gd_n (by omega) (by omega), gd_n (by omega) (by omega), gd_n (by omega) (by omega), gd_n (by omega) (by omega), n_cl (by omega)]
theorem st_skip {b : Sp} (hv : BV b) {τ : Type} (ke : Int32 → Mem → Option τ) {f n x s : Nat} {M : Mem} (hr : RB b M) (hn : n < 18) (h1 : 1 ≤ x) (h2 : x ≤ nC b) (hs : s < 13) (e1 : M.1 21 n = nI x) (e2 : M.1 22 n = nI s) (hw : wt b x s = 12) : f_LinkAuditModel_loadCode_L18 ke (f + 1) (nI (n + 1)) 0 M = f_LinkAuditModel_loadCode_L18 ke f (nI (n + 1)) 0 (u1 M 22 n (nI (s + 1))) := by
  rw [st_head ke hn, e1, e2, r_wanted hv hr h1 h2 hs, bd1_s, if_pos hw, l13, i_eq (by omega) (by omega), if_neg (show ¬ s = 13 by omega), if_neg (show ¬ (0 : Int32) ≤ -1 by decide), sm_s, l1, n_add]
theorem st_push {b : Sp} (hv : BV b) {τ : Type} (ke : Int32 → Mem → Option τ) {f n x s : Nat} {M : Mem} (hr : RB b M) (hn : n < 18) (h1 : 1 ≤ x) (h2 : x ≤ nC b) (hs : s < 13) (e1 : M.1 21 n = nI x) (e2 : M.1 22 n = nI s) (hw : wt b x s ≠ 12) : f_LinkAuditModel_loadCode_L18 ke (f + 1) (nI (n + 1)) 0 M = f_LinkAuditModel_loadCode_b151 M (nI (n + 1)) (if sp b x s = 0 then -3 else 0) (nI (sp b x s)) (f_LinkAuditModel_loadCode_L18 ke f) ke := by
  have h16 := hv.1.1
  have hx := hv.2.2.1 x h1 h2
  have h12 := wt_le hv h1 h2 hs
  have hsp := sp_le hv x s
  have hsp' : fnd b (b 4 x) (wt b x s) ≤ nC b := hsp
  rw [st_head ke hn, e1, e2, r_wanted hv hr h1 h2 hs, bd1_s, if_neg hw, l13, i_eq (by omega) (by omega), if_neg (show ¬ s = 13 by omega), if_pos (show (0 : Int32) ≤ nI (wt b x s) by rw [l0, n_le (by omega) (by omega)]; omega), gd_n (by omega) (by omega), n_cl (by omega), hr.2.2.2 4 (by omega) (by omega), r_found hv hr (by omega) (by omega), bd1_s, i_eq0 (by omega)]
  show (if sp b x s = 0 then _ else _) = _
  by_cases z : sp b x s = 0
  · rw [if_pos z, if_pos z]; rfl
  · rw [if_neg z, if_neg z]; rfl
theorem st_b {τ : Type} (ke : Int32 → Mem → Option τ) (kc : Int32 → Int32 → Mem → Option τ) {n d : Nat} {z : Int32} {M : Mem} (hn : n < 18) : ((∃ j, j < n + 1 ∧ M.1 21 j = nI d) → f_LinkAuditModel_loadCode_b151 M (nI (n + 1)) z (nI d) kc ke = kc (nI (n + 2)) (-4) (u1 (u1 M 21 (n + 1) (nI d)) 22 (n + 1) (nI 0))) ∧ ((∀ j, j < n + 1 → M.1 21 j ≠ nI d) → f_LinkAuditModel_loadCode_b151 M (nI (n + 1)) z (nI d) kc ke = kc (nI (n + 2)) z (u1 (u1 M 21 (n + 1) (nI d)) 22 (n + 1) (nI 0))) := by
  obtain ⟨g, hg⟩ := FU_s (r := n + 1) (by omega)
  unfold f_LinkAuditModel_loadCode_b151
  refine ⟨fun h => ?_, fun h => ?_⟩
  · obtain ⟨j, j1, j2⟩ := h
    rw [l0, r_scan2 M (n + 1) d (by omega) _ z (n + 1) FU 0 (by omega) (by omega) ⟨j, by omega, j1, j2⟩]
    rw [gd_n (by omega) (by omega), sm_s, gd_n (by omega) (by omega), sm_s, n_cl (by omega), l1, n_add]
  · rw [l0, r_scan1 M (n + 1) d (by omega) _ z (n + 1) FU 0 (by omega) (by omega) (fun j _ j2 => h j j2)]
    rw [gd_n (by omega) (by omega), sm_s, gd_n (by omega) (by omega), sm_s, n_cl (by omega), l1, n_add]
theorem st_pop {b : Sp} (hv : BV b) {τ : Type} (ke : Int32 → Mem → Option τ) {f n x s d : Nat} {M : Mem} (hr : RB b M) (hn : n < 17) (h1 : 1 ≤ x) (h2 : x ≤ nC b) (hs : s < 13) (h3 : 1 ≤ d) (h4 : d ≤ nC b) (e1 : M.1 21 n = nI x) (e2 : M.1 22 n = nI s) (e3 : M.1 21 (n + 1) = nI d) (e4 : M.1 22 (n + 1) = nI 13) : f_LinkAuditModel_loadCode_L18 ke (f + 1) (nI (n + 2)) 0 M = f_LinkAuditModel_loadCode_L18 ke f (nI (n + 1)) (ft b x s d) (u1 M 22 n (nI (s + 1))) := by
  have q : nI (n + 1) - (1 : Int32) = nI n := n_sub (a := n + 1) (b := 1) (by omega)
  rw [st_head ke (n := n + 1) (by omega), if_pos (show M.1 22 (n + 1) = (13 : Int32) from e4), if_neg (show ¬ nI (n + 1) ≤ 0 by rw [l0, n_le (by omega) (by omega)]; omega), q, n_cl (by omega), gd_n (by omega) (by omega), gd_n (by omega) (by omega), e1, e2, e3, r_fits hv hr h1 h2 h3 h4 hs, bd1_s, gd_n (by omega) (by omega), gd_n (by omega) (by omega), sm_s, l1, n_add]
theorem st_end {τ : Type} (ke : Int32 → Mem → Option τ) {f : Nat} {M : Mem} (e : M.1 22 0 = nI 13) : f_LinkAuditModel_loadCode_L18 ke (f + 2) (nI 1) 0 M = ke 0 M := by
  rw [show f + 2 = (f + 1) + 1 from rfl, st_head ke (n := 0) (by omega), if_pos (show M.1 22 0 = (13 : Int32) from e), if_pos (show nI 0 ≤ (0 : Int32) by decide), f_LinkAuditModel_loadCode_L18, if_pos (show nI 0 ≤ (0 : Int32) by decide)]
/-- the steps of one class, the deeper ones given -/
theorem r_steps {b : Sp} (hv : BV b) {τ : Type} (ke : Int32 → Mem → Option τ) {x : Nat} {q : List (Nat × Nat)} {h : Nat → Int32} (hx1 : 1 ≤ x) (hx2 : x ≤ nC b) (hq : q.length < 16) (hP : PV b (x :: q.map (·.1))) (t : Nat)
    (H : ∀ d s M, RB b M → 1 ≤ d → d ≤ nC b → d ∉ x :: q.map (·.1) → Sk M ((d, 0) :: (x, s) :: q) → ∃ c N, c ≤ t ∧ Lo 21 M N ∧ (h d = 0 → Sk N ((d, 13) :: (x, s) :: q)) ∧ ∀ f, f_LinkAuditModel_loadCode_L18 ke (f + c) (nI (q.length + 2)) 0 M = if h d = 0 then f_LinkAuditModel_loadCode_L18 ke f (nI (q.length + 2)) 0 N else ke (h d) N) :
    ∀ r s M, s + r = 13 → RB b M → Sk M ((x, s) :: q) → ∃ c N, c ≤ r * (t + 4) ∧ Lo 21 M N ∧ (fz (sc b h (x :: q.map (·.1)) x) r s = 0 → Sk N ((x, 13) :: q)) ∧ ∀ f, f_LinkAuditModel_loadCode_L18 ke (f + c) (nI (q.length + 1)) 0 M = if fz (sc b h (x :: q.map (·.1)) x) r s = 0 then f_LinkAuditModel_loadCode_L18 ke f (nI (q.length + 1)) 0 N else ke (fz (sc b h (x :: q.map (·.1)) x) r s) N := by
  intro r
  induction r with
  | zero =>
    intro s M hs hr hk
    have : s = 13 := by omega
    subst this
    exact ⟨0, M, by omega, Lo_r 21 M, fun _ => hk, fun f => by rw [show fz (sc b h (x :: q.map (·.1)) x) 0 13 = 0 from rfl, if_pos rfl]; rfl⟩
  | succ r ih =>
    intro s M hs hr hk
    obtain ⟨k1, k2, k3⟩ := id hk
    have hm : (r + 1) * (t + 4) = r * (t + 4) + (t + 4) := by rw [Nat.add_mul, Nat.one_mul]
    have hfz : fz (sc b h (x :: q.map (·.1)) x) (r + 1) s = if sc b h (x :: q.map (·.1)) x s = 0 then fz (sc b h (x :: q.map (·.1)) x) r (s + 1) else sc b h (x :: q.map (·.1)) x s := rfl
    have hup : ∀ N, Lo 21 M N → N.1 21 q.length = nI x → Sk N q → Sk (u1 N 22 q.length (nI (s + 1))) ((x, s + 1) :: q) := fun N _ n1 n3 => ⟨by rw [u1_ne (by omega)]; exact n1, by rw [u1_eq, if_pos rfl], Sk_c q n3 (fun i hi => ⟨by rw [u1_ne (by omega)], by rw [u1_eq, if_neg (by omega)]⟩)⟩
    by_cases hw : wt b x s = 12
    · have e0 : sc b h (x :: q.map (·.1)) x s = 0 := by unfold sc; rw [if_pos hw]
      obtain ⟨c, N, c1, c2, c3, c4⟩ := ih (s + 1) (u1 M 22 q.length (nI (s + 1))) (by omega) (RB_Lo hr (Lo_u (Lo_r 16 M) (by omega))) (hup M (Lo_r 21 M) k1 k3)
      refine ⟨c + 1, N, by omega, Lo_t (Lo_u (Lo_r 21 M) (by omega)) c2, fun w => c3 (by rw [hfz, if_pos e0] at w; exact w), fun f => ?_⟩
      rw [← Nat.add_assoc, st_skip hv ke hr (by omega) hx1 hx2 (by omega) k1 k2 hw, c4 f, hfz, if_pos e0]
    · have p0 := fun f : Nat => st_push hv ke (f := f) hr (show q.length < 18 by omega) hx1 hx2 (show s < 13 by omega) k1 k2 hw
      have fail : ∀ z : Int32, z ≠ 0 → sc b h (x :: q.map (·.1)) x s = z → (∀ f, f_LinkAuditModel_loadCode_L18 ke (f + 1) (nI (q.length + 1)) 0 M = f_LinkAuditModel_loadCode_L18 ke f (nI (q.length + 2)) z (u1 (u1 M 21 (q.length + 1) (nI (sp b x s))) 22 (q.length + 1) (nI 0))) → ∃ c N, c ≤ (r + 1) * (t + 4) ∧ Lo 21 M N ∧ (fz (sc b h (x :: q.map (·.1)) x) (r + 1) s = 0 → Sk N ((x, 13) :: q)) ∧ ∀ f, f_LinkAuditModel_loadCode_L18 ke (f + c) (nI (q.length + 1)) 0 M = if fz (sc b h (x :: q.map (·.1)) x) (r + 1) s = 0 then f_LinkAuditModel_loadCode_L18 ke f (nI (q.length + 1)) 0 N else ke (fz (sc b h (x :: q.map (·.1)) x) (r + 1) s) N := fun z hz e0 hf => by
        have e1 : fz (sc b h (x :: q.map (·.1)) x) (r + 1) s = z := by rw [hfz, e0, if_neg hz]
        refine ⟨2, u1 (u1 M 21 (q.length + 1) (nI (sp b x s))) 22 (q.length + 1) (nI 0), by omega, Lo_u (Lo_u (Lo_r 21 M) (by omega)) (by omega), fun w => absurd (e1.symm.trans w) hz, fun f => ?_⟩
        rw [e1, if_neg hz, show f + 2 = (f + 1) + 1 from rfl, hf (f + 1), st_out ke (n := q.length + 1) (by omega) hz]
      by_cases z0 : sp b x s = 0
      · refine fail (-3) (by decide) (by unfold sc; rw [if_neg hw, if_pos z0]) (fun f => ?_)
        rw [p0 f, if_pos z0, (st_b ke _ (by omega)).2 (fun j hj => ?_)]
        obtain ⟨y, y1, y2⟩ := Sk_at _ hk j (by rw [List.length_cons]; exact hj)
        have yv := hP.2 y y1
        have h16 := hv.1.1
        rw [y2, z0]
        intro w
        rw [n_eq (by omega) (by omega)] at w
        omega
      · by_cases zm : sp b x s ∈ x :: q.map (·.1)
        · refine fail (-4) (by decide) (by unfold sc; rw [if_neg hw, if_neg z0, if_pos zm]) (fun f => ?_)
          obtain ⟨i, i1, i2⟩ := Sk_of _ hk (sp b x s) zm
          rw [p0 f, if_neg z0, (st_b ke _ (by omega)).1 ⟨i, by rw [List.length_cons] at i1; exact i1, i2⟩]
        · have hsp := sp_le hv x s
          have h16 := hv.1.1
          have p1 : ∀ f, f_LinkAuditModel_loadCode_L18 ke (f + 1) (nI (q.length + 1)) 0 M = f_LinkAuditModel_loadCode_L18 ke f (nI (q.length + 2)) 0 (u1 (u1 M 21 (q.length + 1) (nI (sp b x s))) 22 (q.length + 1) (nI 0)) := fun f => by
            rw [p0 f, if_neg z0, (st_b ke _ (by omega)).2 (fun j hj => ?_)]
            obtain ⟨y, y1, y2⟩ := Sk_at _ hk j (by rw [List.length_cons]; exact hj)
            have yv := hP.2 y y1
            rw [y2]
            intro w
            rw [n_eq (by omega) (by omega)] at w
            rw [w] at y1
            exact zm y1
          obtain ⟨c, N, c1, c2, c3, c4⟩ := H (sp b x s) s (u1 (u1 M 21 (q.length + 1) (nI (sp b x s))) 22 (q.length + 1) (nI 0)) (RB_Lo hr (Lo_u (Lo_u (Lo_r 16 M) (by omega)) (by omega))) (by omega) hsp zm ⟨by rw [u1_ne (by omega), u1_eq, List.length_cons, if_pos rfl], by rw [u1_eq, List.length_cons, if_pos rfl], Sk_c _ hk (fun i hi => by
              rw [List.length_cons] at hi
              exact ⟨by rw [u1_ne (by omega), u1_eq, if_neg (by omega)], by rw [u1_eq, if_neg (by omega), u1_ne (by omega)]⟩)⟩
          have lo1 : Lo 21 M N := Lo_t (Lo_u (Lo_u (Lo_r 21 M) (by omega)) (by omega)) c2
          by_cases zh : h (sp b x s) = 0
          · have e0 : sc b h (x :: q.map (·.1)) x s = ft b x s (sp b x s) := by unfold sc; rw [if_neg hw, if_neg z0, if_neg zm, if_pos zh]
            obtain ⟨n1, n2, n3, n4, n5⟩ := c3 zh
            rw [List.length_cons] at n1 n2
            have rN := RB_Lo hr (Lo_le lo1 (by omega))
            have p2 : ∀ f, f_LinkAuditModel_loadCode_L18 ke (f + 1 + c + 1) (nI (q.length + 1)) 0 M = f_LinkAuditModel_loadCode_L18 ke f (nI (q.length + 1)) (ft b x s (sp b x s)) (u1 N 22 q.length (nI (s + 1))) := fun f => by
              rw [p1, c4, if_pos zh, st_pop hv ke rN (by omega) hx1 hx2 (by omega) (by omega) hsp n3 n4 n1 n2]
            by_cases zf : ft b x s (sp b x s) = 0
            · obtain ⟨c', N', d1, d2, d3, d4⟩ := ih (s + 1) (u1 N 22 q.length (nI (s + 1))) (by omega) (RB_Lo rN (Lo_u (Lo_r 16 N) (by omega))) (hup N lo1 n3 n5)
              refine ⟨c' + (1 + c + 1), N', by omega, Lo_t (Lo_u lo1 (by omega)) d2, fun w => d3 (by rw [hfz, e0, if_pos zf] at w; exact w), fun f => ?_⟩
              rw [show f + (c' + (1 + c + 1)) = f + c' + 1 + c + 1 by omega, p2, zf, d4 f, hfz, e0, if_pos zf]
            · have e1 : fz (sc b h (x :: q.map (·.1)) x) (r + 1) s = ft b x s (sp b x s) := by rw [hfz, e0, if_neg zf]
              refine ⟨1 + 1 + c + 1, u1 N 22 q.length (nI (s + 1)), by omega, Lo_u lo1 (show 21 ≤ 22 by omega), fun w => absurd (e1.symm.trans w) zf, fun f => ?_⟩
              rw [e1, if_neg zf, show f + (1 + 1 + c + 1) = (f + 1) + 1 + c + 1 by omega, p2, st_out ke (by omega) zf]
          · have e0 : sc b h (x :: q.map (·.1)) x s = h (sp b x s) := by unfold sc; rw [if_neg hw, if_neg z0, if_neg zm, if_neg zh]
            have e1 : fz (sc b h (x :: q.map (·.1)) x) (r + 1) s = h (sp b x s) := by rw [hfz, e0, if_neg zh]
            refine ⟨c + 1, N, by omega, lo1, fun w => absurd (e1.symm.trans w) zh, fun f => ?_⟩
            rw [e1, if_neg zh, ← Nat.add_assoc, p1, c4, if_neg zh]
def Tc : Nat → Nat
  | 0 => 0
  | k + 1 => 13 * (Tc k + 4)
theorem r_lc {b : Sp} (hv : BV b) {τ : Type} (ke : Int32 → Mem → Option τ) : ∀ k (q : List (Nat × Nat)) x M, RB b M → PV b (x :: q.map (·.1)) → k + q.length = 16 → Sk M ((x, 0) :: q) → ∃ c N, c ≤ Tc k ∧ Lo 21 M N ∧ (lc b k (q.map (·.1)) x = 0 → Sk N ((x, 13) :: q)) ∧ ∀ f, f_LinkAuditModel_loadCode_L18 ke (f + c) (nI (q.length + 1)) 0 M = if lc b k (q.map (·.1)) x = 0 then f_LinkAuditModel_loadCode_L18 ke f (nI (q.length + 1)) 0 N else ke (lc b k (q.map (·.1)) x) N := by
  intro k
  induction k with
  | zero =>
    intro q x M _ hP hk _
    have := PV_le hv hP
    rw [List.length_cons, List.length_map] at this
    omega
  | succ k ih =>
    intro q x M hr hP hk hs
    have hx := hP.2 x (List.mem_cons_self ..)
    exact r_steps hv ke (q := q) (h := lc b k (x :: q.map (fun a : Nat × Nat => a.1))) hx.1 hx.2 (by omega) hP (Tc k) (fun d s M' hr' d1 d2 d3 hs' => ih ((x, s) :: q) d M' hr' (PV_cons hP d3 d1 d2) (by rw [List.length_cons]; omega) hs') 13 0 M rfl hr hs
theorem r_loadCode {b : Sp} {R : Mem} (hv : BV b) (hr : RB b R) {x : Nat} (h1 : 1 ≤ x) (h2 : x ≤ nC b) : ∃ N, Lo 21 R N ∧ f_LinkAuditModel_loadCode R (nI x) = some (cde b x, N) := by
  have hT : Tc 16 + 2 < FU := by unfold FU; decide
  have h0 : RB b (u1 (u1 R 21 0 (nI x)) 22 0 0) := RB_Lo hr (Lo_u (Lo_u (Lo_r 16 R) (by omega)) (by omega))
  obtain ⟨c, N, c1, c2, c3, c4⟩ := r_lc hv (fun y3 M10 => some (y3, M10)) 16 [] x (u1 (u1 R 21 0 (nI x)) 22 0 0) h0 (PV_cons ⟨List.nodup_nil, fun y q => by cases q⟩ (fun q => by cases q) h1 h2) rfl ⟨by rw [u1_ne (by omega), u1_eq]; rfl, by rw [u1_eq]; rfl, trivial⟩
  refine ⟨N, Lo_t (Lo_u (Lo_u (Lo_r 21 R) (by omega)) (by omega)) c2, ?_⟩
  obtain ⟨f, hf⟩ : ∃ f, FU = (f + 2) + c := ⟨FU - 2 - c, by omega⟩
  unfold f_LinkAuditModel_loadCode
  rw [l0, gd_n (by omega) (by omega), sm_s, gd_n (by omega) (by omega), sm_s, n_cl (by omega), hf]
  have c4' := c4 (f + 2)
  refine Eq.trans c4' ?_
  by_cases z : lc b 16 ([].map (·.1 : Nat × Nat → Nat)) x = 0
  · rw [if_pos z]
    refine Eq.trans (st_end _ (c3 z).2.1) ?_
    show some ((0 : Int32), N) = some (lc b 16 [] x, N)
    rw [show lc b 16 [] x = 0 from z]
  · rw [if_neg z]
    rfl
