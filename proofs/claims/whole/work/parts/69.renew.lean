/-! PURE: the class links anew -/
theorem c_fill {τ : Type} (ke : Mem → Option τ) : ∀ r f i M, r < f → i + r = 17 → ∃ N, f_Arrays_fill_L5 (nI 0) (nI 17) ke f (nI i) M = ke N ∧ N.2 = M.2 ∧ (∀ a, a ≠ 37 → N.1 a = M.1 a) ∧ ∀ j, i ≤ j → j < 17 → N.1 37 j = nI 0 := by
  intro r f i M hf hi
  have gen : ∀ r f i M, r < f → i + r = 17 → ∃ N, f_Arrays_fill_L5 (nI 0) (nI 17) ke f (nI i) M = ke N ∧ N.2 = M.2 ∧ (∀ a, a ≠ 37 → N.1 a = M.1 a) ∧ (∀ j, i ≤ j → j < 17 → N.1 37 j = nI 0) ∧ ∀ j, j < i → N.1 37 j = M.1 37 j := by
    intro r
    induction r with
    | zero =>
      intro f i M hf hi
      obtain ⟨f, rfl⟩ : ∃ g, f = g + 1 := ⟨f - 1, by omega⟩
      rw [f_Arrays_fill_L5, i_le (by omega) (by omega), if_pos (show 17 ≤ i by omega)]
      exact ⟨M, rfl, rfl, fun _ _ => rfl, fun j h1 h2 => by omega, fun _ _ => rfl⟩
    | succ r ih =>
      intro f i M hf hi
      obtain ⟨f, rfl⟩ : ∃ g, f = g + 1 := ⟨f - 1, by omega⟩
      rw [f_Arrays_fill_L5, i_le (by omega) (by omega), if_neg (show ¬ 17 ≤ i by omega), gd_n (by omega) (by omega), n_cl (by omega), sm_s, l1, n_add]
      obtain ⟨N, n1, n2, n3, n4, n5⟩ := ih f (i + 1) (u1 M 37 i (nI 0)) (by omega) (by omega)
      refine ⟨N, n1, n2, fun a ha => by rw [n3 a ha, u1_ne ha], fun j h1 h2 => ?_, fun j h1 => by rw [n5 j (by omega), u1_eq, if_neg (by omega)]⟩
      by_cases e : j = i
      · rw [n5 j (by omega), u1_eq, if_pos e]
      · exact n4 j (by omega) h2
  obtain ⟨N, n1, n2, n3, n4, -⟩ := gen r f i M hf hi
  exact ⟨N, n1, n2, n3, n4⟩
theorem LI_u {b : Sp} {M : Mem} {o : List Nat} (h : LI b M o) {n : Nat} {v : Int32} (hv : (n ∈ o ∧ v = nI n) ∨ (n ∉ o ∧ v ≠ nI n)) : LI b (u1 M 37 n v) o := by
  obtain ⟨l1, l2, l3, l4, l5, l6⟩ := h
  refine ⟨by rw [u1_ne (by omega)]; exact l1, Ol_c o l2 (fun i _ => by rw [u1_ne (by omega)]), l3, l4, fun x hx => ?_, fun x h1 h2 h3 => ?_⟩
  · obtain ⟨g1, ⟨t1, t2, t3, t4, t5⟩, g3⟩ := l5 x hx
    refine ⟨g1, ⟨?_, by rw [u1_ne (by omega)]; exact t2, fun i hi => by rw [u1_ne (by omega)]; exact t3 i hi, by rw [u1_ne (by omega)]; exact t4, by rw [u1_ne (by omega)]; exact t5⟩, g3⟩
    rw [u1_eq]
    by_cases e : x = n
    · rw [if_pos e]
      rcases hv with ⟨-, q⟩ | ⟨q, -⟩
      · rw [q, e]
      · rw [e] at hx; exact absurd hx q
    · rw [if_neg e]; exact t1
  · rw [u1_eq]
    by_cases e : x = n
    · rw [if_pos e]
      rcases hv with ⟨q, -⟩ | ⟨-, q⟩
      · rw [e] at h3; exact absurd q h3
      · rw [e]; exact q
    · rw [if_neg e]; exact l6 x h1 h2 h3
theorem c_renew_L {b : Sp} (hv : BV b) {τ : Type} (ke : Mem → Option τ) : ∀ r f n M o, r < f → n + r = nC b + 1 → 1 ≤ n → CB b M → LI b M o → (∀ y, 1 ≤ y → y < n → good b y → y ∈ o) → (∀ y, 1 ≤ y → y < n → ¬ good b y → M.1 37 y = cde b y) → ∃ N o', f_Links_renew_L15 ke f (nI n) M = ke N ∧ CB b N ∧ LI b N o' ∧ (∀ y, 1 ≤ y → y ≤ nC b → good b y → y ∈ o') ∧ (∀ y, 1 ≤ y → y ≤ nC b → ¬ good b y → N.1 37 y = cde b y) ∧ N.1 0 = M.1 0 ∧ N.2 = M.2 := by
  have h16 := hv.1.1
  intro r
  induction r with
  | zero =>
    intro f n M o hf hn h1 hc hl hg hb
    obtain ⟨f, rfl⟩ : ∃ g, f = g + 1 := ⟨f - 1, by omega⟩
    rw [f_Links_renew_L15, hc.1.1, i_lt (by omega) (by omega), if_pos (show nC b < n by omega)]
    exact ⟨M, o, rfl, hc, hl, fun y y1 y2 => hg y y1 (by omega), fun y y1 y2 => hb y y1 (by omega), rfl, rfl⟩
  | succ r ih =>
    intro f n M o hf hn h1 hc hl hg hb
    obtain ⟨f, rfl⟩ : ∃ g, f = g + 1 := ⟨f - 1, by omega⟩
    obtain ⟨N, o', n1, n2, n3⟩ := c_lc hv 16 DP [] n M o (by unfold DP; omega) rfl (PV_cons ⟨List.nodup_nil, fun y q => by cases q⟩ (fun q => by cases q) h1 (by omega)) hc hl (fun y q => by cases q)
    obtain ⟨p1, p2, p3, p4, p5, p6, p7⟩ := n2
    rw [f_Links_renew_L15, hc.1.1, i_lt (by omega) (by omega), if_neg (show ¬ nC b < n by omega), show f_Links_loadCode DP M (nI n) 0 = _ from n1, bd2_s, gd_n (by omega) (by omega), n_cl (by omega), sm_s, l1, n_add]
    have hcd := cde_0 hv h1 (show n ≤ nC b by omega)
    have hv' : (n ∈ o' ∧ (if lc b 16 [] n = 0 then nI n else lc b 16 [] n) = nI n) ∨ (n ∉ o' ∧ (if lc b 16 [] n = 0 then nI n else lc b 16 [] n) ≠ nI n) := by
      by_cases z : lc b 16 [] n = 0
      · left; rw [if_pos z]; exact ⟨n3 z, rfl⟩
      · right
        rw [if_neg z]
        refine ⟨fun q => z (hcd.mpr (p2.2.2.2.2.1 n q).1), fun q => ?_⟩
        have := (Cd_neg (lc_Cd b 16 [] n) z).1
        rw [q, l0, n_le (by omega) (by omega)] at this
        omega
    have e37 : ∀ y, (u1 N 37 n (if lc b 16 [] n = 0 then nI n else lc b 16 [] n)).1 37 y = if y = n then (if lc b 16 [] n = 0 then nI n else lc b 16 [] n) else N.1 37 y := fun y => u1_eq
    obtain ⟨O, o'', k1, k2, k3, k4, k5, k6, k7⟩ := ih f (n + 1) (u1 N 37 n (if lc b 16 [] n = 0 then nI n else lc b 16 [] n)) o' (by omega) (by omega) (by omega) (CB_k p1 (Kc_u (Kc_r N) (by omega))) (LI_u p2 hv') (fun y y1 y2 y3 => by
        by_cases e : y = n
        · rw [e]; rw [e] at y3; exact n3 (hcd.mpr y3)
        · exact p3 y (hg y y1 (by omega) y3)) (fun y y1 y2 y3 => by
        rw [e37]
        by_cases e : y = n
        · rw [e] at y3
          rw [if_pos e, if_neg (show ¬ lc b 16 [] n = 0 from fun q => y3 (hcd.mp q)), e]
          rfl
        · rw [if_neg e, p7 y (by omega) (fun q => y3 (p2.2.2.2.2.1 y q).1)]
          exact hb y y1 (by omega) y3)
    exact ⟨O, o'', k1, k2, k3, k4, k5, by rw [k6, u1_ne (by omega)]; exact p5, by rw [k7]; exact p6⟩
theorem c_renew {b : Sp} {M : Mem} (hv : BV b) (hc : CB b M) : ∃ N o, f_Links_renew M = some N ∧ CB b N ∧ LI b N o ∧ (∀ y, 1 ≤ y → y ≤ nC b → good b y → y ∈ o) ∧ (∀ y, 1 ≤ y → y ≤ nC b → ¬ good b y → N.1 37 y = cde b y) ∧ N.1 0 = M.1 0 ∧ N.2 = M.2 := by
  have h16 := hv.1.1
  obtain ⟨fu, hfu⟩ := FU_s (r := 17) (by omega)
  unfold f_Links_renew f_Arrays_fill
  rw [sm_s]
  obtain ⟨N, n1, n2, n3, n4⟩ := c_fill (fun M2 => some M2) 17 FU 0 (u1 M 5 8 0) (by omega) (by omega)
  rw [show f_Arrays_fill_L5 (0 : Int32) 17 (fun M2 => some M2) FU 0 (u1 M 5 8 0) = _ from n1, bd1_s]
  have kc : Kc M N := ⟨fun a ha => by rw [n3 a (by omega), u1_ne (by omega)], fun a _ => by rw [n2]; rfl⟩
  have l37 : ∀ x, 1 ≤ x → x ≤ nC b → x ∉ ([] : List Nat) → N.1 37 x ≠ nI x := fun x x1 x2 _ q => by
    rw [n4 x (by omega) (by omega), n_eq (by omega) (by omega)] at q
    omega
  have li : LI b N [] := ⟨by rw [n3 5 (by omega), u1_eq]; rfl, trivial, trivial, ⟨List.nodup_nil, fun y q => by cases q⟩, fun x q => (by cases q), l37⟩
  obtain ⟨O, o, k1, k2, k3, k4, k5, k6, k7⟩ := c_renew_L hv (fun M6 => some M6) (nC b) FU 1 N [] (by omega) (by omega) (by omega) (CB_k hc kc) li (fun y y1 y2 => by omega) (fun y y1 y2 => by omega)
  exact ⟨O, o, k1, k2, k3, k4, k5, by rw [k6, n3 0 (by omega), u1_ne (by omega)], by rw [k7, n2]; rfl⟩
