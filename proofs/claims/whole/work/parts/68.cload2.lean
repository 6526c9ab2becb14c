/-! PURE: loading, by the class: the whole -/
theorem c_L64 {b : Sp} (hv : BV b) {τ : Type} {fr : Mem → Int32 → Int32 → Option (Int32 × Mem)} (ke : Int32 → Mem → Option τ) {h : Nat → Int32} (hh : ∀ d, Cd (h d)) {p : List Nat} {x : Nat} (h1 : 1 ≤ x) (h2 : x ≤ nC b)
    (H : ∀ d M o, 1 ≤ d → d ≤ nC b → d ∉ p → CB b M → LI b M o → (∀ y ∈ p, y ∉ o) → ∃ N o', fr M (nI d) (nI (msk p)) = some (if h d = 0 then nI d else h d, N) ∧ Pst b M N o o' p ∧ (h d = 0 → d ∈ o'))
    (H4 : ∀ d M, 1 ≤ d → d ≤ nC b → d ∈ p → fr M (nI d) (nI (msk p)) = some (-4, M)) :
    ∀ r f n c M o, r < f → n + r = 12 → 1 ≤ c → c ≤ 16 → CB b M → LI b M o → (∀ y ∈ p, y ∉ o) → ∃ N o' c', f_Links_loadCode_B_L64 fr (nI x) (nI (msk p)) ke f (nI c) (nI n) M = ke (if fz (sc b h p x) r (n + 1) = 0 then nI c' else fz (sc b h p x) r (n + 1)) N ∧ 1 ≤ c' ∧ c' ≤ 16 ∧ Pst b M N o o' p ∧ (fz (sc b h p x) r (n + 1) = 0 → ∀ s, n + 1 ≤ s → s < 13 → wt b x s ≠ 12 → sp b x s ∈ o') := by
  have h16 := hv.1.1
  have hx := hv.2.2.1 x h1 h2
  intro r
  induction r with
  | zero =>
    intro f n c M o hf hn c1 c2 hc hl hp
    obtain ⟨f, rfl⟩ : ∃ g, f = g + 1 := ⟨f - 1, by omega⟩
    rw [f_Links_loadCode_B_L64, l12, i_le (by omega) (by omega), if_pos (show 12 ≤ n by omega)]
    exact ⟨M, o, c, by rw [show fz (sc b h p x) 0 (n + 1) = 0 from rfl, if_pos rfl], c1, c2, Pst_r hc hl hp, fun _ s s1 s2 => by omega⟩
  | succ r ih =>
    intro f n c M o hf hn c1 c2 hc hl hp
    obtain ⟨f, rfl⟩ : ∃ g, f = g + 1 := ⟨f - 1, by omega⟩
    have hfz : fz (sc b h p x) (r + 1) (n + 1) = if sc b h p x (n + 1) = 0 then fz (sc b h p x) r (n + 1 + 1) else sc b h p x (n + 1) := rfl
    rw [f_Links_loadCode_B_L64, l12, i_le (by omega) (by omega), if_neg (show ¬ 12 ≤ n by omega), if_neg (show ¬ nI c ≤ 0 by rw [l0, n_le (by omega) (by omega)]; omega), gd_n (by omega) (by omega), n_cl (by omega), (hc.2.2.2.1 x h1 h2).2.2.2.2, f_hasBitN (by omega) (by omega), bd1_s, i_hb, show nI n + (1 : Int32) = nI (n + 1) from n_add n 1]
    by_cases t : (b 8 x).testBit n = true
    · have w := (wt_b (x := x) (show n < 12 by omega)).1 t
      rw [if_pos t]
      obtain ⟨N, o', n1, n2, n3⟩ := c_sc hv hh h1 h2 H H4 (s := n + 1) (by omega) (by omega) hc hl hp 1 (by rw [if_neg (by omega)])
      rw [w] at n1
      rw [n1, bd2_s]
      by_cases z : sc b h p x (n + 1) = 0
      · obtain ⟨m1, m2⟩ := n3 z
        have hsp := sp_le hv x (n + 1)
        rw [if_pos z]
        obtain ⟨O, o'', c', k1, k2, k3, k4, k5⟩ := ih f (n + 1) (sp b x (n + 1)) N o' (by omega) (by omega) (by omega) (by omega) n2.1 n2.2.1 n2.2.2.2.1
        rw [hfz, if_pos z]
        refine ⟨O, o'', c', k1, k2, k3, Pst_t n2 k4, fun q s s1 s2 s3 => ?_⟩
        by_cases e : s = n + 1
        · rw [e]; exact k4.2.2.1 _ m2
        · exact k5 q s (by omega) s2 s3
      · rw [if_neg z]
        have zz := Cd_neg (sc_Cd (b := b) hh p x (n + 1)) z
        obtain ⟨f, rfl⟩ : ∃ g, f = g + 1 := ⟨f - 1, by omega⟩
        rw [f_Links_loadCode_B_L64, if_pos zz.2, hfz, if_neg z]
        refine ⟨N, o', 1, ?_, by omega, by omega, n2, fun q => absurd q z⟩
        rw [if_neg z]
        split <;> rfl
    · have w := (wt_b (x := x) (show n < 12 by omega)).2 t
      have z : sc b h p x (n + 1) = 0 := by unfold sc; rw [if_pos w]
      rw [if_neg t]
      obtain ⟨O, o'', c', k1, k2, k3, k4, k5⟩ := ih f (n + 1) c M o (by omega) (by omega) c1 c2 hc hl hp
      rw [hfz, if_pos z]
      refine ⟨O, o'', c', k1, k2, k3, k4, fun q s s1 s2 s3 => ?_⟩
      by_cases e : s = n + 1
      · rw [e] at s3; exact absurd w s3
      · exact k5 q s (by omega) s2 s3
/-- the class is noted as loaded -/
theorem c_fin {b : Sp} (hv : BV b) {M : Mem} {o p : List Nat} {x : Nat} (h1 : 1 ≤ x) (h2 : x ≤ nC b) (hx : x ∉ p) (hg : good b x) (hc : CB b M) (hl : LI b M o) (hp : ∀ y ∈ x :: p, y ∉ o) (hS : ∀ s, s < 13 → wt b x s ≠ 12 → sp b x s ∈ o) : ∃ N, f_Links_noteSupers M (nI x) = some N ∧ Pst b M N o (x :: o) p := by
  obtain ⟨l1', l2', l3', l4', l5', l6'⟩ := id hl
  have h16 := hv.1.1
  have xo : x ∉ o := hp x (List.mem_cons_self ..)
  have pv := PV_cons l4' xo h1 h2
  have len := PV_le hv pv
  rw [List.length_cons] at len
  obtain ⟨N, n1, n2, n3, n4, n5, n6, n7, n8, n9⟩ := c_note hv hc h1 h2 hg (fun s hs hw => ⟨by have := (l4'.2 _ (hS s hs hw)).1; omega, fun q => xo (by have := hS s hs hw; rw [q] at this; exact this), (l5' _ (hS s hs hw)).2.1⟩) l1' (by omega)
  refine ⟨N, n1, CB_k hc n7, ⟨?_, ⟨n4, Ol_c o l2' (fun i hi => n8 i (by omega))⟩, ⟨fun q => ?_, l3'⟩, pv, fun y hy => ?_, fun y y1 y2 y3 => ?_⟩, fun y hy => List.mem_cons_of_mem _ hy, fun y hy q => ?_, n6, n5, fun y y1 y2 => ?_⟩
  · rw [n3, List.length_cons]
  · obtain ⟨w, e⟩ := ab_s q
    rw [e]
    exact hS 0 (by omega) w
  · rcases List.mem_cons.mp hy with e | e
    · subst e
      exact ⟨hg, n2, fun s hs hw => List.mem_cons_of_mem _ (hS s hs hw)⟩
    · obtain ⟨g1, ⟨t1, t2, t3, t4, t5⟩, g3⟩ := l5' y e
      have yv := l4'.2 y e
      obtain ⟨r1, r2, r3, r4, r5⟩ := n9 y (fun q => xo (by rw [← q]; exact e)) (by omega)
      exact ⟨g1, ⟨by rw [r1]; exact t1, by rw [r2]; exact t2, fun i hi => by rw [r5]; exact t3 i hi, by rw [r3]; exact t4, by rw [r4]; exact t5⟩, fun s hs hw => List.mem_cons_of_mem _ (g3 s hs hw)⟩
  · rw [List.mem_cons, not_or] at y3
    rw [(n9 y y3.1 (by omega)).1]
    exact l6' y y1 y2 y3.2
  · rcases List.mem_cons.mp q with e | e
    · rw [e] at hy; exact hx hy
    · exact hp y (List.mem_cons_of_mem _ hy) e
  · rw [List.mem_cons, not_or] at y2
    exact (n9 y y2.1 y1).1
theorem c_lc {b : Sp} (hv : BV b) : ∀ k d p x M o, k + 2 ≤ d → k + p.length = 16 → PV b (x :: p) → CB b M → LI b M o → (∀ y ∈ p, y ∉ o) → ∃ N o', f_Links_loadCode d M (nI x) (nI (msk p)) = some (if lc b k p x = 0 then nI x else lc b k p x, N) ∧ Pst b M N o o' p ∧ (lc b k p x = 0 → x ∈ o') := by
  intro k
  induction k with
  | zero =>
    intro d p x M o _ hk hP
    have := PV_le hv hP
    rw [List.length_cons] at this
    omega
  | succ k ih =>
    intro d p x M o hd hk hP hc hl hp
    obtain ⟨d, rfl⟩ : ∃ e, d = e + 1 := ⟨d - 1, by omega⟩
    have h16 := hv.1.1
    obtain ⟨h1, h2⟩ := hP.2 x (List.mem_cons_self ..)
    have hx := hv.2.2.1 x h1 h2
    have xp : x ∉ p := (List.nodup_cons.mp hP.1).1
    have pp : PV b p := ⟨(List.nodup_cons.mp hP.1).2, fun y hy => hP.2 y (List.mem_cons_of_mem _ hy)⟩
    have mp := msk_lt hv p pp.2
    have mx := msk_lt hv (x :: p) hP.2
    have H : ∀ d' M o, 1 ≤ d' → d' ≤ nC b → d' ∉ x :: p → CB b M → LI b M o → (∀ y ∈ x :: p, y ∉ o) → ∃ N o', f_Links_loadCode d M (nI d') (nI (msk (x :: p))) = some (if lc b k (x :: p) d' = 0 then nI d' else lc b k (x :: p) d', N) ∧ Pst b M N o o' (x :: p) ∧ (lc b k (x :: p) d' = 0 → d' ∈ o') := fun d' M o g1 g2 g3 g4 g5 g6 => ih d (x :: p) d' M o (by omega) (by rw [List.length_cons]; omega) (PV_cons hP g3 g1 g2) g4 g5 g6
    have H4 : ∀ d' M, 1 ≤ d' → d' ≤ nC b → d' ∈ x :: p → f_Links_loadCode d M (nI d') (nI (msk (x :: p))) = some (-4, M) := fun d' M g1 g2 g3 => by
      obtain ⟨d, rfl⟩ : ∃ e, d = e + 1 := ⟨d - 1, by omega⟩
      rw [f_Links_loadCode]
      unfold f_Links_loadCode_B
      rw [f_hasBitN (by omega) (by omega), if_pos ((msk_bit d' (x :: p)).mpr g3), bd1_s, i1]
    have hlc : lc b (k + 1) p x = if sc b (lc b k (x :: p)) (x :: p) x 0 = 0 then fz (sc b (lc b k (x :: p)) (x :: p) x) 12 1 else sc b (lc b k (x :: p)) (x :: p) x 0 := rfl
    obtain ⟨fu, hfu⟩ := FU_s (r := 12) (by omega)
    have hop : (nI (msk p) ||| ((1 : Int32) <<< (nI x &&& 31))) = nI (msk (x :: p)) := by rw [n_shl x (by omega), n_or]; rfl
    have main : ∀ c N o', 1 ≤ c → c ≤ 16 → sc b (lc b k (x :: p)) (x :: p) x 0 = 0 → Pst b M N o o' (x :: p) → (wt b x 0 ≠ 12 → sp b x 0 ∈ o') → ∃ N' o'', f_Links_loadCode_B_b59 (f_Links_loadCode d) N (nI x) (nI (msk (x :: p))) (nI c) = some (if lc b (k + 1) p x = 0 then nI x else lc b (k + 1) p x, N') ∧ Pst b M N' o o'' p ∧ (lc b (k + 1) p x = 0 → x ∈ o'') := by
      intro c N o' c1 c2 z P hs0
      obtain ⟨O, o'', c', k1, k2, k3, k4, k5⟩ := c_L64 hv (fun y5 M8 => f_Links_loadCode_B_b111 (f_Links_loadCode d) M8 (nI x) y5) (fun y => lc_Cd b k (x :: p) y) h1 h2 H H4 12 FU 0 c N o' (by omega) (by omega) c1 c2 P.1 P.2.1 P.2.2.2.1
      have P2 := Pst_t P k4
      simp only [Nat.zero_add] at k1 k5
      unfold f_Links_loadCode_B_b59
      rw [show f_Links_loadCode_B_L64 (f_Links_loadCode d) (nI x) (nI (msk (x :: p))) (fun y5 M8 => f_Links_loadCode_B_b111 (f_Links_loadCode d) M8 (nI x) y5) FU (nI c) (0 : Int32) N = _ from k1]
      unfold f_Links_loadCode_B_b111
      rw [hlc, if_pos z]
      by_cases q : fz (sc b (lc b k (x :: p)) (x :: p) x) 12 1 = 0
      · have gx : good b x := gk_le (lc_gk b (k + 1) p x (by rw [hlc, if_pos z]; exact q)) (by omega)
        have hS : ∀ s, s < 13 → wt b x s ≠ 12 → sp b x s ∈ o'' := fun s s1 s2 => by
          by_cases e : s = 0
          · rw [e] at s2 ⊢; exact k4.2.2.1 _ (hs0 s2)
          · exact k5 q s (by omega) s1 s2
        obtain ⟨N', m1, m2⟩ := c_fin hv h1 h2 xp gx P2.1 P2.2.1 P2.2.2.2.1 hS
        rw [if_pos q, if_pos q, if_pos (show (0 : Int32) ≤ nI c' by rw [l0, n_le (by omega) (by omega)]; omega), m1, bd1_s]
        refine ⟨N', x :: o'', rfl, ?_, fun _ => List.mem_cons_self ..⟩
        obtain ⟨a1, a2, a3, a4, a5, a6, a7⟩ := m2
        obtain ⟨b1, b2, b3, b4, b5, b6, b7⟩ := P2
        exact ⟨a1, a2, fun y hy => a3 y (b3 y hy), a4, by rw [a5, b5], by rw [a6, b6], fun y y1 y2 => by rw [a7 y y1 y2, b7 y y1 (fun q => y2 (a3 y q))]⟩
      · have nn := Cd_neg (fz_Cd (fun s => sc_Cd (b := b) (fun y => lc_Cd b k (x :: p) y) (x :: p) x s) 12 1) q
        rw [if_neg q, if_neg q, if_neg nn.1]
        obtain ⟨b1, b2, b3, b4, b5, b6, b7⟩ := P2
        exact ⟨O, o'', rfl, ⟨b1, b2, b3, fun y hy => b4 y (List.mem_cons_of_mem _ hy), b5, b6, b7⟩, fun w => absurd w q⟩
    rw [f_Links_loadCode]
    unfold f_Links_loadCode_B f_Links_isLoadable
    rw [f_hasBitN (by omega) (by omega), if_neg (fun q => xp ((msk_bit x p).mp q)), bd1_s, i0, gd_n (by omega) (by omega), n_cl (by omega)]
    by_cases xo : x ∈ o
    · obtain ⟨g1, g2, g3⟩ := hl.2.2.2.2.1 x xo
      have z : lc b (k + 1) p x = 0 := lc_S hv (S := fun y => y ∈ o) (fun y hy => (hl.2.2.2.2.1 y hy).2.2) 16 (k + 1) p x g1 xo h1 h2 pp (by omega) (fun y hy w => hp y hy w.1)
      rw [if_pos g2.1, bd1_s, i1, z, if_pos rfl]
      exact ⟨M, o, rfl, Pst_r hc hl hp, fun _ => xo⟩
    · have hpx : ∀ y ∈ x :: p, y ∉ o := fun y hy => by
        rcases List.mem_cons.mp hy with e | e
        · rw [e]; exact xo
        · exact hp y e
      rw [if_neg (hl.2.2.2.2.2 x h1 h2 xo), bd1_s, i0, gd_n (by omega) (by omega), (hc.2.2.2.1 x h1 h2).2.2.2.1, hop, l12, i_eq (by omega) (by omega)]
      by_cases e : b 7 x = 12
      · rw [if_pos e]
        exact main x M o h1 (by omega) (by unfold sc; rw [if_pos (show wt b x 0 = 12 from e)]) (Pst_r hc hl hpx) (fun q => absurd e q)
      · rw [if_neg e]
        obtain ⟨N, o', n1, n2, n3⟩ := c_sc hv (fun y => lc_Cd b k (x :: p) y) h1 h2 H H4 (s := 0) (by omega) e hc hl hpx 0 rfl
        rw [show nI (b 7 x) = nI (wt b x 0) from rfl, n1, bd2_s]
        by_cases z : sc b (lc b k (x :: p)) (x :: p) x 0 = 0
        · rw [if_pos z]
          have hsp := sp_le hv x 0
          obtain ⟨m1, m2⟩ := n3 z
          exact main (sp b x 0) N o' (by omega) (by omega) z n2 (fun _ => m2)
        · have nn := Cd_neg (sc_Cd (b := b) (fun y => lc_Cd b k (x :: p) y) (x :: p) x 0) z
          rw [if_neg z, hlc, if_neg z]
          unfold f_Links_loadCode_B_b59
          rw [hfu, show fu + 1 + 12 = (fu + 12) + 1 by omega, f_Links_loadCode_B_L64, if_neg (show ¬ (12 : Int32) ≤ 0 by decide), if_pos nn.2]
          unfold f_Links_loadCode_B_b111
          rw [if_neg nn.1]
          obtain ⟨b1, b2, b3, b4, b5, b6, b7⟩ := n2
          exact ⟨N, o', by rw [if_neg z], ⟨b1, b2, b3, fun y hy => b4 y (List.mem_cons_of_mem _ hy), b5, b6, b7⟩, fun w => absurd w z⟩
