/-! PURE: the reference: who covers whom: the walk and the table -/
/-- the array holds the list -/
def Ar (M : Mem) (c : Nat) (l : List Nat) : Prop := ∀ t, t < l.length → M.1 c t = nI (l.getD t 0)
theorem Ar_p {M : Mem} {c x : Nat} {l : List Nat} (h : Ar M c l) : Ar (u1 M c l.length (nI x)) c (l ++ [x]) := fun t ht => by
  rw [List.length_append, List.length_singleton] at ht
  rw [u1_eq]
  by_cases e : t = l.length
  · rw [if_pos e, e]
    simp
  · rw [if_neg e, h t (by omega)]
    congr 1
    simp only [List.getD_eq_getElem?_getD]
    rw [List.getElem?_append_left (by omega)]
theorem r_walk {b : Sp} (hv : BV b) {m o : Nat} (hm : mr b m) (ho : mr b o) (m1 : b 10 m = 1) {τ : Type} (ke ke' : Int32 → Mem → Option τ) : ∀ (l : List Nat) (x : Nat) (acc : List Nat) (M : Mem) (f : Nat), ch b 16 x = l → good b x → 1 ≤ x → x ≤ nC b → b 9 o ∈ l → l.length < f → acc.length + l.length ≤ 20 → RB b M → RP b M → Ar M 27 acc → ∃ N, f_LinkAuditModel_covers_L82 (nI m) (nI o) ke ke' f (nI acc.length) (nI x) M = ke (nI (acc ++ vs b m (pr (b 9 o) l)).length) N ∧ Ar N 27 (acc ++ vs b m (pr (b 9 o) l)) ∧ Lq M N := by
  have h16 := hv.1.1
  obtain ⟨m40, q1, q2, q3, q4, q5, q6, q7⟩ := m_lt hv hm
  obtain ⟨o40, w1, w2, -⟩ := m_lt hv ho
  intro l
  induction l with
  | nil => intro x acc M f he g _ _ h; cases h
  | cons y l ih =>
    intro x acc M f he g x1 x2 hin hf hl hr hp ha
    rw [List.length_cons] at hf hl
    obtain ⟨f, rfl⟩ : ∃ g, f = g + 1 := ⟨f - 1, by omega⟩
    have hlk := lk_le hv x 1 (b 11 m) (b 12 m) (b 13 m)
    obtain ⟨ea, e2⟩ := ch_ab hv x1 x2 g
    have ex : y = x := by
      rw [(tab_16 g).1] at he
      exact (List.cons.inj he).1.symm
    subst ex
    -- from b139 on
    have tail : ∀ (acc' : List Nat) (M' : Mem), acc'.length + l.length ≤ 20 → Lq M M' → Ar M' 27 acc' → ∃ N, f_LinkAuditModel_covers_b139 M' (nI m) (nI o) (nI acc'.length) (nI y) (f_LinkAuditModel_covers_L82 (nI m) (nI o) ke ke' f) ke ke' = ke (nI (acc' ++ vs b m (if y = b 9 o then [] else pr (b 9 o) l)).length) N ∧ Ar N 27 (acc' ++ vs b m (if y = b 9 o then [] else pr (b 9 o) l)) ∧ Lq M N := by
      intro acc' M' hl' lo ha'
      have hr' := RB_Lo hr (Lq_16 lo)
      have hp' := RP_Lo hp lo
      unfold f_LinkAuditModel_covers_b139
      rw [gd_n (by omega) (by omega), n_cl (by omega), hr'.2.2.2 9 (by omega) (by omega), i_eq (by omega) (by omega)]
      by_cases z : y = b 9 o
      · rw [if_pos z, if_pos z]
        show ∃ N, _ = ke (nI (acc' ++ []).length) N ∧ Ar N 27 (acc' ++ []) ∧ _
        rw [List.append_nil]
        exact ⟨M', rfl, ha', lo⟩
      · rw [if_neg z, if_neg z, gd_n (by omega) (by omega), n_cl (by omega), (hp'.1 y x1 x2).2.1, ea]
        have hin' : b 9 o ∈ l := by
          rcases List.mem_cons.mp hin with r | r
          · exact absurd r.symm z
          · exact r
        rcases e2 with ⟨a0, a1⟩ | ⟨a0, a1, a2, a3, a4⟩
        · rw [a1] at he
          rw [← (List.cons.inj he).2] at hin'
          cases hin'
        · rw [a1] at he
          obtain ⟨N, n1, n2, n3⟩ := ih (ab b y) acc' M' f (List.cons.inj he).2 a2 a3 a4 hin' (by omega) hl' hr' hp' ha'
          exact ⟨N, n1, n2, Lq_t lo n3⟩
    rw [f_LinkAuditModel_covers_L82, i_le0 (by omega), if_neg (show ¬ y = 0 by omega)]
    simp (disch := omega) only [gd_n, n_cl]
    rw [hr.2.2.2 11 (by omega) (by omega), hr.2.2.2 12 (by omega) (by omega), hr.2.2.2 13 (by omega) (by omega), show (1 : Int32) = nI 1 from rfl, r_om hv hr (by omega) (by omega) (by omega) (by omega) (by omega), bd1_s, i_le0 (by omega)]
    have evs : vs b m (pr (b 9 o) (y :: l)) = if vm b m y = 0 then vs b m (if y = b 9 o then [] else pr (b 9 o) l) else vm b m y :: vs b m (if y = b 9 o then [] else pr (b 9 o) l) := rfl
    by_cases z : lk b y 1 (b 11 m) (b 12 m) (b 13 m) = 0
    · have v0 : vm b m y = 0 := by
        unfold vm
        rw [z]
        split <;> rfl
      rw [if_pos z, evs, if_pos v0]
      exact tail acc M (by omega) (Lq_r M) ha
    · obtain ⟨k1, k2, k3, k4, k5⟩ := lk_at z
      rw [if_neg z, r_hid hv hr ⟨k1, k2⟩, bd1_s, i_hb]
      by_cases hh : hd b (lk b y 1 (b 11 m) (b 12 m) (b 13 m))
      · have v0 : vm b m y = 0 := by
          unfold vm
          exact if_neg (fun q => ((hd_v k4).mpr q) hh)
        rw [if_pos hh, evs, if_pos v0]
        exact tail acc M (by omega) (Lq_r M) ha
      · have v0 : vm b m y = lk b y 1 (b 11 m) (b 12 m) (b 13 m) := by
          unfold vm
          exact if_pos ((hd_v k4).mp hh)
        have vne : vm b m y ≠ 0 := by rw [v0]; exact z
        rw [if_neg hh, evs, if_neg vne, sm_s, ← v0, show nI acc.length + nI 1 = nI (acc ++ [vm b m y]).length by rw [n_add, List.length_append]; rfl]
        obtain ⟨N, n1, n2, n3⟩ := tail (acc ++ [vm b m y]) (u1 M 27 acc.length (nI (vm b m y))) (by rw [List.length_append, List.length_singleton]; omega) (Lq_u (Lq_r M) (by omega)) (Ar_p ha)
        rw [List.append_assoc] at n1 n2
        exact ⟨N, n1, n2, n3⟩
/-- the entry of the table is right -/
def En (b : Sp) (M : Mem) (L : List Nat) (i j : Nat) : Prop := (M.1 26 (20 * i + j) = 1 ∧ Cv b (L.getD i 0) (L.getD j 0)) ∨ (M.1 26 (20 * i + j) = 0 ∧ ¬ Cv b (L.getD i 0) (L.getD j 0))
theorem r_jw_L {b : Sp} {L : List Nat} (hL : L.length ≤ 16) {M : Mem} {τ : Type} (ke : Int32 → Option τ) {i j : Nat} (hij : i < j) (hj : j < L.length) (hE : ∀ k, i < k → k < j → En b M L i k ∧ En b M L k j) : ∀ r f k v, r < f → k + r = j → i < k → (v = 0 ∨ v = 1) → ∃ w : Int32, f_LinkAuditModel_joinWay_L22 M (nI i) (nI j) ke f v (nI k) = ke w ∧ (w = 0 ∨ w = 1) ∧ (w = 1 ↔ v = 1 ∨ ∃ t, k ≤ t ∧ t < j ∧ Cv b (L.getD i 0) (L.getD t 0) ∧ Cv b (L.getD t 0) (L.getD j 0)) := by
  intro r
  induction r with
  | zero =>
    intro f k v hf hk hik hv'
    obtain ⟨f, rfl⟩ : ∃ g, f = g + 1 := ⟨f - 1, by omega⟩
    rw [f_LinkAuditModel_joinWay_L22, i_le (by omega) (by omega), if_pos (by omega)]
    exact ⟨v, rfl, hv', ⟨Or.inl, fun q => q.elim id (fun ⟨t, t1, t2, _⟩ => by omega)⟩⟩
  | succ r ih =>
    intro f k v hf hk hik hv'
    obtain ⟨f, rfl⟩ : ∃ g, f = g + 1 := ⟨f - 1, by omega⟩
    obtain ⟨e1, e2⟩ := hE k hik (by omega)
    rw [f_LinkAuditModel_joinWay_L22, i_le (by omega) (by omega), if_neg (by omega), l20, n_mul, n_mul, n_add, n_add, gd_n (by omega) (by omega), gd_n (by omega) (by omega), n_cl (by omega), n_cl (by omega), show nI k + (1 : Int32) = nI (k + 1) from n_add k 1]
    have skip : ¬ (Cv b (L.getD i 0) (L.getD k 0) ∧ Cv b (L.getD k 0) (L.getD j 0)) → ∃ w : Int32, f_LinkAuditModel_joinWay_L22 M (nI i) (nI j) ke f v (nI (k + 1)) = ke w ∧ (w = 0 ∨ w = 1) ∧ (w = 1 ↔ v = 1 ∨ ∃ t, k ≤ t ∧ t < j ∧ Cv b (L.getD i 0) (L.getD t 0) ∧ Cv b (L.getD t 0) (L.getD j 0)) := fun no => by
      obtain ⟨w, w1, w2, w3⟩ := ih f (k + 1) v (by omega) (by omega) (by omega) hv'
      refine ⟨w, w1, w2, w3.trans ⟨fun q => q.imp id (fun ⟨t, t1, t2⟩ => ⟨t, by omega, t2⟩), fun q => q.imp id (fun ⟨t, t1, t2, t3⟩ => ⟨t, ?_, t2, t3⟩)⟩⟩
      by_cases e : t = k
      · rw [e] at t3; exact absurd t3 no
      · omega
    rcases e1 with ⟨p1, p2⟩ | ⟨p1, p2⟩
    · rw [p1, i1]
      rcases e2 with ⟨r1, r2⟩ | ⟨r1, r2⟩
      · rw [r1, i1]
        obtain ⟨w, w1, w2, w3⟩ := ih f (k + 1) 1 (by omega) (by omega) (by omega) (Or.inr rfl)
        exact ⟨w, w1, w2, w3.trans ⟨fun _ => Or.inr ⟨k, Nat.le_refl k, by omega, p2, r2⟩, fun _ => Or.inl rfl⟩⟩
      · rw [r1, i0]
        exact skip (fun q => r2 q.2)
    · rw [p1, i0]
      exact skip (fun q => p2 q.1)
theorem r_jw {b : Sp} (hv : BV b) {L : List Nat} (hL : L.length ≤ 16) (hmr : ∀ z ∈ L, mr b z) (hO : ∀ i j, i < j → j < L.length → (On1 b (L.getD i 0) (L.getD j 0) → Rc b (L.getD i 0) (L.getD j 0))) (hB : ∀ i j z, i < j → j < L.length → Rc b (L.getD i 0) z → Cv b z (L.getD j 0) → ∃ k, i < k ∧ k < j ∧ L.getD k 0 = z) {M : Mem} (hr : RB b M) (ha : Ar M 27 L) {i j : Nat} (hij : i < j) (hj : j < L.length) (hE : ∀ k, i < k → k < j → En b M L i k ∧ En b M L k j) : ∃ w : Int32, f_LinkAuditModel_joinWay M (nI i) (nI j) = some (u1 M 26 (20 * i + j) w) ∧ En b (u1 M 26 (20 * i + j) w) L i j := by
  have mi : L.getD i 0 ∈ L := by
    rw [List.getD_eq_getElem?_getD, List.getElem?_eq_getElem (show i < L.length by omega)]
    exact List.getElem_mem _
  have mj : L.getD j 0 ∈ L := by
    rw [List.getD_eq_getElem?_getD, List.getElem?_eq_getElem hj]
    exact List.getElem_mem _
  obtain ⟨fu, hfu⟩ := FU_s (r := j) (by omega)
  unfold f_LinkAuditModel_joinWay
  rw [gd_n (by omega) (by omega), gd_n (by omega) (by omega), n_cl (by omega), n_cl (by omega), ha i (by omega), ha j hj, r_once hv hr (hmr _ mi) (hmr _ mj), bd1_s, l20, n_mul, n_add, show nI i + (1 : Int32) = nI (i + 1) from n_add i 1]
  simp (disch := omega) only [gd_n, n_cl]
  obtain ⟨w, w1, w2, w3⟩ := r_jw_L hL (fun y3 => gd (decide (y3 = 0 ∨ y3 = 1)) (sm (u1 M 26 (20 * i + j) y3) (fun M2 => some M2))) hij hj hE (j - (i + 1)) FU (i + 1) (if On1 b (L.getD i 0) (L.getD j 0) then 1 else 0) (by omega) (by omega) (by omega) (by split; exact Or.inr rfl; exact Or.inl rfl)
  refine ⟨w, ?_, ?_⟩
  · rw [w1, gd_p w2, sm_s]
  · have key : w = 1 ↔ Cv b (L.getD i 0) (L.getD j 0) := by
      rw [w3]
      constructor
      · rintro (q | ⟨t, t1, t2, t3, t4⟩)
        · by_cases o : On1 b (L.getD i 0) (L.getD j 0)
          · exact Cv_1 (hO i j hij hj o)
          · rw [if_neg o] at q; exact absurd q (by decide)
        · exact Cv_t t3 t4
      · intro q
        rcases Cv_c q with r | ⟨z, r1, r2⟩
        · refine Or.inl (if_pos ((On1_c hv (hmr _ mi) (hmr _ mj)).mpr ⟨r.2.2.1, r.2.2.2.1, r.2.2.2.2.1, r.2.2.2.2.2.2⟩))
        · obtain ⟨k, k1, k2, k3⟩ := hB i j z hij hj r1 r2
          exact Or.inr ⟨k, by omega, k2, by rw [k3]; exact Cv_1 r1, by rw [k3]; exact r2⟩
    unfold En
    rw [u1_eq, if_pos rfl]
    rcases w2 with e | e
    · refine Or.inr ⟨e, fun q => ?_⟩
      rw [key.mpr q] at e; exact absurd e (by decide)
    · exact Or.inl ⟨e, key.mp e⟩
theorem r_177 {b : Sp} (hv : BV b) {L : List Nat} (hL : L.length ≤ 16) (hmr : ∀ z ∈ L, mr b z) (hO : ∀ i j, i < j → j < L.length → (On1 b (L.getD i 0) (L.getD j 0) → Rc b (L.getD i 0) (L.getD j 0))) (hB : ∀ i j z, i < j → j < L.length → Rc b (L.getD i 0) z → Cv b z (L.getD j 0) → ∃ k, i < k ∧ k < j ∧ L.getD k 0 = z) {τ : Type} (ke : Mem → Option τ) {d : Nat} (hd1 : 1 ≤ d) : ∀ r f i M, r < f → i + d + r = L.length → RB b M → Ar M 27 L → (∀ i' j', i' < j' → j' < L.length → (j' - i' < d ∨ (j' - i' = d ∧ i' < i)) → En b M L i' j') → ∃ N, f_LinkAuditModel_covers_L177 (nI L.length) (nI d) ke f (nI i) M = ke N ∧ Lq M N ∧ Ar N 27 L ∧ ∀ i' j', i' < j' → j' < L.length → j' - i' ≤ d → En b N L i' j' := by
  intro r
  induction r with
  | zero =>
    intro f i M hf hi hr ha hE
    obtain ⟨f, rfl⟩ : ∃ g, f = g + 1 := ⟨f - 1, by omega⟩
    rw [f_LinkAuditModel_covers_L177, n_add, i_le (by omega) (by omega), if_pos (by omega)]
    exact ⟨M, rfl, Lq_r M, ha, fun i' j' h1 h2 h3 => hE i' j' h1 h2 (by omega)⟩
  | succ r ih =>
    intro f i M hf hi hr ha hE
    obtain ⟨f, rfl⟩ : ∃ g, f = g + 1 := ⟨f - 1, by omega⟩
    rw [f_LinkAuditModel_covers_L177, n_add, i_le (by omega) (by omega), if_neg (by omega)]
    obtain ⟨w, w1, w2⟩ := r_jw hv hL hmr hO hB hr ha (show i < i + d by omega) (by omega) (fun k k1 k2 => ⟨hE i k k1 (by omega) (by omega), hE k (i + d) k2 (by omega) (by omega)⟩)
    rw [w1, bd1_s, show nI i + (1 : Int32) = nI (i + 1) from n_add i 1]
    have lo : Lq M (u1 M 26 (20 * i + (i + d)) w) := Lq_u (Lq_r M) (by omega)
    obtain ⟨N, n1, n2, n3, n4⟩ := ih f (i + 1) _ (by omega) (by omega) (RB_Lo hr (Lq_16 lo)) (fun t ht => by rw [u1_ne (by omega)]; exact ha t ht) (fun i' j' h1 h2 h3 => by
      by_cases e : i' = i ∧ j' = i + d
      · rw [e.1, e.2]; exact w2
      · have old := hE i' j' h1 h2 (by omega)
        unfold En at old ⊢
        rw [u1_eq, if_neg (by omega)]
        exact old)
    exact ⟨N, n1, Lq_t lo n2, n3, n4⟩
theorem r_168 {b : Sp} (hv : BV b) {L : List Nat} (hL : L.length ≤ 16) (hmr : ∀ z ∈ L, mr b z) (hO : ∀ i j, i < j → j < L.length → (On1 b (L.getD i 0) (L.getD j 0) → Rc b (L.getD i 0) (L.getD j 0))) (hB : ∀ i j z, i < j → j < L.length → Rc b (L.getD i 0) z → Cv b z (L.getD j 0) → ∃ k, i < k ∧ k < j ∧ L.getD k 0 = z) {τ : Type} (ke : Mem → Option τ) : ∀ r f d M, r < f → d + r = L.length → 1 ≤ d → RB b M → Ar M 27 L → (∀ i' j', i' < j' → j' < L.length → j' - i' < d → En b M L i' j') → ∃ N, f_LinkAuditModel_covers_L168 (nI L.length) ke f (nI d) M = ke N ∧ Lq M N ∧ ∀ i' j', i' < j' → j' < L.length → En b N L i' j' := by
  obtain ⟨fu, hfu⟩ := FU_s (r := 20) (by omega)
  intro r
  induction r with
  | zero =>
    intro f d M hf hd h1 hr ha hE
    obtain ⟨f, rfl⟩ : ∃ g, f = g + 1 := ⟨f - 1, by omega⟩
    rw [f_LinkAuditModel_covers_L168, i_le (by omega) (by omega), if_pos (by omega)]
    exact ⟨M, rfl, Lq_r M, fun i' j' h1 h2 => hE i' j' h1 h2 (by omega)⟩
  | succ r ih =>
    intro f d M hf hd h1 hr ha hE
    obtain ⟨f, rfl⟩ : ∃ g, f = g + 1 := ⟨f - 1, by omega⟩
    rw [f_LinkAuditModel_covers_L168, i_le (by omega) (by omega), if_neg (by omega), show nI d + (1 : Int32) = nI (d + 1) from n_add d 1]
    obtain ⟨N, n1, n2, n3, n4⟩ := r_177 hv hL hmr hO hB (fun M11 => f_LinkAuditModel_covers_L168 (nI L.length) ke f (nI (d + 1)) M11) h1 (L.length - d) FU 0 M (by omega) (by omega) hr ha (fun i' j' h1 h2 h3 => hE i' j' h1 h2 (by omega))
    rw [show (0 : Int32) = nI 0 from rfl, n1]
    obtain ⟨O, o1, o2, o3⟩ := ih f (d + 1) N (by omega) (by omega) (by omega) (RB_Lo hr (Lq_16 n2)) n3 (fun i' j' h1 h2 h3 => n4 i' j' h1 h2 (by omega))
    exact ⟨O, o1, Lq_t n2 o2, o3⟩
