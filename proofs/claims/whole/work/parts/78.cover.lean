/-! PURE: sets of members as longs; the class's coveredAbove -/
def Bs (x : Int64) (P : Nat → Prop) : Prop := ∀ i, i < 64 → (tb x i = true ↔ P i)
theorem Bs_and {x y : Int64} {P Q : Nat → Prop} (h : Bs x P) (g : Bs y Q) : Bs (x &&& y) (fun i => P i ∧ Q i) := fun i hi => by
  rw [tb_and, Bool.and_eq_true, h i hi, g i hi]
theorem Bs_or {x y : Int64} {P Q : Nat → Prop} (h : Bs x P) (g : Bs y Q) : Bs (x ||| y) (fun i => P i ∨ Q i) := fun i hi => by
  rw [tb_or, Bool.or_eq_true, h i hi, g i hi]
theorem Bs_c {x : Int64} {P Q : Nat → Prop} (h : Bs x P) (e : ∀ i, i < 64 → (P i ↔ Q i)) : Bs x Q := fun i hi => (h i hi).trans (e i hi)
theorem Bs_0 {P : Nat → Prop} (h : ∀ i, i < 64 → ¬ P i) : Bs 0 P := fun i hi => by
  rw [tb_0]
  exact ⟨fun q => (by cases q), fun q => absurd q (h i hi)⟩
theorem Bs_z {x : Int64} {P : Nat → Prop} (h : Bs x P) : x = 0 ↔ ∀ i, i < 64 → ¬ P i := by
  rw [tb_z]
  refine ⟨fun q i hi z => ?_, fun q i hi => ?_⟩
  · have := (h i hi).mpr z
    rw [q i hi] at this; cases this
  · cases e : tb x i
    · rfl
    · exact absurd ((h i hi).mp e) (q i hi)
/-- x is empty (k = 0), or k is its one element -/
def On (x : Int64) (k : Nat) : Prop := k < 64 ∧ Bs x (fun i => i = k ∧ k ≠ 0)
theorem On_if {x : Int64} {k : Nat} (h : On x k) {α : Type} {p q : α} : (if lg_cmp x 0 = 0 then p else q) = if k = 0 then p else q := by
  refine i_cg ?_
  rw [cmp0, Bs_z h.2]
  exact ⟨fun z => Decidable.byContradiction (fun n => z k h.1 ⟨rfl, n⟩), fun z i _ q => q.2 z⟩
theorem On_low {x : Int64} {k : Nat} (h : On x k) (h0 : k ≠ 0) : f_LinkAudit_lowestBit x = some (nI k) := by
  refine f_low x h.1 ((h.2 k h.1).mpr ⟨rfl, h0⟩) (fun j hj => ?_)
  cases e : tb x j
  · rfl
  · exact absurd ((h.2 j (by have := h.1; omega)).mp e).1 (by omega)
abbrev vt (b : Sp) (m : Nat) : Prop := b 10 m = 1 ∧ b 14 m &&& 3 ≠ 3 ∧ b 14 m &&& 4 = 0
/-- the virtual member of x that is like m; 0: none -/
def vm (b : Sp) (m x : Nat) : Nat := if vt b (lk b x 1 (b 11 m) (b 12 m) (b 13 m)) then lk b x 1 (b 11 m) (b 12 m) (b 13 m) else 0
theorem lk_le {b : Sp} (hv : BV b) (c k n f s : Nat) : lk b c k n f s ≤ 40 := by
  have h40 := hv.1.2.1
  by_cases h : lk b c k n f s = 0
  · omega
  · have := (lk_at h).2.1; omega
theorem lk_un {b : Sp} (hv : BV b) {c k n f s m : Nat} (h1 : 1 ≤ m) (h2 : m ≤ nM b) (e : b 9 m = c ∧ b 10 m = k ∧ b 11 m = n ∧ b 12 m = f ∧ b 13 m = s) : lk b c k n f s = m := by
  by_cases h : lk b c k n f s = 0
  · exact absurd e (lk_no h h1 h2)
  · obtain ⟨q1, q2, q3, q4, q5, q6, q7⟩ := lk_at h
    obtain ⟨e1, e2, e3, e4, e5⟩ := e
    exact hv.2.2.2.2.2.1 _ _ q1 q2 h1 h2 (by rw [q3, e1]) ⟨by rw [q4, e2], by rw [q5, e3], by rw [q6, e4], by rw [q7, e5]⟩
theorem vm_le {b : Sp} (hv : BV b) (m x : Nat) : vm b m x ≤ 40 := by
  unfold vm
  split
  · exact lk_le hv ..
  · omega
theorem vm_at {b : Sp} {m x : Nat} (hm : b 10 m = 1) (h : vm b m x ≠ 0) : mr b (vm b m x) ∧ b 9 (vm b m x) = x ∧ likeM b (vm b m x) m ∧ virt b (vm b m x) := by
  unfold vm at h ⊢
  by_cases e : vt b (lk b x 1 (b 11 m) (b 12 m) (b 13 m))
  · rw [if_pos e] at h ⊢
    obtain ⟨q1, q2, q3, q4, q5, q6, q7⟩ := lk_at h
    exact ⟨⟨q1, q2⟩, q3, ⟨by rw [q4, hm], q5, q6, q7⟩, e⟩
  · rw [if_neg e] at h; exact absurd rfl h
theorem vm_un {b : Sp} (hv : BV b) {m x o : Nat} (hm : b 10 m = 1) (h1 : mr b o) (h2 : b 9 o = x) (h3 : likeM b o m) (h4 : virt b o) : vm b m x = o := by
  have e : lk b x 1 (b 11 m) (b 12 m) (b 13 m) = o := lk_un hv h1.1 h1.2 ⟨h2, by rw [h3.1, hm], h3.2.1, h3.2.2.1, h3.2.2.2⟩
  unfold vm
  rw [e]
  exact if_pos h4
theorem m_lt {b : Sp} (hv : BV b) {m : Nat} (h : mr b m) : m ≤ 40 ∧ 1 ≤ b 9 m ∧ b 9 m ≤ nC b ∧ b 10 m < 2 ∧ b 11 m < 4 ∧ b 12 m < 13 ∧ b 13 m < 13 ∧ b 14 m < 16 := ⟨by have := hv.1.2.1; have := h.2; omega, hv.2.2.2.2.1 m h.1 h.2⟩
theorem msig_i {b : Sp} (hv : BV b) {m k n f s : Nat} (h : mr b m) (hn : n < 4) (hf : f < 13) (hs : s < 13) : msig b m = sig k n f s ↔ b 10 m = k ∧ b 11 m = n ∧ b 12 m = f ∧ b 13 m = s := by
  obtain ⟨-, -, -, -, q1, q2, q3, -⟩ := m_lt hv h
  exact sig_inj q1 q2 q3 hn hf hs
theorem On_lk {b : Sp} {M : Mem} (hv : BV b) (hc : CB b M) {y k n f s : Nat} (hy : y ≤ 16) (hn : n < 4) (hf : f < 13) (hs : s < 13) {x : Int64} (hx : Bs x (fun m => 1 ≤ m ∧ m ≤ nM b ∧ msig b m = sig k n f s)) : On (M.2 32 y &&& x) (lk b y k n f s) := by
  refine ⟨by have := lk_le hv y k n f s; omega, Bs_c (Bs_and (hc.2.2.2.2.2.1.1 y hy) hx) (fun i hi => ?_)⟩
  constructor
  · rintro ⟨⟨q1, q2, q3⟩, -, -, q4⟩
    rw [msig_i hv ⟨q1, q2⟩ hn hf hs] at q4
    have := lk_un hv q1 q2 ⟨q3, q4⟩
    rw [this]
    exact ⟨rfl, by omega⟩
  · rintro ⟨rfl, q⟩
    obtain ⟨q1, q2, q3, q4⟩ := lk_at q
    exact ⟨⟨q1, q2, q3⟩, q1, q2, (msig_i hv ⟨q1, q2⟩ hn hf hs).mpr q4⟩
theorem c_like {b : Sp} {M : Mem} (hv : BV b) (hc : CB b M) {m : Nat} (h : mr b m) : ∃ x, f_Selector_likeOnes M (nI m) = some x ∧ Bs x (fun o => mr b o ∧ likeM b o m ∧ virt b o) := by
  obtain ⟨m40, m1, m2, m3, m4, m5, m6, m7⟩ := m_lt hv h
  have hs := sig_lt m3 m4 m5 m6
  obtain ⟨y, y1, y2⟩ := c_withSig hv hc (g := msig b m) (show sig _ _ _ _ < 2000 by omega)
  unfold f_Selector_likeOnes
  rw [gd_n (by omega) (by omega), n_cl (by omega), (hc.2.2.2.2.1 m h.1 h.2).2.1]
  show ∃ x, bd1 (f_Members_withSignature M (nI (msig b m))) _ = some x ∧ _
  rw [y2, bd1_s]
  refine ⟨_, rfl, Bs_c (Bs_and y1 hc.2.2.2.2.2.1.2.1) (fun i hi => ?_)⟩
  constructor
  · rintro ⟨⟨q1, q2, q3⟩, -, -, q4⟩
    exact ⟨⟨q1, q2⟩, (msig_i hv ⟨q1, q2⟩ m4 m5 m6).mp q3, q4⟩
  · rintro ⟨q1, q2, q3⟩
    exact ⟨⟨q1.1, q1.2, (msig_i hv q1 m4 m5 m6).mpr q2⟩, q1.1, q1.2, q3⟩
theorem On_vm {b : Sp} {M : Mem} (hv : BV b) (hc : CB b M) {m y : Nat} (hm : b 10 m = 1) (hy : y ≤ 16) {x : Int64} (hx : Bs x (fun o => mr b o ∧ likeM b o m ∧ virt b o)) : On (M.2 32 y &&& x) (vm b m y) := by
  refine ⟨by have := vm_le hv m y; omega, Bs_c (Bs_and (hc.2.2.2.2.2.1.1 y hy) hx) (fun i hi => ?_)⟩
  constructor
  · rintro ⟨⟨q1, q2, q3⟩, -, q5, q6⟩
    have := vm_un hv hm ⟨q1, q2⟩ q3 q5 q6
    rw [this]
    exact ⟨rfl, by omega⟩
  · rintro ⟨rfl, q⟩
    obtain ⟨q1, q2, q3, q4⟩ := vm_at hm q
    exact ⟨⟨q1.1, q1.2, q2⟩, q1, q3, q4⟩
theorem a3_lt (g : Nat) : g &&& 3 < 4 := Nat.lt_of_le_of_lt Nat.and_le_right (by omega)
theorem c_acc {b : Sp} {M : Mem} (hv : BV b) (hc : CB b M) {m : Nat} (h : mr b m) : f_Members_access M (nI m) = some (nI (b 14 m &&& 3)) := by
  obtain ⟨m40, -⟩ := m_lt hv h
  unfold f_Members_access
  rw [gd_n (by omega) (by omega), n_cl (by omega), (hc.2.2.2.2.1 m h.1 h.2).2.2, l3, n_and]
theorem c_once {b : Sp} {M : Mem} (hv : BV b) (hc : CB b M) {m o : Nat} (h : mr b m) (g : mr b o) : f_Selector_coversAtOnce M (nI m) (nI o) = some (if once b m o then 1 else 0) := by
  obtain ⟨m40, m1, m2, -⟩ := m_lt hv h
  obtain ⟨o40, o1, o2, -⟩ := m_lt hv g
  have a := a3_lt (b 14 o)
  unfold f_Selector_coversAtOnce
  rw [c_acc hv hc g, bd1_s, l2, i_eq (by omega) (by omega)]
  by_cases e : b 14 o &&& 3 = 2
  · rw [if_pos e, gd_n (by omega) (by omega), gd_n (by omega) (by omega), n_cl (by omega), n_cl (by omega), (hc.2.2.2.2.1 m h.1 h.2).1, (hc.2.2.2.2.1 o g.1 g.2).1, c_nb hv hc m1 m2 o1 o2, bd1_s, i_hb]
    by_cases z : nb b (b 9 m) (b 9 o)
    · rw [if_pos z, if_pos (Or.inr z)]
    · rw [if_neg z, if_neg (fun q => q.elim (fun w => w e) z)]
  · rw [if_neg e, if_pos (Or.inl e)]
/-- what a method of class x covers: the loop along the chain -/
theorem c_cov_L {b : Sp} {M : Mem} (hv : BV b) (hc : CB b M) {τ : Type} (ke : Int64 → Option τ) {m : Nat} (hm : mr b m) (vm' : virt b m) (g : good b (b 9 m)) (ht : LT b M (b 9 m)) {x3 : Int64} (h3 : Bs x3 (fun o => mr b o ∧ likeM b o m ∧ virt b o)) (h60 : ∀ z, mr b z → virt b z → (pm b 16 (b 9 m)).testBit (b 9 z) = true → Bs (M.2 60 z) (Cv b z)) : ∀ suf pre f x5 x7, suf.length < f → ch b 16 (b 9 m) = pre ++ suf → pre ≠ [] → Bs x5 (fun o => Cv b m o ∧ b 9 o ∈ pre) → Bs x7 (fun o => ∃ z, Cv b m z ∧ b 9 z ∈ pre ∧ Cv b z o) → ∃ y, f_Selector_coveredFrom_L15 M (nI (b 9 m)) (nI m) x3 ke f x5 x7 (nI pre.length) = ke y ∧ Bs y (Cv b m) := by
  have h16 := hv.1.1
  have hlen := ch_le b 16 (b 9 m)
  obtain ⟨m40, m1, m2, -⟩ := m_lt hv hm
  obtain ⟨t1, t2, t3, t4, t5⟩ := ht
  have pw := ch_pw hv 16 _ g g
  intro suf
  induction suf with
  | nil =>
    intro pre f x5 x7 hf he hp h5 h7
    obtain ⟨f, rfl⟩ : ∃ g, f = g + 1 := ⟨f - 1, by omega⟩
    rw [List.append_nil] at he
    rw [he] at hlen
    rw [f_Selector_coveredFrom_L15, gd_n (by omega) (by omega), n_cl (by omega), t2, he, i_le (by omega) (by omega), if_pos (Nat.le_refl _)]
    refine ⟨x5, rfl, Bs_c h5 (fun o _ => ⟨fun q => q.1, fun q => ⟨q, ?_⟩⟩)⟩
    rw [← he]
    exact (ch_mem hv g).mpr (Or.inr (Cv_a hv g q).2.2.2.2.2)
  | cons y suf ih =>
    intro pre f x5 x7 hf he hp h5 h7
    obtain ⟨f, rfl⟩ : ∃ g, f = g + 1 := ⟨f - 1, by rw [List.length_cons] at hf; omega⟩
    rw [List.length_cons] at hf
    have hl : (ch b 16 (b 9 m)).length = pre.length + (suf.length + 1) := by rw [he, List.length_append, List.length_cons]
    have ey : (ch b 16 (b 9 m)).getD pre.length 0 = y := by rw [he]; simp
    have ym : y ∈ ch b 16 (b 9 m) := by rw [he]; exact List.mem_append_right _ (List.mem_cons_self ..)
    obtain ⟨gy, y1, y2⟩ := ch_in hv g m1 m2 ym
    have he' : ch b 16 (b 9 m) = (pre ++ [y]) ++ suf := by rw [he, List.append_assoc]; rfl
    have hp' : pre ++ [y] ≠ [] := by simp
    have hlp : (pre ++ [y]).length = pre.length + 1 := by simp
    have on := On_vm hv hc (y := y) vm'.1 (by omega) h3
    have vle := vm_le hv m y
    -- who lies between lies before
    have before : ∀ z, Rc b m z → ∀ o, b 9 o = y → Cv b z o → b 9 z ∈ pre := by
      intro z rz o ho cz
      have gz := pm_in hv g rz.2.2.2.2.2.1
      have a := (Cv_a hv gz.1 cz).2.2.2.2.2
      rw [ho] at a
      have zm := (ch_mem hv g).mpr (Or.inr rz.2.2.2.2.2.1)
      rw [he] at zm pw
      rcases List.mem_append.mp zm with q | q
      · exact q
      · rcases List.mem_cons.mp q with q | q
        · rw [q] at a; exact absurd a (pm_ir hv gy)
        · have := (List.pairwise_append.mp pw).2.1
          rw [List.pairwise_cons] at this
          exact absurd (pm_t hv gy (this.1 _ q) a) (pm_ir hv gy)
    rw [f_Selector_coveredFrom_L15, gd_n (by omega) (by omega), n_cl (by omega), t2, i_le (by omega) (by omega), if_neg (by omega), gd_n (by omega) (by omega), gd_n (by omega) (by omega), n_cl (by omega), t3 _ (by omega), ey, gd_n (by omega) (by omega), n_cl (by omega), On_if on, show nI pre.length + (1 : Int32) = nI (pre.length + 1) from n_add _ 1, ← hlp]
    by_cases e : vm b m y = 0
    · rw [if_pos e]
      have none : ∀ o, Cv b m o → b 9 o = y → False := fun o co ho => by
        obtain ⟨q1, q2, q3, q4, q5, q6⟩ := Cv_a hv g co
        have := vm_un hv vm'.1 q2 ho (like_s q3) q5
        have := q2.1
        omega
      refine ih (pre ++ [y]) f x5 x7 (by omega) he' hp' (Bs_c h5 (fun o _ => ⟨fun q => ⟨q.1, List.mem_append_left _ q.2⟩, fun q => ⟨q.1, ?_⟩⟩)) (Bs_c h7 (fun o _ => ⟨fun ⟨z, q1, q2, q3⟩ => ⟨z, q1, List.mem_append_left _ q2, q3⟩, fun ⟨z, q1, q2, q3⟩ => ⟨z, q1, ?_, q3⟩⟩))
      · rcases List.mem_append.mp q.2 with r | r
        · exact r
        · exact (none o q.1 (List.mem_singleton.mp r)).elim
      · rcases List.mem_append.mp q2 with r | r
        · exact r
        · exact (none z q1 (List.mem_singleton.mp r)).elim
    · obtain ⟨o1, o2, o3, o4⟩ := vm_at vm'.1 e
      have onl := On_low on e
      have on' := on
      rw [if_neg e, onl, bd1_s, c_once hv hc hm o1, bd1_s, i_hb, f_hasBit _ on.1, bd1_s, i_hb]
      generalize hz : vm b m y = o at *
      have po : (pm b 16 (b 9 m)).testBit (b 9 o) = true := by
        rcases (ch_mem hv g).mp ym with q | q
        · -- y would be the first
          cases pre with
          | nil => exact absurd rfl hp
          | cons a pre =>
            have ea : a = b 9 m := by
              have t := (tab_16 g).1
              rw [t] at he
              exact (List.cons.inj he).1.symm
            rw [he] at pw
            have := (List.pairwise_append.mp pw).2.2 a (List.mem_cons_self ..) y (List.mem_cons_self ..)
            rw [ea, q] at this
            exact absurd this (pm_ir hv g)
        · rw [o2]; exact q
      have key : (once b m o ∨ tb x7 o = true) ↔ Cv b m o := by
        rw [h7 o on.1]
        constructor
        · rintro (q | ⟨z, q1, q2, q3⟩)
          · exact Cv_1 ⟨hm, o1, like_s o3, vm', o4, po, q⟩
          · exact Cv_t q1 q3
        · intro q
          rcases Cv_c q with q | ⟨z, q1, q2⟩
          · exact Or.inl q.2.2.2.2.2.2
          · exact Or.inr ⟨z, Cv_1 q1, before z q1 o o2 q2, q2⟩
      have uni : ∀ z, Cv b m z → b 9 z = y → z = o := fun z cz hzy => by
        obtain ⟨q1, q2, q3, q4, q5, q6⟩ := Cv_a hv g cz
        have := vm_un hv vm'.1 q2 hzy (like_s q3) q5
        omega
      have yes : Cv b m o → ∃ Y, f_Selector_coveredFrom_b87 M (nI (b 9 m)) (nI m) x3 x5 x7 (nI pre.length) (M.2 32 y &&& x3) (nI o) (f_Selector_coveredFrom_L15 M (nI (b 9 m)) (nI m) x3 ke f) ke = ke Y ∧ Bs Y (Cv b m) := by
        intro co
        unfold f_Selector_coveredFrom_b87
        rw [gd_n (by omega) (by omega), n_cl (by omega), show nI pre.length + (1 : Int32) = nI (pre.length + 1) from n_add _ 1, ← hlp]
        refine ih (pre ++ [y]) f _ _ (by omega) he' hp' (Bs_c (Bs_or h5 on.2) (fun i _ => ?_)) (Bs_c (Bs_or h7 (h60 o o1 o4 po)) (fun i _ => ?_))
        · constructor
          · rintro (q | q)
            · exact ⟨q.1, List.mem_append_left _ q.2⟩
            · rw [q.1]
              exact ⟨co, by rw [o2]; exact List.mem_append_right _ (List.mem_singleton.mpr rfl)⟩
          · rintro ⟨q, r⟩
            rcases List.mem_append.mp r with r | r
            · exact Or.inl ⟨q, r⟩
            · exact Or.inr ⟨uni i q (List.mem_singleton.mp r), e⟩
        · constructor
          · rintro (⟨z, q1, q2, q3⟩ | q)
            · exact ⟨z, q1, List.mem_append_left _ q2, q3⟩
            · exact ⟨o, co, by rw [o2]; exact List.mem_append_right _ (List.mem_singleton.mpr rfl), q⟩
          · rintro ⟨z, q1, q2, q3⟩
            rcases List.mem_append.mp q2 with r | r
            · exact Or.inl ⟨z, q1, r, q3⟩
            · have := uni z q1 (List.mem_singleton.mp r)
              rw [this] at q3
              exact Or.inr q3
      by_cases q : once b m o
      · rw [if_pos q]
        exact yes (key.mp (Or.inl q))
      · rw [if_neg q]
        by_cases r : tb x7 o = true
        · rw [if_pos r]
          exact yes (key.mp (Or.inr r))
        · rw [if_neg r]
          have no : ¬ Cv b m o := fun z => (key.mpr z).elim q r
          refine ih (pre ++ [y]) f x5 x7 (by omega) he' hp' (Bs_c h5 (fun i _ => ⟨fun q => ⟨q.1, List.mem_append_left _ q.2⟩, fun q => ⟨q.1, ?_⟩⟩)) (Bs_c h7 (fun i _ => ⟨fun ⟨z, q1, q2, q3⟩ => ⟨z, q1, List.mem_append_left _ q2, q3⟩, fun ⟨z, q1, q2, q3⟩ => ⟨z, q1, ?_, q3⟩⟩))
          · rcases List.mem_append.mp q.2 with s | s
            · exact s
            · have := uni i q.1 (List.mem_singleton.mp s)
              rw [this] at q
              exact absurd q.1 no
          · rcases List.mem_append.mp q2 with s | s
            · exact s
            · have := uni z q1 (List.mem_singleton.mp s)
              rw [this] at q1
              exact absurd q1 no
