/-! PURE: loading, by the reference -/
def Lo (k : Nat) (M N : Mem) : Prop := ∀ a, a < k → N.1 a = M.1 a
theorem Lo_r (k : Nat) (M : Mem) : Lo k M M := fun _ _ => rfl
theorem Lo_t {k : Nat} {M N O : Mem} (h : Lo k M N) (g : Lo k N O) : Lo k M O := fun a ha => by rw [g a ha, h a ha]
theorem Lo_u {k : Nat} {M N : Mem} (h : Lo k M N) {c i : Nat} {v : Int32} (hc : k ≤ c) : Lo k M (u1 N c i v) := fun a ha => by rw [u1_ne (by omega)]; exact h a ha
theorem Lo_le {k k' : Nat} {M N : Mem} (h : Lo k M N) (hk : k' ≤ k) : Lo k' M N := fun a ha => h a (by omega)
theorem RB_Lo {b : Sp} {M N : Mem} (h : RB b M) (g : Lo 16 M N) : RB b N := by
  obtain ⟨r1, r2, r3, r4⟩ := h
  refine ⟨by rw [g 0 (by omega)]; exact r1, by rw [g 0 (by omega)]; exact r2, by rw [g 0 (by omega)]; exact r3, fun a h1 h2 i => by rw [g a (by omega)]; exact r4 a h1 h2 i⟩
theorem n_pred (n : Nat) : nI (n + 1) + (-1 : Int32) = nI n := by
  rw [← n_add, Int32.add_assoc, show nI 1 + (-1 : Int32) = 0 by decide, Int32.add_zero]
theorem r_nb {b : Sp} {R : Mem} (hv : BV b) (hr : RB b R) {x y : Nat} (h1 : 1 ≤ x) (h2 : x ≤ nC b) (h3 : 1 ≤ y) (h4 : y ≤ nC b) : f_LinkAuditModel_neighbours R (nI x) (nI y) = some (if nb b x y then 1 else 0) := by
  have h16 := hv.1.1
  have hx := hv.2.2.1 x h1 h2
  have hy := hv.2.2.1 y h3 h4
  unfold f_LinkAuditModel_neighbours
  have e4 : nI (b 5 x) / (4 : Int32) = nI (b 5 x / 4) := n_div (a := b 5 x) (d := 4) (by omega) (by omega) (by omega)
  have e5 : nI (b 5 y) / (4 : Int32) = nI (b 5 y / 4) := n_div (a := b 5 y) (d := 4) (by omega) (by omega) (by omega)
  simp (disch := omega) only [gd_n, n_cl]
  rw [hr.2.2.2 4 (by omega) (by omega), hr.2.2.2 4 (by omega) (by omega), hr.2.2.2 5 (by omega) (by omega), hr.2.2.2 5 (by omega) (by omega), e4, e5, i_eq (by omega) (by omega), i_eq (by omega) (by omega)]
  by_cases z : b 4 x = b 4 y
  · rw [if_pos z]
    by_cases w : b 5 x / 4 = b 5 y / 4
    · rw [if_pos w, if_pos ⟨z, w⟩]
    · rw [if_neg w, if_neg (fun q => w q.2)]
  · rw [if_neg z, if_neg (fun q => z q.1)]
theorem nb_c {b : Sp} {x y : Nat} : nb b x y ↔ nb b y x := ⟨fun h => ⟨h.1.symm, h.2.symm⟩, fun h => ⟨h.1.symm, h.2.symm⟩⟩
theorem r_mu {b : Sp} {R : Mem} (hv : BV b) (hr : RB b R) {x y : Nat} (h1 : 1 ≤ x) (h2 : x ≤ nC b) (h3 : 1 ≤ y) (h4 : y ≤ nC b) : f_LinkAuditModel_mayUse R (nI x) (nI y) = some (if mu b x y then 1 else 0) := by
  have h16 := hv.1.1
  have hy := hv.2.2.1 y h3 h4
  unfold f_LinkAuditModel_mayUse
  rw [gd_n (by omega) (by omega), n_cl (by omega), hr.2.2.2 6 (by omega) (by omega), r_nb hv hr h3 h4 h1 h2, bd1_s, i_hb]
  have e1 : ∀ {α : Type} {u v : α}, (if (nI (b 6 y) &&& (1 : Int32)) = 0 then u else v) = if b 6 y &&& 1 = 0 then u else v := i_and (c := 1) (by omega)
  rw [e1]
  by_cases z : b 6 y &&& 1 = 0
  · rw [if_pos z]
    by_cases w : nb b y x
    · rw [if_pos w, if_pos (Or.inr (nb_c.mp w))]
    · rw [if_neg w, if_neg (fun q => q.elim (fun q => q z) (fun q => w (nb_c.mp q)))]
  · rw [if_neg z, if_pos (Or.inl z)]
theorem wt_le {b : Sp} (hv : BV b) {x s : Nat} (h1 : 1 ≤ x) (h2 : x ≤ nC b) (hs : s < 13) : wt b x s ≤ 12 := by
  have hx := hv.2.2.1 x h1 h2
  unfold wt
  split
  · omega
  · split <;> omega
theorem r_wanted {b : Sp} {R : Mem} (hv : BV b) (hr : RB b R) {x s : Nat} (h1 : 1 ≤ x) (h2 : x ≤ nC b) (hs : s < 13) : f_LinkAuditModel_wanted R (nI x) (nI s) = some (if wt b x s = 12 then -1 else nI (wt b x s)) := by
  have h16 := hv.1.1
  have hx := hv.2.2.1 x h1 h2
  unfold f_LinkAuditModel_wanted wt
  rw [i_eq0 (by omega)]
  simp (disch := omega) only [gd_n, n_cl]
  by_cases e : s = 0
  · simp only [if_pos e]
    rw [hr.2.2.2 7 (by omega) (by omega), l12, i_eq (by omega) (by omega)]
    split <;> rfl
  · simp only [if_neg e]
    rw [hr.2.2.2 8 (by omega) (by omega), show nI s - (1 : Int32) = nI (s - 1) from n_sub (b := 1) (by omega), i_bit (show b 8 x < 2 ^ 31 by omega) (show s - 1 < 32 by omega)]
    by_cases t : (b 8 x).testBit (s - 1) = true
    · simp only [if_pos t]
      rw [if_neg (show ¬ s - 1 = 12 by omega)]
    · simp only [if_neg t]
      rfl
theorem r_fits {b : Sp} {R : Mem} (hv : BV b) (hr : RB b R) {x s d : Nat} (h1 : 1 ≤ x) (h2 : x ≤ nC b) (h3 : 1 ≤ d) (h4 : d ≤ nC b) (hs : s < 13) : f_LinkAuditModel_fits R (nI x) (nI s) (nI d) = some (ft b x s d) := by
  have h16 := hv.1.1
  have hd := hv.2.2.1 d h3 h4
  have b0 : f_LinkAuditModel_fits_b37 R (nI x) (nI d) 0 = some (if mu b x d then 0 else -6) := by
    unfold f_LinkAuditModel_fits_b37
    rw [i0, r_mu hv hr h1 h2 h3 h4, bd1_s, i_hb]
    split <;> rfl
  have b1 : f_LinkAuditModel_fits_b37 R (nI x) (nI d) 1 = some (-5) := by
    unfold f_LinkAuditModel_fits_b37
    rw [i1]
  unfold f_LinkAuditModel_fits ft
  rw [b0, b1, i_eq0 (by omega), gd_n (by omega) (by omega), n_cl (by omega), hr.2.2.2 6 (by omega) (by omega), r_isI hv hr h3 h4, bd1_s]
  have e10 : ∀ {α : Type} {u v : α}, (if (nI (b 6 d) &&& (10 : Int32)) = 0 then u else v) = if b 6 d &&& 10 = 0 then u else v := i_and (c := 10) (by omega)
  rw [e10]
  have cn : ∀ {α : Type} {u v : α}, ¬ ((s = 0 ∧ b 6 d &&& 10 ≠ 0) ∨ (s ≠ 0 ∧ b 6 d &&& 8 = 0)) → (if (s = 0 ∧ b 6 d &&& 10 ≠ 0) ∨ (s ≠ 0 ∧ b 6 d &&& 8 = 0) then u else v) = v := fun h => if_neg h
  have cp : ∀ {α : Type} {u v : α}, ((s = 0 ∧ b 6 d &&& 10 ≠ 0) ∨ (s ≠ 0 ∧ b 6 d &&& 8 = 0)) → (if (s = 0 ∧ b 6 d &&& 10 ≠ 0) ∨ (s ≠ 0 ∧ b 6 d &&& 8 = 0) then u else v) = u := fun h => if_pos h
  by_cases e : s = 0
  · rw [if_pos e]
    by_cases z : b 6 d &&& 10 = 0
    · rw [if_pos z, cn (fun q => q.elim (fun q => q.2 z) (fun q => q.1 e))]
    · rw [if_neg z, cp (Or.inl ⟨e, z⟩)]
  · rw [if_neg e]
    by_cases z : b 6 d &&& 8 = 0
    · rw [if_pos z, i0, cp (Or.inr ⟨e, z⟩)]
    · rw [if_neg z, i1, cn (fun q => q.elim (fun q => e q.1) (fun q => z q.2))]
theorem r_scan0 {τ : Type} (M : Mem) (n d : Nat) (hn : n < 20) (ke : Int32 → Option τ) : ∀ r f i, r < f → i + r = n → f_LinkAuditModel_loadCode_L154 M (nI n) (nI d) ke f (-4) (nI i) = ke (-4) := by
  intro r
  induction r with
  | zero =>
    intro f i hf hi
    obtain ⟨f, rfl⟩ : ∃ g, f = g + 1 := ⟨f - 1, by omega⟩
    rw [f_LinkAuditModel_loadCode_L154, i_le (by omega) (by omega), if_pos (by omega)]
  | succ r ih =>
    intro f i hf hi
    obtain ⟨f, rfl⟩ : ∃ g, f = g + 1 := ⟨f - 1, by omega⟩
    rw [f_LinkAuditModel_loadCode_L154, i_le (by omega) (by omega), if_neg (show ¬ n ≤ i by omega), gd_n (by omega) (by omega), l1, n_add, ih f (i + 1) (by omega) (by omega)]
    split <;> rfl
theorem r_scan1 {τ : Type} (M : Mem) (n d : Nat) (hn : n < 20) (ke : Int32 → Option τ) (z : Int32) : ∀ r f i, r < f → i + r = n → (∀ j, i ≤ j → j < n → M.1 21 j ≠ nI d) → f_LinkAuditModel_loadCode_L154 M (nI n) (nI d) ke f z (nI i) = ke z := by
  intro r
  induction r with
  | zero =>
    intro f i hf hi _
    obtain ⟨f, rfl⟩ : ∃ g, f = g + 1 := ⟨f - 1, by omega⟩
    rw [f_LinkAuditModel_loadCode_L154, i_le (by omega) (by omega), if_pos (by omega)]
  | succ r ih =>
    intro f i hf hi hj
    obtain ⟨f, rfl⟩ : ∃ g, f = g + 1 := ⟨f - 1, by omega⟩
    rw [f_LinkAuditModel_loadCode_L154, i_le (by omega) (by omega), if_neg (show ¬ n ≤ i by omega), gd_n (by omega) (by omega), n_cl (by omega), if_neg (hj i (by omega) (by omega)), l1, n_add, ih f (i + 1) (by omega) (by omega) (fun j h1 h2 => hj j (by omega) h2)]
theorem r_scan2 {τ : Type} (M : Mem) (n d : Nat) (hn : n < 20) (ke : Int32 → Option τ) (z : Int32) : ∀ r f i, r < f → i + r = n → (∃ j, i ≤ j ∧ j < n ∧ M.1 21 j = nI d) → f_LinkAuditModel_loadCode_L154 M (nI n) (nI d) ke f z (nI i) = ke (-4) := by
  intro r
  induction r with
  | zero =>
    intro f i hf hi h
    obtain ⟨j, j1, j2, -⟩ := h
    omega
  | succ r ih =>
    intro f i hf hi h
    obtain ⟨f, rfl⟩ : ∃ g, f = g + 1 := ⟨f - 1, by omega⟩
    rw [f_LinkAuditModel_loadCode_L154, i_le (by omega) (by omega), if_neg (show ¬ n ≤ i by omega), gd_n (by omega) (by omega), n_cl (by omega), l1, n_add]
    by_cases e : M.1 21 i = nI d
    · rw [if_pos e, r_scan0 M n d hn ke r f (i + 1) (by omega) (by omega)]
    · rw [if_neg e]
      obtain ⟨j, j1, j2, j3⟩ := h
      refine ih f (i + 1) (by omega) (by omega) ⟨j, ?_, j2, j3⟩
      by_cases q : j = i
      · rw [q] at j3; exact absurd j3 e
      · omega
/-- the stack of the reference: classes and their steps, the top first -/
def Sk (M : Mem) : List (Nat × Nat) → Prop
  | [] => True
  | (x, s) :: q => M.1 21 q.length = nI x ∧ M.1 22 q.length = nI s ∧ Sk M q
theorem Sk_c {M N : Mem} : ∀ q : List (Nat × Nat), Sk M q → (∀ i, i < q.length → N.1 21 i = M.1 21 i ∧ N.1 22 i = M.1 22 i) → Sk N q := by
  intro q
  induction q with
  | nil => intro _ _; trivial
  | cons a q ih =>
    obtain ⟨x, s⟩ := a
    intro h g
    rw [List.length_cons] at g
    exact ⟨by rw [(g q.length (by omega)).1]; exact h.1, by rw [(g q.length (by omega)).2]; exact h.2.1, ih h.2.2 (fun i hi => g i (by omega))⟩
theorem Sk_at {M : Mem} : ∀ q : List (Nat × Nat), Sk M q → ∀ i, i < q.length → ∃ y ∈ q.map (·.1), M.1 21 i = nI y := by
  intro q
  induction q with
  | nil => intro _ i hi; exact absurd hi (by simp)
  | cons a q ih =>
    obtain ⟨x, s⟩ := a
    intro h i hi
    rw [List.length_cons] at hi
    by_cases e : i = q.length
    · rw [e]; exact ⟨x, List.mem_cons_self .., h.1⟩
    · obtain ⟨y, y1, y2⟩ := ih h.2.2 i (by omega)
      exact ⟨y, List.mem_cons_of_mem _ y1, y2⟩
theorem Sk_of {M : Mem} : ∀ q : List (Nat × Nat), Sk M q → ∀ y ∈ q.map (·.1), ∃ i, i < q.length ∧ M.1 21 i = nI y := by
  intro q
  induction q with
  | nil => intro _ y hy; cases hy
  | cons a q ih =>
    obtain ⟨x, s⟩ := a
    intro h y hy
    rw [List.length_cons]
    rcases List.mem_cons.mp hy with e | e
    · rw [e]; exact ⟨q.length, by omega, h.1⟩
    · obtain ⟨i, i1, i2⟩ := ih h.2.2 y e
      exact ⟨i, by omega, i2⟩
