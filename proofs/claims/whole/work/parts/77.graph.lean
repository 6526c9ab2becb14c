/-! PURE: superclasses, superinterfaces, chains: order -/
theorem pm_g {b : Sp} (hv : BV b) : ∀ k x, gk b (k + 1) x → good b x → ∀ y, (pm b 16 x).testBit y = true → gk b k y ∧ good b y ∧ 1 ≤ y ∧ y ≤ nC b := by
  intro k
  induction k with
  | zero =>
    intro x h g y hy
    rw [(tab_16 g).2.1] at hy
    by_cases e : ab b x = 0
    · rw [if_pos e, Nat.zero_testBit] at hy; cases hy
    · exact (ab_g h e).elim
  | succ k ih =>
    intro x h g y hy
    rw [(tab_16 g).2.1] at hy
    by_cases e : ab b x = 0
    · rw [if_pos e, Nat.zero_testBit] at hy; cases hy
    · rw [if_neg e, Nat.testBit_or, Bool.or_eq_true, p2_b] at hy
      rcases hy with hy | hy
      · rw [← hy]
        exact ⟨ab_g h e, ab_16 g e, by omega, ab_le hv x⟩
      · obtain ⟨h1, h2⟩ := ih (ab b x) (ab_g h e) (ab_16 g e) y hy
        exact ⟨gk_s _ _ h1, h2⟩
theorem fm_g {b : Sp} (hv : BV b) : ∀ k x, gk b (k + 1) x → good b x → ∀ y, (fm b 16 x).testBit y = true → gk b k y ∧ good b y ∧ 1 ≤ y ∧ y ≤ nC b := by
  intro k
  induction k with
  | zero =>
    intro x h g y hy
    rw [(tab_16 g).2.2, um_b] at hy
    rcases hy with hy | ⟨s, s1, s2, hy⟩
    · by_cases e : ab b x = 0
      · rw [if_pos e, Nat.zero_testBit] at hy; cases hy
      · exact (ab_g h e).elim
    · by_cases w : wt b x s = 12
      · rw [if_pos w, Nat.zero_testBit] at hy; cases hy
      · exact (h s (by omega) w).2.2.elim
  | succ k ih =>
    intro x h g y hy
    rw [(tab_16 g).2.2, um_b] at hy
    rcases hy with hy | ⟨s, s1, s2, hy⟩
    · by_cases e : ab b x = 0
      · rw [if_pos e, Nat.zero_testBit] at hy; cases hy
      · rw [if_neg e] at hy
        obtain ⟨h1, h2⟩ := ih (ab b x) (ab_g h e) (ab_16 g e) y hy
        exact ⟨gk_s _ _ h1, h2⟩
    · by_cases w : wt b x s = 12
      · rw [if_pos w, Nat.zero_testBit] at hy; cases hy
      · rw [if_neg w, Nat.testBit_or, Bool.or_eq_true, p2_b] at hy
        have q := sp_16 g (s := s) (by omega) w
        rcases hy with hy | hy
        · rw [← hy]
          exact ⟨(h s (by omega) w).2.2, q.2, by omega, sp_le hv x s⟩
        · obtain ⟨h1, h2⟩ := ih (sp b x s) (h s (by omega) w).2.2 q.2 y hy
          exact ⟨gk_s _ _ h1, h2⟩
theorem pm_in {b : Sp} (hv : BV b) {x y : Nat} (g : good b x) (h : (pm b 16 x).testBit y = true) : good b y ∧ 1 ≤ y ∧ y ≤ nC b := (pm_g hv 15 x g g y h).2
theorem fm_in {b : Sp} (hv : BV b) {x y : Nat} (g : good b x) (h : (fm b 16 x).testBit y = true) : good b y ∧ 1 ≤ y ∧ y ≤ nC b := (fm_g hv 15 x g g y h).2
theorem pm_ir {b : Sp} (hv : BV b) {x : Nat} (g : good b x) : ¬ (pm b 16 x).testBit x = true := by
  have : ∀ k, gk b k x → ¬ (pm b 16 x).testBit x = true := by
    intro k
    induction k with
    | zero => intro h; exact h.elim
    | succ k ih => intro h q; exact ih (pm_g hv k x h g x q).1 q
  exact this 16 g
theorem fm_ir {b : Sp} (hv : BV b) {x : Nat} (g : good b x) : ¬ (fm b 16 x).testBit x = true := by
  have : ∀ k, gk b k x → ¬ (fm b 16 x).testBit x = true := by
    intro k
    induction k with
    | zero => intro h; exact h.elim
    | succ k ih => intro h q; exact ih (fm_g hv k x h g x q).1 q
  exact this 16 g
theorem pm_tr {b : Sp} (hv : BV b) : ∀ k x, gk b k x → good b x → ∀ y z, (pm b 16 x).testBit y = true → (pm b 16 y).testBit z = true → (pm b 16 x).testBit z = true := by
  intro k
  induction k with
  | zero => intro x h; exact h.elim
  | succ k ih =>
    intro x h g y z hy hz
    rw [(tab_16 g).2.1] at hy ⊢
    by_cases e : ab b x = 0
    · rw [if_pos e, Nat.zero_testBit] at hy; cases hy
    · rw [if_neg e, Nat.testBit_or, Bool.or_eq_true, p2_b] at hy ⊢
      rcases hy with hy | hy
      · rw [← hy] at hz; exact Or.inr hz
      · exact Or.inr (ih (ab b x) (ab_g h e) (ab_16 g e) y z hy hz)
theorem pm_t {b : Sp} (hv : BV b) {x y z : Nat} (g : good b x) (hy : (pm b 16 x).testBit y = true) (hz : (pm b 16 y).testBit z = true) : (pm b 16 x).testBit z = true := pm_tr hv 16 x g g y z hy hz
theorem ch_m {b : Sp} (hv : BV b) : ∀ k x, gk b k x → good b x → ∀ y, y ∈ ch b 16 x ↔ y = x ∨ (pm b 16 x).testBit y = true := by
  intro k
  induction k with
  | zero => intro x h; exact h.elim
  | succ k ih =>
    intro x h g y
    rw [(tab_16 g).1, (tab_16 g).2.1]
    by_cases e : ab b x = 0
    · rw [if_pos e, if_pos e, Nat.zero_testBit]
      simp
    · rw [if_neg e, if_neg e, List.mem_cons, ih _ (ab_g h e) (ab_16 g e), Nat.testBit_or, Bool.or_eq_true, p2_b]
      constructor
      · rintro (q | q | q)
        · exact Or.inl q
        · exact Or.inr (Or.inl q.symm)
        · exact Or.inr (Or.inr q)
      · rintro (q | q | q)
        · exact Or.inl q
        · exact Or.inr (Or.inl q.symm)
        · exact Or.inr (Or.inr q)
theorem ch_mem {b : Sp} (hv : BV b) {x y : Nat} (g : good b x) : y ∈ ch b 16 x ↔ y = x ∨ (pm b 16 x).testBit y = true := ch_m hv 16 x g g y
theorem ch_in {b : Sp} (hv : BV b) {x y : Nat} (g : good b x) (h1 : 1 ≤ x) (h2 : x ≤ nC b) (h : y ∈ ch b 16 x) : good b y ∧ 1 ≤ y ∧ y ≤ nC b := by
  rcases (ch_mem hv g).mp h with e | e
  · rw [e]; exact ⟨g, h1, h2⟩
  · exact pm_in hv g e
theorem ch_pw {b : Sp} (hv : BV b) : ∀ k x, gk b k x → good b x → (ch b 16 x).Pairwise (fun a c => (pm b 16 a).testBit c = true) := by
  intro k
  induction k with
  | zero => intro x h; exact h.elim
  | succ k ih =>
    intro x h g
    rw [(tab_16 g).1]
    by_cases e : ab b x = 0
    · rw [if_pos e]
      exact List.pairwise_cons.mpr ⟨fun a q => (by cases q), List.Pairwise.nil⟩
    · rw [if_neg e, List.pairwise_cons]
      refine ⟨fun a q => ?_, ih _ (ab_g h e) (ab_16 g e)⟩
      rw [(tab_16 g).2.1, if_neg e, Nat.testBit_or, Bool.or_eq_true, p2_b]
      rcases (ch_mem hv (ab_16 g e)).mp q with z | z
      · exact Or.inl z.symm
      · exact Or.inr z
/-! who covers whom -/
abbrev once (b : Sp) (m o : Nat) : Prop := b 14 o &&& 3 ≠ 2 ∨ nb b (b 9 m) (b 9 o)
def mr (b : Sp) (m : Nat) : Prop := 1 ≤ m ∧ m ≤ nM b
/-- at once, from a proper subclass -/
def Rc (b : Sp) (m o : Nat) : Prop := mr b m ∧ mr b o ∧ likeM b m o ∧ virt b m ∧ virt b o ∧ (pm b 16 (b 9 m)).testBit (b 9 o) = true ∧ once b m o
def Ck (b : Sp) : Nat → Nat → Nat → Prop
  | 0, m, o => Rc b m o
  | k + 1, m, o => ∃ z, Rc b m z ∧ Ck b k z o
def Cv (b : Sp) (m o : Nat) : Prop := ∃ k, Ck b k m o
theorem Cv_1 {b : Sp} {m o : Nat} (h : Rc b m o) : Cv b m o := ⟨0, h⟩
theorem Cv_2 {b : Sp} {m z o : Nat} (h : Rc b m z) (g : Cv b z o) : Cv b m o := g.elim (fun k q => ⟨k + 1, z, h, q⟩)
theorem Cv_c {b : Sp} {m o : Nat} (h : Cv b m o) : Rc b m o ∨ ∃ z, Rc b m z ∧ Cv b z o := by
  obtain ⟨k, h⟩ := h
  cases k with
  | zero => exact Or.inl h
  | succ k => exact Or.inr (h.elim (fun z q => ⟨z, q.1, k, q.2⟩))
theorem Cv_t {b : Sp} {m z o : Nat} (h : Cv b m z) (g : Cv b z o) : Cv b m o := by
  obtain ⟨k, h⟩ := h
  induction k generalizing m with
  | zero => exact Cv_2 h g
  | succ k ih =>
    obtain ⟨y, h1, h2⟩ := h
    exact Cv_2 h1 (ih h2)
theorem like_t {b : Sp} {m z o : Nat} (h : likeM b m z) (g : likeM b z o) : likeM b m o := ⟨h.1.trans g.1, h.2.1.trans g.2.1, h.2.2.1.trans g.2.2.1, h.2.2.2.trans g.2.2.2⟩
theorem like_s {b : Sp} {m z : Nat} (h : likeM b m z) : likeM b z m := ⟨h.1.symm, h.2.1.symm, h.2.2.1.symm, h.2.2.2.symm⟩
theorem Cv_a {b : Sp} (hv : BV b) {m o : Nat} (g : good b (b 9 m)) (h : Cv b m o) : mr b m ∧ mr b o ∧ likeM b m o ∧ virt b m ∧ virt b o ∧ (pm b 16 (b 9 m)).testBit (b 9 o) = true := by
  obtain ⟨k, h⟩ := h
  induction k generalizing m with
  | zero => exact ⟨h.1, h.2.1, h.2.2.1, h.2.2.2.1, h.2.2.2.2.1, h.2.2.2.2.2.1⟩
  | succ k ih =>
    obtain ⟨z, h1, h2⟩ := h
    obtain ⟨q1, q2, q3, q4, q5, q6⟩ := ih (pm_in hv g h1.2.2.2.2.2.1).1 h2
    exact ⟨h1.1, q2, like_t h1.2.2.1 q3, h1.2.2.2.1, q5, pm_t hv g h1.2.2.2.2.2.1 q6⟩
/-- m covers o, whatever o's owner -/
def Co (b : Sp) (m o : Nat) : Prop := likeM b m o ∧ virt b m ∧ virt b o ∧ (once b m o ∨ Cv b m o)
