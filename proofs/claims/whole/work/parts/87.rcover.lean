/-! PURE: the reference: who covers whom: at once; the list of the methods on the way -/
abbrev lkm (b : Sp) (m o : Nat) : Prop := b 10 m ≠ 0 ∧ b 10 o ≠ 0 ∧ b 11 m = b 11 o ∧ b 12 m = b 12 o ∧ b 13 m = b 13 o
abbrev hd (b : Sp) (m : Nat) : Prop := b 14 m &&& 3 = 3 ∨ b 14 m &&& 4 ≠ 0
theorem r_like {b : Sp} {R : Mem} (hv : BV b) (hr : RB b R) {m o : Nat} (hm : mr b m) (ho : mr b o) : f_LinkAuditModel_like R (nI m) (nI o) = some (if lkm b m o then 1 else 0) := by
  obtain ⟨m40, m1, m2, m3, m4, m5, m6, m7⟩ := m_lt hv hm
  obtain ⟨o40, o1, o2, o3, o4, o5, o6, o7⟩ := m_lt hv ho
  unfold f_LinkAuditModel_like
  simp (disch := omega) only [gd_n, n_cl]
  rw [hr.2.2.2 10 (by omega) (by omega), hr.2.2.2 10 (by omega) (by omega), hr.2.2.2 11 (by omega) (by omega), hr.2.2.2 11 (by omega) (by omega), hr.2.2.2 12 (by omega) (by omega), hr.2.2.2 12 (by omega) (by omega), hr.2.2.2 13 (by omega) (by omega), hr.2.2.2 13 (by omega) (by omega), i_eq0 (by omega), i_eq0 (by omega), i_eq (by omega) (by omega), i_eq (by omega) (by omega), i_eq (by omega) (by omega)]
  by_cases e1 : b 10 m = 0
  · rw [if_pos e1, if_neg (fun q : lkm b m o => q.1 e1)]
  · rw [if_neg e1]
    by_cases e2 : b 10 o = 0
    · rw [if_pos e2, if_neg (fun q : lkm b m o => q.2.1 e2)]
    · rw [if_neg e2]
      by_cases e3 : b 11 m = b 11 o
      · rw [if_pos e3]
        by_cases e4 : b 12 m = b 12 o
        · rw [if_pos e4]
          by_cases e5 : b 13 m = b 13 o
          · rw [if_pos e5, if_pos (show lkm b m o from ⟨e1, e2, e3, e4, e5⟩)]
          · rw [if_neg e5, if_neg (fun q : lkm b m o => e5 q.2.2.2.2)]
        · rw [if_neg e4, if_neg (fun q : lkm b m o => e4 q.2.2.2.1)]
      · rw [if_neg e3, if_neg (fun q : lkm b m o => e3 q.2.2.1)]
theorem r_hid {b : Sp} {R : Mem} (hv : BV b) (hr : RB b R) {m : Nat} (hm : mr b m) : f_LinkAuditModel_hidden R (nI m) = some (if hd b m then 1 else 0) := by
  obtain ⟨m40, m1, m2, m3, m4, m5, m6, m7⟩ := m_lt hv hm
  have a3 := a3_lt (b 14 m)
  unfold f_LinkAuditModel_hidden
  simp (disch := omega) only [gd_n, n_cl]
  rw [hr.2.2.2 14 (by omega) (by omega), l3, l4, n_and, i_eq (by omega) (by omega), i_and (by omega)]
  by_cases e1 : b 14 m &&& 3 = 3
  · rw [if_pos e1, if_pos (Or.inl e1)]
  · rw [if_neg e1]
    by_cases e2 : b 14 m &&& 4 = 0
    · rw [if_pos e2, if_neg (fun q : hd b m => q.elim e1 (fun w => w e2))]
    · rw [if_neg e2, if_pos (Or.inr e2)]
theorem hd_v {b : Sp} {m : Nat} (h : b 10 m = 1) : ¬ hd b m ↔ virt b m := by
  constructor
  · intro q
    exact ⟨h, fun w => q (Or.inl w), Decidable.byContradiction (fun w => q (Or.inr w))⟩
  · rintro ⟨-, q1, q2⟩ (w | w)
    · exact q1 w
    · exact w q2
theorem lkm_l {b : Sp} (hv : BV b) {m o : Nat} (hm : mr b m) (ho : mr b o) : lkm b m o ↔ likeM b m o ∧ b 10 m = 1 ∧ b 10 o = 1 := by
  obtain ⟨-, -, -, m3, -⟩ := m_lt hv hm
  obtain ⟨-, -, -, o3, -⟩ := m_lt hv ho
  constructor
  · rintro ⟨q1, q2, q3, q4, q5⟩; exact ⟨⟨by omega, q3, q4, q5⟩, by omega, by omega⟩
  · rintro ⟨⟨q1, q3, q4, q5⟩, w1, w2⟩; exact ⟨by omega, by omega, q3, q4, q5⟩
abbrev On1 (b : Sp) (m o : Nat) : Prop := lkm b m o ∧ ¬ hd b m ∧ ¬ hd b o ∧ (b 14 o &&& 3 < 2 ∨ nb b (b 9 m) (b 9 o))
theorem On1_c {b : Sp} (hv : BV b) {m o : Nat} (hm : mr b m) (ho : mr b o) : On1 b m o ↔ likeM b m o ∧ virt b m ∧ virt b o ∧ once b m o := by
  have a3 := a3_lt (b 14 o)
  constructor
  · rintro ⟨q1, q2, q3, q4⟩
    obtain ⟨w1, w2, w3⟩ := (lkm_l hv hm ho).mp q1
    refine ⟨w1, (hd_v w2).mp q2, (hd_v w3).mp q3, q4.imp (fun w => by omega) id⟩
  · rintro ⟨q1, q2, q3, q4⟩
    refine ⟨(lkm_l hv hm ho).mpr ⟨q1, q2.1, q3.1⟩, (hd_v q2.1).mpr q2, (hd_v q3.1).mpr q3, q4.imp (fun w => ?_) id⟩
    have := q3.2.1
    omega
theorem r_once {b : Sp} {R : Mem} (hv : BV b) (hr : RB b R) {m o : Nat} (hm : mr b m) (ho : mr b o) : f_LinkAuditModel_coversAtOnce R (nI m) (nI o) = some (if On1 b m o then 1 else 0) := by
  obtain ⟨m40, m1, m2, m3, m4, m5, m6, m7⟩ := m_lt hv hm
  obtain ⟨o40, o1, o2, o3, o4, o5, o6, o7⟩ := m_lt hv ho
  have a3 := a3_lt (b 14 o)
  unfold f_LinkAuditModel_coversAtOnce
  simp (disch := omega) only [gd_n, n_cl]
  rw [r_like hv hr hm ho, bd1_s, i_hb, r_hid hv hr hm, bd1_s, i_hb, r_hid hv hr ho, bd1_s, i_hb, hr.2.2.2 14 (by omega) (by omega), hr.2.2.2 9 (by omega) (by omega), hr.2.2.2 9 (by omega) (by omega), r_nb hv hr m1 m2 o1 o2, bd1_s, i_hb, l3, l2, n_and, i_lt (by omega) (by omega)]
  by_cases e1 : lkm b m o
  · rw [if_pos e1]
    by_cases e2 : hd b m
    · rw [if_pos e2, if_neg (fun q : On1 b m o => q.2.1 e2)]
    · rw [if_neg e2]
      by_cases e3 : hd b o
      · rw [if_pos e3, if_neg (fun q : On1 b m o => q.2.2.1 e3)]
      · rw [if_neg e3]
        by_cases e4 : b 14 o &&& 3 < 2
        · rw [if_pos e4, if_pos (show On1 b m o from ⟨e1, e2, e3, Or.inl e4⟩)]
        · rw [if_neg e4]
          by_cases e5 : nb b (b 9 m) (b 9 o)
          · rw [if_pos e5, if_pos (show On1 b m o from ⟨e1, e2, e3, Or.inr e5⟩)]
          · rw [if_neg e5, if_neg (fun q : On1 b m o => q.2.2.2.elim e4 e5)]
  · rw [if_neg e1, if_neg (fun q : On1 b m o => e1 q.1)]
/-- the classes up to e -/
def pr (e : Nat) : List Nat → List Nat
  | [] => []
  | y :: t => y :: if y = e then [] else pr e t
/-- their virtual members like m -/
def vs (b : Sp) (m : Nat) : List Nat → List Nat
  | [] => []
  | y :: t => if vm b m y = 0 then vs b m t else vm b m y :: vs b m t
theorem vs_m {b : Sp} {m z : Nat} : ∀ l : List Nat, z ∈ vs b m l ↔ ∃ y ∈ l, vm b m y = z ∧ z ≠ 0 := by
  intro l
  induction l with
  | nil => exact ⟨fun h => (by cases h), fun ⟨y, h, _⟩ => by cases h⟩
  | cons y t ih =>
    unfold vs
    by_cases e : vm b m y = 0
    · rw [if_pos e, ih]
      constructor
      · rintro ⟨w, w1, w2⟩; exact ⟨w, List.mem_cons_of_mem _ w1, w2⟩
      · rintro ⟨w, w1, w2, w3⟩
        rcases List.mem_cons.mp w1 with q | q
        · rw [q, e] at w2; exact absurd w2.symm w3
        · exact ⟨w, q, w2, w3⟩
    · rw [if_neg e, List.mem_cons, ih]
      constructor
      · rintro (q | ⟨w, w1, w2⟩)
        · exact ⟨y, List.mem_cons_self .., q.symm, by rw [q]; exact e⟩
        · exact ⟨w, List.mem_cons_of_mem _ w1, w2⟩
      · rintro ⟨w, w1, w2, w3⟩
        rcases List.mem_cons.mp w1 with q | q
        · rw [q] at w2; exact Or.inl w2.symm
        · exact Or.inr ⟨w, q, w2, w3⟩
theorem vs_len {b : Sp} {m : Nat} : ∀ l : List Nat, (vs b m l).length ≤ l.length := by
  intro l
  induction l with
  | nil => exact Nat.le_refl 0
  | cons y t ih =>
    unfold vs
    split
    · rw [List.length_cons]; omega
    · rw [List.length_cons, List.length_cons]; omega
theorem pr_len {e : Nat} : ∀ l : List Nat, (pr e l).length ≤ l.length := by
  intro l
  induction l with
  | nil => exact Nat.le_refl 0
  | cons y t ih =>
    unfold pr
    rw [List.length_cons, List.length_cons]
    split
    · simp
    · omega
theorem pr_sub {e z : Nat} : ∀ l : List Nat, z ∈ pr e l → z ∈ l := by
  intro l
  induction l with
  | nil => intro h; cases h
  | cons y t ih =>
    intro h
    unfold pr at h
    rcases List.mem_cons.mp h with q | q
    · rw [q]; exact List.mem_cons_self ..
    · split at q
      · cases q
      · exact List.mem_cons_of_mem _ (ih q)
/-- what lies before e or is e -/
theorem pr_in {b : Sp} (hv : BV b) {e z : Nat} : ∀ l : List Nat, l.Pairwise (fun a c => (pm b 16 a).testBit c = true) → (∀ y ∈ l, good b y) → e ∈ l → z ∈ l → (z = e ∨ (pm b 16 z).testBit e = true) → z ∈ pr e l := by
  intro l
  induction l with
  | nil => intro _ _ h; cases h
  | cons y t ih =>
    intro hp hg he hz hze
    rw [List.pairwise_cons] at hp
    unfold pr
    rcases List.mem_cons.mp hz with q | q
    · rw [q]; exact List.mem_cons_self ..
    · refine List.mem_cons_of_mem _ ?_
      by_cases w : y = e
      · have p := hp.1 z q
        rw [w] at p
        have ge := hg y (List.mem_cons_self ..)
        rw [w] at ge
        rcases hze with r | r
        · rw [r] at p; exact absurd p (pm_ir hv ge)
        · exact absurd (pm_t hv ge p r) (pm_ir hv ge)
      · rw [if_neg w]
        refine ih hp.2 (fun y hy => hg y (List.mem_cons_of_mem _ hy)) ?_ q hze
        rcases List.mem_cons.mp he with r | r
        · exact absurd r.symm w
        · exact r
theorem pr_pw {P : Nat → Nat → Prop} {e : Nat} : ∀ l : List Nat, l.Pairwise P → (pr e l).Pairwise P := by
  intro l
  induction l with
  | nil => intro h; exact h
  | cons y t ih =>
    intro h
    rw [List.pairwise_cons] at h
    unfold pr
    rw [List.pairwise_cons]
    split
    · exact ⟨fun a q => (by cases q), List.Pairwise.nil⟩
    · exact ⟨fun a q => h.1 a (pr_sub t q), ih h.2⟩
theorem pr_last {e : Nat} : ∀ l : List Nat, e ∈ l → ∃ r, pr e l = r ++ [e] := by
  intro l
  induction l with
  | nil => intro h; cases h
  | cons y t ih =>
    intro h
    unfold pr
    by_cases w : y = e
    · rw [if_pos w, w]; exact ⟨[], rfl⟩
    · rw [if_neg w]
      rcases List.mem_cons.mp h with r | r
      · exact absurd r.symm w
      · obtain ⟨q, hq⟩ := ih r
        rw [hq]
        exact ⟨y :: q, rfl⟩
theorem vs_app {b : Sp} {m : Nat} : ∀ l k : List Nat, vs b m (l ++ k) = vs b m l ++ vs b m k := by
  intro l
  induction l with
  | nil => intro k; rfl
  | cons y t ih =>
    intro k
    show (if vm b m y = 0 then vs b m (t ++ k) else vm b m y :: vs b m (t ++ k)) = (if vm b m y = 0 then vs b m t else vm b m y :: vs b m t) ++ vs b m k
    by_cases e : vm b m y = 0
    · rw [if_pos e, if_pos e, ih]
    · rw [if_neg e, if_neg e, ih, List.cons_append]
theorem vs_pw {b : Sp} {m : Nat} (hm : b 10 m = 1) : ∀ l : List Nat, l.Pairwise (fun a c => (pm b 16 a).testBit c = true) → (vs b m l).Pairwise (fun a c => (pm b 16 (b 9 a)).testBit (b 9 c) = true) := by
  intro l
  induction l with
  | nil => intro h; exact List.Pairwise.nil
  | cons y t ih =>
    intro h
    rw [List.pairwise_cons] at h
    unfold vs
    by_cases e : vm b m y = 0
    · rw [if_pos e]; exact ih h.2
    · rw [if_neg e, List.pairwise_cons]
      refine ⟨fun a q => ?_, ih h.2⟩
      obtain ⟨w, w1, w2, w3⟩ := (vs_m t).mp q
      rw [(vm_at hm e).2.1, ← w2, (vm_at hm (by rw [w2]; exact w3)).2.1]
      exact h.1 w w1
