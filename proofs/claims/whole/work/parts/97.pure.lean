/-! PURE: listing conflicts, both sides -/
abbrev cf (b : Sp) (G : Nat → Nat → Nat) (n a c : Nat) : Prop := G n a = G n c ∧ fnd b a n ≠ 0 ∧ fnd b c n ≠ 0 ∧ fnd b a n ≠ fnd b c n
def Ls (M R : Mem) (k : Nat) : Prop := M.1 9 5 = nI k ∧ R.1 0 27 = nI k ∧ ∀ i, i < k → M.1 74 i = R.1 25 (3 * i) ∧ M.1 75 i = R.1 25 (3 * i + 1) ∧ M.1 76 i = R.1 25 (3 * i + 2)
def Fl (M N : Mem) : Prop := (∀ a, a ≤ 8 ∨ (10 ≤ a ∧ a ≤ 73) → N.1 a = M.1 a) ∧ N.2 = M.2
def Fr (R N : Mem) : Prop := (∀ a, 1 ≤ a → a ≤ 24 → N.1 a = R.1 a) ∧ ∀ i, i ≠ 27 → N.1 0 i = R.1 0 i
theorem Fl_r (M : Mem) : Fl M M := ⟨fun _ _ => rfl, rfl⟩
theorem Fl_t {M N O : Mem} (h : Fl M N) (g : Fl N O) : Fl M O := ⟨fun a ha => by rw [g.1 a ha, h.1 a ha], by rw [g.2, h.2]⟩
theorem Fr_r (M : Mem) : Fr M M := ⟨fun _ _ _ => rfl, fun _ _ => rfl⟩
theorem Fr_t {M N O : Mem} (h : Fr M N) (g : Fr N O) : Fr M O := ⟨fun a a1 a2 => by rw [g.1 a a1 a2, h.1 a a1 a2], fun i hi => by rw [g.2 i hi, h.2 i hi]⟩
theorem Fr_RB {b : Sp} {R N : Mem} (h : RB b R) (g : Fr R N) : RB b N := ⟨by rw [g.2 3 (by omega)]; exact h.1, by rw [g.2 9 (by omega)]; exact h.2.1, by rw [g.2 16 (by omega)]; exact h.2.2.1, fun a a1 a2 i => by rw [g.1 a a1 (by omega)]; exact h.2.2.2 a a1 a2 i⟩
/-- the state while listing -/
def St (b : Sp) (G : Nat → Nat → Nat) (M R : Mem) (k : Nat) : Prop := CB b M ∧ RB b R ∧ Ga M G ∧ Aa R ∧ (∀ t x y, t < 12 → x < 5 → y < 5 → (R.1 24 (25 * t + 5 * x + y) = 1 ↔ G t x = G t y)) ∧ Ls M R k
theorem St_f {b : Sp} {G : Nat → Nat → Nat} {M M' R R' : Mem} {k k' : Nat} (h : St b G M R k) (f : Fl M M') (g : Fr R R') (l : Ls M' R' k') : St b G M' R' k' := by
  refine ⟨CB_k h.1 ⟨fun a ha => f.1 a (by omega), fun a _ => by rw [f.2]⟩, Fr_RB h.2.1 g, fun t a ht ha => ?_, fun i hi => ?_, fun t x y ht hx hy => ?_, l⟩
  · rw [f.1 (62 + t) (by omega)]; exact h.2.2.1 t a ht ha
  · rw [g.1 24 (by omega) (by omega)]; exact h.2.2.2.1 i hi
  · rw [g.1 24 (by omega) (by omega)]; exact h.2.2.2.2.1 t x y ht hx hy
theorem c_conf {b : Sp} {G : Nat → Nat → Nat} {M R : Mem} {k : Nat} (hv : BV b) (h : St b G M R k) {n a c : Nat} (hn : n < 12) (ha : a < 5) (hc : c < 5) : f_Agreements_areInConflict M (nI n) (nI a) (nI c) = some (if cf b G n a c then 1 else 0) := by
  have h16 := hv.1.1
  have f1 := fnd_le hv a n
  have f2 := fnd_le hv c n
  obtain ⟨g1, g1'⟩ := h.2.2.1 n a hn ha
  obtain ⟨g2, g2'⟩ := h.2.2.1 n c hn hc
  unfold f_Agreements_areInConflict
  rw [c_found hv h.1 ha hn, bd1_s, c_found hv h.1 hc hn, bd1_s]
  simp (disch := omega) only [gd_n, n_cl]
  rw [g1, g2, i_eq (by omega) (by omega), i_eq0 (by omega), i_eq0 (by omega), i_eq (by omega) (by omega)]
  by_cases e1 : G n a = G n c
  · rw [if_pos e1]
    by_cases e2 : fnd b a n = 0
    · rw [if_pos e2, if_neg (fun q : cf b G n a c => q.2.1 e2)]
    · rw [if_neg e2]
      by_cases e3 : fnd b c n = 0
      · rw [if_pos e3, if_neg (fun q : cf b G n a c => q.2.2.1 e3)]
      · rw [if_neg e3]
        by_cases e4 : fnd b a n = fnd b c n
        · rw [if_pos e4, if_neg (fun q : cf b G n a c => q.2.2.2 e4)]
        · rw [if_neg e4, if_pos (show cf b G n a c from ⟨e1, e2, e3, e4⟩)]
  · rw [if_neg e1, if_neg (fun q : cf b G n a c => e1 q.1)]
/-- one index of the reference's list -/
theorem r_l11 {b : Sp} {G : Nat → Nat → Nat} {M R : Mem} {k : Nat} (hv : BV b) (h : St b G M R k) {τ : Type} (qe : Mem → Option τ) {n a c : Nat} (hk : a < c → k < 120) (hn : n < 12) (ha : a < 5) (hc : c < 5) (f : Nat) : f_LinkAuditModel_allConflicts_L11 qe (f + 1) (nI (25 * n + 5 * a + c)) R = if a < c ∧ cf b G n a c then f_LinkAuditModel_allConflicts_L11 qe f (nI (25 * n + 5 * a + (c + 1))) (u1 (u1 (u1 (u1 R 25 (3 * k) (nI n)) 25 (3 * k + 1) (nI a)) 25 (3 * k + 2) (nI c)) 0 27 (nI (k + 1))) else f_LinkAuditModel_allConflicts_L11 qe f (nI (25 * n + 5 * a + (c + 1))) R := by
  have h16 := hv.1.1
  have f1 := fnd_le hv a n
  have f2 := fnd_le hv c n
  have hi : 25 * n + 5 * a + c < 1500 := by omega
  have q1 : (25 * n + 5 * a + c) / 25 = n := by omega
  have q2 : (25 * n + 5 * a + c) / 5 % 5 = a := by omega
  have q3 : (25 * n + 5 * a + c) % 5 = c := by omega
  obtain ⟨-, -, d3, d4⟩ := d_25 hi
  have d1 : nI (25 * n + 5 * a + c) / (25 : Int32) = nI n := by rw [l25, n_div (a := 25 * n + 5 * a + c) (d := 25) (by omega) (by omega) (by omega), q1]
  have k27 := h.2.2.2.2.2.2.1
  have c27 : ∀ i v, (u1 R 25 i v).1 0 = R.1 0 := fun i v => u1_ne (by omega)
  rw [f_LinkAuditModel_allConflicts_L11, l300, i_le (by omega) (by omega), if_neg (show ¬ 300 ≤ 25 * n + 5 * a + c by omega), d1, d3, d4, q2, q3, r_found hv h.2.1 ha hn, bd1_s, r_found hv h.2.1 hc hn, bd1_s, i_le (by omega) (by omega), gd_n (show 25 * n + 5 * a + c < 300 by omega) (by omega), n_cl (show 25 * n + 5 * a + c < 1000000 by omega), show nI (25 * n + 5 * a + c) + (1 : Int32) = nI (25 * n + 5 * a + (c + 1)) from n_add _ 1, i_eq0 (by omega), i_eq0 (by omega), i_eq (by omega) (by omega), k27]
  have e24 := h.2.2.2.2.1 n a c hn ha hc
  by_cases lt : a < c
  · rw [if_neg (show ¬ c ≤ a by omega)]
    rcases h.2.2.2.1 (25 * n + 5 * a + c) (by omega) with z | z
    · rw [z, i0, if_neg]
      rintro ⟨-, w, -⟩
      have := e24.mpr w
      rw [z] at this
      exact absurd this (by decide)
    · rw [z, i1]
      have e1 := e24.mp z
      by_cases e2 : fnd b a n = 0
      · rw [if_pos e2, if_neg (fun q => q.2.2.1 e2)]
      · rw [if_neg e2]
        by_cases e3 : fnd b c n = 0
        · rw [if_pos e3, if_neg (fun q => q.2.2.2.1 e3)]
        · rw [if_neg e3]
          by_cases e4 : fnd b a n = fnd b c n
          · rw [if_pos e4, if_neg (fun q => q.2.2.2.2 e4)]
          · rw [if_neg e4, if_pos ⟨lt, e1, e2, e3, e4⟩]
            have hk' := hk lt
            have m3 : (3 : Int32) * nI k = nI (3 * k) := by rw [l3, n_mul]
            rw [m3, gd_n (show 3 * k < 360 by omega) (by omega), n_cl (show 3 * k < 1000000 by omega), sm_s]
            have r0 : ∀ (i : Nat) (v : Int32) (X : Mem), (u1 X 25 i v).1 0 27 = X.1 0 27 := fun i v X => by rw [u1_ne (by omega)]
            rw [r0, k27, m3, show nI (3 * k) + (1 : Int32) = nI (3 * k + 1) from n_add _ 1, gd_n (show 3 * k + 1 < 360 by omega) (by omega), n_cl (show 3 * k + 1 < 1000000 by omega), sm_s, r0, r0, k27, m3, show nI (3 * k) + (2 : Int32) = nI (3 * k + 2) from n_add _ 2, gd_n (show 3 * k + 2 < 360 by omega) (by omega), n_cl (show 3 * k + 2 < 1000000 by omega), sm_s, r0, r0, r0, k27, show nI k + (1 : Int32) = nI (k + 1) from n_add _ 1, sm_s]
  · rw [if_pos (show c ≤ a by omega), if_neg (fun q => lt q.1)]
theorem b_l19 {b : Sp} {G : Nat → Nat → Nat} (hv : BV b) {σ τ : Type} (ke : Mem → Option σ) (qe : Mem → Option τ) {n a : Nat} (hn : n < 12) (ha : a < 5) : ∀ r f f' c M R k, r < f → c + r = 5 → a < c → k + r ≤ 120 → St b G M R k → ∃ M' R' k', f_Agreements_listConflicts_L19 (nI n) (nI a) ke f (nI c) M = ke M' ∧ f_LinkAuditModel_allConflicts_L11 qe (f' + r) (nI (25 * n + 5 * a + c)) R = f_LinkAuditModel_allConflicts_L11 qe f' (nI (25 * n + 5 * a + 5)) R' ∧ St b G M' R' k' ∧ k' ≤ k + r ∧ Fl M M' ∧ Fr R R' := by
  intro r
  induction r with
  | zero =>
    intro f f' c M R k hf hc hac hk h
    obtain ⟨f, rfl⟩ : ∃ g, f = g + 1 := ⟨f - 1, by omega⟩
    have e5 : c = 5 := by omega
    rw [e5, f_Agreements_listConflicts_L19, if_pos (by decide)]
    exact ⟨M, R, k, rfl, rfl, h, by omega, Fl_r M, Fr_r R⟩
  | succ r ih =>
    intro f f' c M R k hf hc hac hk h
    obtain ⟨f, rfl⟩ : ∃ g, f = g + 1 := ⟨f - 1, by omega⟩
    have hc5 : c < 5 := by omega
    rw [f_Agreements_listConflicts_L19, l5, i_le (by omega) (by omega), if_neg (show ¬ 5 ≤ c by omega), c_conf hv h hn ha hc5, bd1_s, i_hb, ← Nat.add_assoc, r_l11 hv h qe (fun _ => by omega) hn ha hc5, show nI c + (1 : Int32) = nI (c + 1) from n_add c 1]
    by_cases e : cf b G n a c
    · rw [if_pos e, if_pos ⟨hac, e⟩]
      have k9 := h.2.2.2.2.2.1
      have r74 : ∀ (j i : Nat) (v : Int32) (X : Mem), j ≠ 9 → (u1 X j i v).1 9 5 = X.1 9 5 := fun j i v X hj => by rw [u1_ne (by omega)]
      rw [k9, gd_n (show k < 120 by omega) (by omega), n_cl (show k < 1000000 by omega), sm_s, r74 74 _ _ _ (by omega), k9, gd_n (show k < 120 by omega) (by omega), n_cl (show k < 1000000 by omega), sm_s, r74 75 _ _ _ (by omega), r74 74 _ _ _ (by omega), k9, gd_n (show k < 120 by omega) (by omega), n_cl (show k < 1000000 by omega), sm_s, r74 76 _ _ _ (by omega), r74 75 _ _ _ (by omega), r74 74 _ _ _ (by omega), k9, show nI k + (1 : Int32) = nI (k + 1) from n_add _ 1, sm_s]
      have fl : Fl M (u1 (u1 (u1 (u1 M 74 k (nI n)) 75 k (nI a)) 76 k (nI c)) 9 5 (nI (k + 1))) := ⟨fun a' ha' => by rw [u1_ne (by omega), u1_ne (by omega), u1_ne (by omega), u1_ne (by omega)], rfl⟩
      have fr : Fr R (u1 (u1 (u1 (u1 R 25 (3 * k) (nI n)) 25 (3 * k + 1) (nI a)) 25 (3 * k + 2) (nI c)) 0 27 (nI (k + 1))) := ⟨fun a' a1 a2 => by rw [u1_ne (by omega), u1_ne (by omega), u1_ne (by omega), u1_ne (by omega)], fun i hi => by rw [u1_eq, if_neg hi, u1_ne (by omega), u1_ne (by omega), u1_ne (by omega)]⟩
      have ls : Ls (u1 (u1 (u1 (u1 M 74 k (nI n)) 75 k (nI a)) 76 k (nI c)) 9 5 (nI (k + 1))) (u1 (u1 (u1 (u1 R 25 (3 * k) (nI n)) 25 (3 * k + 1) (nI a)) 25 (3 * k + 2) (nI c)) 0 27 (nI (k + 1))) (k + 1) := by
        refine ⟨by rw [u1_eq, if_pos rfl], by rw [u1_eq, if_pos rfl], fun i hi => ?_⟩
        have m74 : (u1 (u1 (u1 (u1 M 74 k (nI n)) 75 k (nI a)) 76 k (nI c)) 9 5 (nI (k + 1))).1 74 i = if i = k then nI n else M.1 74 i := by
          rw [u1_ne (by omega), u1_ne (by omega), u1_ne (by omega), u1_eq]
        have m75 : (u1 (u1 (u1 (u1 M 74 k (nI n)) 75 k (nI a)) 76 k (nI c)) 9 5 (nI (k + 1))).1 75 i = if i = k then nI a else M.1 75 i := by
          rw [u1_ne (by omega), u1_ne (by omega), u1_eq, u1_ne (by omega)]
        have m76 : (u1 (u1 (u1 (u1 M 74 k (nI n)) 75 k (nI a)) 76 k (nI c)) 9 5 (nI (k + 1))).1 76 i = if i = k then nI c else M.1 76 i := by
          rw [u1_ne (by omega), u1_eq, u1_ne (by omega), u1_ne (by omega)]
        have r25 : ∀ j, (u1 (u1 (u1 (u1 R 25 (3 * k) (nI n)) 25 (3 * k + 1) (nI a)) 25 (3 * k + 2) (nI c)) 0 27 (nI (k + 1))).1 25 j = if j = 3 * k + 2 then nI c else if j = 3 * k + 1 then nI a else if j = 3 * k then nI n else R.1 25 j := fun j => by
          rw [u1_ne (by omega), u1_eq, u1_eq, u1_eq]
        rw [m74, m75, m76, r25, r25, r25]
        by_cases z : i = k
        · rw [z]
          rw [if_pos rfl, if_pos rfl, if_pos rfl, if_neg (show ¬ 3 * k = 3 * k + 2 by omega), if_neg (show ¬ 3 * k = 3 * k + 1 by omega), if_pos rfl, if_neg (show ¬ 3 * k + 1 = 3 * k + 2 by omega), if_pos rfl, if_pos rfl]
          exact ⟨rfl, rfl, rfl⟩
        · have old := h.2.2.2.2.2.2.2 i (by omega)
          rw [if_neg z, if_neg z, if_neg z, if_neg (by omega), if_neg (by omega), if_neg (by omega), if_neg (by omega), if_neg (by omega), if_neg (by omega), if_neg (by omega), if_neg (by omega), if_neg (by omega)]
          exact old
      obtain ⟨M', R', k', w1, w2, w3, w4, w5, w6⟩ := ih f f' (c + 1) _ _ (k + 1) (by omega) (by omega) (by omega) (by omega) (St_f h fl fr ls)
      exact ⟨M', R', k', w1, w2, w3, by omega, Fl_t fl w5, Fr_t fr w6⟩
    · rw [if_neg e, if_neg (fun q => e q.2)]
      obtain ⟨M', R', k', w1, w2, w3, w4, w5, w6⟩ := ih f f' (c + 1) M R k (by omega) (by omega) (by omega) (by omega) h
      exact ⟨M', R', k', w1, w2, w3, by omega, w5, w6⟩
theorem r_skip {b : Sp} {G : Nat → Nat → Nat} (hv : BV b) {M R : Mem} {k : Nat} (h : St b G M R k) {τ : Type} (qe : Mem → Option τ) {n a : Nat} (hn : n < 12) (ha : a < 5) : ∀ r f' c, c + r = a + 1 → f_LinkAuditModel_allConflicts_L11 qe (f' + r) (nI (25 * n + 5 * a + c)) R = f_LinkAuditModel_allConflicts_L11 qe f' (nI (25 * n + 5 * a + (a + 1))) R := by
  intro r
  induction r with
  | zero =>
    intro f' c hc
    rw [show c = a + 1 by omega]
    rfl
  | succ r ih =>
    intro f' c hc
    rw [← Nat.add_assoc, r_l11 hv h qe (fun q => by omega) hn ha (by omega), if_neg (fun q => by have := q.1; omega)]
    exact ih f' (c + 1) (by omega)
def tri : Nat → Nat
  | 0 => 0
  | r + 1 => r + tri r
theorem b_l10 {b : Sp} {G : Nat → Nat → Nat} (hv : BV b) {σ τ : Type} (ke : Mem → Option σ) (qe : Mem → Option τ) {n : Nat} (hn : n < 12) : ∀ r f f' a M R k, r < f → a + r = 5 → k + tri r ≤ 120 → St b G M R k → ∃ M' R' k', f_Agreements_listConflicts_L10 (nI n) ke f (nI a) M = ke M' ∧ f_LinkAuditModel_allConflicts_L11 qe (f' + 5 * r) (nI (25 * n + 5 * a)) R = f_LinkAuditModel_allConflicts_L11 qe f' (nI (25 * n + 25)) R' ∧ St b G M' R' k' ∧ k' ≤ k + tri r ∧ Fl M M' ∧ Fr R R' := by
  obtain ⟨fu, hfu⟩ := FU_s (r := 5) (by omega)
  intro r
  induction r with
  | zero =>
    intro f f' a M R k hf hc hk h
    obtain ⟨f, rfl⟩ : ∃ g, f = g + 1 := ⟨f - 1, by omega⟩
    have e5 : a = 5 := by omega
    rw [e5, f_Agreements_listConflicts_L10, if_pos (by decide)]
    exact ⟨M, R, k, rfl, rfl, h, by omega, Fl_r M, Fr_r R⟩
  | succ r ih =>
    intro f f' a M R k hf hc hk h
    obtain ⟨f, rfl⟩ : ∃ g, f = g + 1 := ⟨f - 1, by omega⟩
    have ha : a < 5 := by omega
    have et : tri (r + 1) = r + tri r := rfl
    rw [et] at hk ⊢
    rw [f_Agreements_listConflicts_L10, l5, i_le (by omega) (by omega), if_neg (show ¬ 5 ≤ a by omega), show nI a + (1 : Int32) = nI (a + 1) from n_add a 1]
    have sk := r_skip hv h qe hn ha (a + 1) (f' + 5 * r + r) 0 (by omega)
    obtain ⟨M1, R1, k1, a1, a2, a3, a4, a5, a6⟩ := b_l19 (G := G) hv (fun M6 => f_Agreements_listConflicts_L10 (nI n) ke f (nI (a + 1)) M6) qe hn ha r FU (f' + 5 * r) (a + 1) M R k (by omega) (by omega) (by omega) (by omega) h
    rw [a1, show f' + 5 * (r + 1) = f' + 5 * r + r + (a + 1) by omega]
    have sk' : f_LinkAuditModel_allConflicts_L11 qe (f' + 5 * r + r + (a + 1)) (nI (25 * n + 5 * a)) R = f_LinkAuditModel_allConflicts_L11 qe (f' + 5 * r + r) (nI (25 * n + 5 * a + (a + 1))) R := sk
    rw [sk', a2, show 25 * n + 5 * a + 5 = 25 * n + 5 * (a + 1) by omega]
    obtain ⟨M', R', k', w1, w2, w3, w4, w5, w6⟩ := ih f f' (a + 1) M1 R1 k1 (by omega) (by omega) (by omega) a3
    exact ⟨M', R', k', w1, w2, w3, by omega, Fl_t a5 w5, Fr_t a6 w6⟩
theorem b_l2 {b : Sp} {G : Nat → Nat → Nat} (hv : BV b) {σ τ : Type} (ke : Mem → Option σ) (qe : Mem → Option τ) : ∀ r f f' n M R k, r < f → n + r = 12 → k + 10 * r ≤ 120 → St b G M R k → ∃ M' R' k', f_Agreements_listConflicts_L2 ke f (nI n) M = ke M' ∧ f_LinkAuditModel_allConflicts_L11 qe (f' + 25 * r) (nI (25 * n)) R = f_LinkAuditModel_allConflicts_L11 qe f' (nI 300) R' ∧ St b G M' R' k' ∧ k' ≤ k + 10 * r ∧ Fl M M' ∧ Fr R R' := by
  obtain ⟨fu, hfu⟩ := FU_s (r := 5) (by omega)
  intro r
  induction r with
  | zero =>
    intro f f' n M R k hf hc hk h
    obtain ⟨f, rfl⟩ : ∃ g, f = g + 1 := ⟨f - 1, by omega⟩
    have e12 : n = 12 := by omega
    rw [e12, f_Agreements_listConflicts_L2, if_pos (by decide)]
    exact ⟨M, R, k, rfl, rfl, h, by omega, Fl_r M, Fr_r R⟩
  | succ r ih =>
    intro f f' n M R k hf hc hk h
    obtain ⟨f, rfl⟩ : ∃ g, f = g + 1 := ⟨f - 1, by omega⟩
    rw [f_Agreements_listConflicts_L2, l12, i_le (by omega) (by omega), if_neg (show ¬ 12 ≤ n by omega), show nI n + (1 : Int32) = nI (n + 1) from n_add n 1]
    obtain ⟨M1, R1, k1, a1, a2, a3, a4, a5, a6⟩ := b_l10 (G := G) hv (fun M7 => f_Agreements_listConflicts_L2 ke f (nI (n + 1)) M7) qe (show n < 12 by omega) 5 FU (f' + 25 * r) 0 M R k (by omega) (by omega) (by rw [show tri 5 = 10 from rfl]; omega) h
    rw [show tri 5 = 10 from rfl] at a4
    rw [show (0 : Int32) = nI 0 from rfl, a1, show f' + 25 * (r + 1) = f' + 25 * r + 5 * 5 by omega]
    have a2' : f_LinkAuditModel_allConflicts_L11 qe (f' + 25 * r + 5 * 5) (nI (25 * n)) R = f_LinkAuditModel_allConflicts_L11 qe (f' + 25 * r) (nI (25 * n + 25)) R1 := a2
    rw [a2', show 25 * n + 25 = 25 * (n + 1) by omega]
    obtain ⟨M', R', k', w1, w2, w3, w4, w5, w6⟩ := ih f f' (n + 1) M1 R1 k1 (by omega) (by omega) (by omega) a3
    exact ⟨M', R', k', w1, w2, w3, by omega, Fl_t a5 w5, Fr_t a6 w6⟩
/-- both sides' lists -/
theorem b_list {b : Sp} {G : Nat → Nat → Nat} (hv : BV b) {M R : Mem} (h : St b G M R 0) : ∃ M' R' k, f_Agreements_listConflicts M = some M' ∧ f_LinkAuditModel_allConflicts_L11 (fun M9 => some M9) FU (0 : Int32) R = some R' ∧ Ls M' R' k ∧ k ≤ 120 ∧ Fl M M' ∧ Fr R R' := by
  obtain ⟨fu, hfu⟩ := FU_s (r := 300) (by omega)
  obtain ⟨M', R', k, w1, w2, w3, w4, w5, w6⟩ := b_l2 (G := G) hv (fun M8 => some M8) (fun M9 => some M9) 12 FU (fu + 1) 0 M R 0 (by omega) (by omega) (by omega) h
  refine ⟨M', R', k, ?_, ?_, w3.2.2.2.2.2, by omega, w5, w6⟩
  · unfold f_Agreements_listConflicts
    rw [show (0 : Int32) = nI 0 from rfl]
    exact w1
  · have e : f_LinkAuditModel_allConflicts_L11 (fun M9 => some M9) (fu + 1 + 25 * 12) (nI 0) R = f_LinkAuditModel_allConflicts_L11 (fun M9 => some M9) (fu + 1) (nI 300) R' := w2
    rw [hfu, show (0 : Int32) = nI 0 from rfl, show fu + 1 + 300 = fu + 1 + 25 * 12 by omega, e, f_LinkAuditModel_allConflicts_L11, if_pos (by decide)]
/-- agreeing, both sides -/
theorem b_conf {b : Sp} {M R : Mem} (h : Bo b M R) (h9 : M.1 0 9 = 0) : ∃ M' R' k, f_LinkAudit_agree M = some M' ∧ f_LinkAuditModel_allConflicts R = some R' ∧ Ls M' R' k ∧ k ≤ 120 ∧ RB b R' ∧ CB b M' ∧ LK b M' ∧ M'.1 0 8 = M.1 0 8 ∧ M'.1 0 9 = 1 := by
  have hv := h.1
  have h40 := hv.1.2.1
  have h12 := hv.1.2.2
  have sq := sq_b h40
  obtain ⟨fu, hfu⟩ := FU_s (r := 2000) (by omega)
  -- clear, and the reference's first loop
  obtain ⟨M1, a1, a2, a3, a4, a5⟩ := c_clear M
  obtain ⟨R1, c1, c2, c3⟩ := r_init_L (fun M2 => f_LinkAuditModel_constrain_L38 (fun M6 => f_LinkAuditModel_constrain_L108 (fun M10 => f_LinkAuditModel_constrain_L227 (fun M13 => some M13) FU (0 : Int32) M10) FU (0 : Int32) M6) FU (0 : Int32) M2) 300 FU 0 R (by omega) (by omega) (fun j hj => by omega)
  have h1 : Bo b M1 R1 := by
    have q : Bo b M1 R := ⟨hv, CB_k h.2.1 ⟨fun a ha => a2 a (by omega), fun a _ => by rw [a3]⟩, LK_k hv h.2.2.1 (fun a q1 q2 => a2 a (by omega)) (by rw [a3]), h.2.2.2⟩
    exact Lp_Bo q c2
  have j1 : Js M1 R1 (fun _ a => a) := Js_0 a5 c3
  -- the references
  obtain ⟨M2, R2, G2, d1, d2, d3, d4, d5⟩ := b_refs (b := b) (fun M5 => f_LinkAudit_agree_L75 (fun M9 => bd1 (f_Agreements_listConflicts M9) (fun M10 => sm (u1 M10 0 9 (1 : Int32)) (fun M11 => some M11))) FU (1 : Int32) M5) (fun M6 => f_LinkAuditModel_constrain_L108 (fun M10 => f_LinkAuditModel_constrain_L227 (fun M13 => some M13) FU (0 : Int32) M10) FU (0 : Int32) M6) (nR b) FU FU 0 M1 R1 _ (by omega) (by omega) (by omega) h1 j1
  have h2 : Bo b M2 R2 := Lp_Bo (Fc_Bo h1 d4) d5
  -- the overriding methods
  obtain ⟨M3, R3, G3, e1, e2, e3, e4, e5⟩ := b_ov (b := b) (fun M9 => bd1 (f_Agreements_listConflicts M9) (fun M10 => sm (u1 M10 0 9 (1 : Int32)) (fun M11 => some M11))) (fun M10 => f_LinkAuditModel_constrain_L227 (fun M13 => some M13) FU (0 : Int32) M10) (nM b) FU FU 0 M2 R2 G2 (by omega) (by omega) (by omega) h2 d3
  have h3 : Bo b M3 R3 := Lp_Bo (Fc_Bo h2 e4) e5
  -- closing
  obtain ⟨R4, f1, f2, f3, f4⟩ := r_close (fun M13 => some M13) e3
  have h4 : Bo b M3 R4 := Lp_Bo h3 f2
  have r0 : f_LinkAuditModel_constrain R = some R4 := by
    unfold f_LinkAuditModel_constrain
    refine Eq.trans c1 (Eq.trans d2 ?_)
    show f_LinkAuditModel_constrain_L108 (fun M10 => f_LinkAuditModel_constrain_L227 (fun M13 => some M13) FU (0 : Int32) M10) FU (0 : Int32) R2 = some R4
    rw [Nat.zero_mul] at e2
    exact Eq.trans e2 f1
  -- listing
  have st : St b G3 M3 (u1 R4 0 27 0) 0 := by
    have fr : Fr R4 (u1 R4 0 27 0) := ⟨fun a q1 q2 => u1_ne (by omega), fun i hi => by rw [u1_eq, if_neg hi]⟩
    refine ⟨h4.2.1, Fr_RB h4.2.2.2.1 fr, e3.1, fun i hi => ?_, fun t x y ht hx hy => ?_, ?_, ?_, fun i hi => by omega⟩
    · rw [u1_ne (by omega)]; exact f3 i hi
    · rw [u1_ne (by omega)]; exact f4 t x y ht hx hy
    · rw [e4.1 9 (by omega), d4.1 9 (by omega)]; exact a4
    · rw [u1_eq, if_pos rfl]; rfl
  obtain ⟨M5, R5, k, g1, g2, g3, g4, g5, g6⟩ := b_list hv st
  have fin : Fl M3 M5 := g5
  refine ⟨u1 M5 0 9 1, R5, k, ?_, ?_, ?_, g4, Fr_RB st.2.1 g6, ?_, ?_, ?_, by rw [u1_eq, if_pos rfl]⟩
  · unfold f_LinkAudit_agree
    rw [h9, i0, a1, bd1_s]
    refine Eq.trans d1 (Eq.trans e1 ?_)
    show bd1 (f_Agreements_listConflicts M3) (fun M10 => sm (u1 M10 0 9 (1 : Int32)) (fun M11 => some M11)) = _
    rw [g1, bd1_s, sm_s]
  · unfold f_LinkAuditModel_allConflicts
    rw [r0, bd1_s, sm_s]
    exact g2
  · refine ⟨by rw [u1_ne (by omega)]; exact g3.1, g3.2.1, fun i hi => ?_⟩
    rw [u1_ne (by omega), u1_ne (by omega), u1_ne (by omega)]
    exact g3.2.2 i hi
  · exact CB_k h4.2.1 ⟨fun a ha => by rw [u1_ne (by omega), fin.1 a (by omega)], fun a _ => by show M5.2 a = _; rw [fin.2]⟩
  · exact LK_k hv h4.2.2.1 (fun a q1 q2 => by rw [u1_ne (by omega), fin.1 a (by omega)]) (by show M5.2 60 = _; rw [fin.2])
  · rw [u1_eq, if_neg (by omega), fin.1 0 (by omega), e4.1 0 (by omega), d4.1 0 (by omega), a2 0 (by omega)]
/-- the class's list of conflicts is what the reference comes to, wherever it starts -/
def AG (b : Sp) (M : Mem) : Prop := ∀ R, RB b R → RP b R → ∃ R' k, f_LinkAuditModel_allConflicts R = some R' ∧ RB b R' ∧ Ls M R' k ∧ k ≤ 120
theorem AG_k {b : Sp} {M N : Mem} (h : AG b M) (e : ∀ a, a = 9 ∨ (74 ≤ a ∧ a ≤ 76) → N.1 a = M.1 a) : AG b N := fun R h1 h2 => by
  obtain ⟨R', k, w1, w2, w3, w4⟩ := h R h1 h2
  refine ⟨R', k, w1, w2, ?_, w4⟩
  unfold Ls
  rw [e 9 (by omega), e 74 (by omega), e 75 (by omega), e 76 (by omega)]
  exact w3
theorem c_agree {b : Sp} {M R : Mem} (h : Bo b M R) (h9 : M.1 0 9 = 0 ∨ (M.1 0 9 = 1 ∧ AG b M)) : ∃ M', f_LinkAudit_agree M = some M' ∧ CB b M' ∧ LK b M' ∧ AG b M' ∧ M'.1 0 8 = M.1 0 8 ∧ M'.1 0 9 = 1 := by
  rcases h9 with z | ⟨z, ag⟩
  · obtain ⟨M', R', k, w1, w2, w3, w4, w5, w6, w7, w8, w9⟩ := b_conf h z
    refine ⟨M', w1, w6, w7, fun R1 r1 r2 => ?_, w8, w9⟩
    obtain ⟨M'', R'', k', v1, v2, v3, v4, v5, -⟩ := b_conf (show Bo b M R1 from ⟨h.1, h.2.1, h.2.2.1, r1, r2⟩) z
    rw [w1] at v1
    have e : M' = M'' := Option.some.inj v1
    rw [← e] at v3
    exact ⟨R'', k', v2, v5, v3, v4⟩
  · refine ⟨M, ?_, h.2.1, h.2.2.1, ag, rfl, z⟩
    unfold f_LinkAudit_agree
    rw [z, i1]
/-! the relation -/
def Lf (b : Sp) (M : Mem) : Prop := (M.1 0 8 = 0 ∧ M.1 0 9 = 0) ∨ (M.1 0 8 = 1 ∧ LK b M ∧ (M.1 0 9 = 0 ∨ (M.1 0 9 = 1 ∧ AG b M)))
def Rel (Mc Mr : Mem) : Prop := ∃ b, Base b Mc Mr ∧ Lf b Mc
theorem Rel_mut {Mc Mr : Mem} {x y : Option (Int32 × Mem)} (h : Rel Mc Mr) (m : Mut Mc Mr x y) : SimW Rel x y := by
  rcases m with ⟨r, e1, e2⟩ | ⟨r, b', Nc, Nr, e1, e2, e3, e4⟩
  · exact ⟨r, Mc, Mr, e1, e2, h⟩
  · exact ⟨r, Nc, Nr, e1, e2, b', e3, Or.inl e4⟩
/-- linked, and the reference prepared -/
theorem b_start {b : Sp} {Mc Mr : Mem} (h : Base b Mc Mr) (l : Lf b Mc) : ∃ N R, f_LinkAudit_link Mc = some N ∧ f_LinkAuditModel_prepare Mr = some R ∧ Bo b N R ∧ N.1 0 8 = 1 ∧ (N.1 0 9 = 0 ∨ (N.1 0 9 = 1 ∧ AG b N)) := by
  obtain ⟨hv, hr, hc⟩ := h
  obtain ⟨R, r1, r2, r3⟩ := r_prepare hv hr
  rcases l with ⟨l1, l2⟩ | ⟨l1, l2, l3⟩
  · obtain ⟨N, n1, n2, n3, n4, n5, -⟩ := c_link hv hc (Or.inl l1)
    exact ⟨N, R, n1, r1, ⟨hv, n2, n3, RB_Lo hr r2, r3⟩, n4, Or.inl (by rw [n5]; exact l2)⟩
  · obtain ⟨N, n1, n2, n3, n4, n5, n6⟩ := c_link hv hc (Or.inr ⟨l1, l2⟩)
    have e := n6 l1
    rw [e] at n1
    exact ⟨Mc, R, n1, r1, ⟨hv, hc, l2, RB_Lo hr r2, r3⟩, l1, l3⟩
theorem Rel_of {b : Sp} {N R : Mem} (h : Bo b N R) (l1 : N.1 0 8 = 1) (l2 : N.1 0 9 = 0 ∨ (N.1 0 9 = 1 ∧ AG b N)) : Rel N R := ⟨b, ⟨h.1, h.2.2.2.1, h.2.1⟩, Or.inr ⟨l1, h.2.2.1, l2⟩⟩
theorem AG_sw {b : Sp} {M N : Mem} (h : M.1 0 9 = 0 ∨ (M.1 0 9 = 1 ∧ AG b M)) (s : Sw M N) : N.1 0 9 = 0 ∨ (N.1 0 9 = 1 ∧ AG b N) := by
  rw [s.1 0 (by omega)]
  exact h.imp id (fun q => ⟨q.1, AG_k q.2 (fun a ha => s.1 a (by omega))⟩)
theorem s_load : Sim_load Rel := by
  intro Mc Mr h a
  have h' := h
  obtain ⟨b, hb, hl⟩ := h
  have h16 := hb.1.1.1
  unfold f_LinkAudit_load f_LinkAuditModel_load
  rcases rgC hb a with ⟨x, x1, x2, rfl, e1, e2⟩ | ⟨e1, e2⟩
  · obtain ⟨N, R, n1, n2, n3, n4, n5⟩ := b_start hb hl
    obtain ⟨R', lo, rl⟩ := r_loadCode hb.1 hb.2.1 x1 x2
    rw [e1, e2, bd1_s, bd1_s, i1, i1, n1, bd1_s, gd_n (by omega) (by omega), n_cl (by omega), rl, bd2_s]
    have rel : Rel N R' := by
      refine ⟨b, ⟨hb.1, RB_Lo hb.2.1 (Lo_le lo (by omega)), n3.2.1⟩, Or.inr ⟨n4, n3.2.2.1, n5⟩⟩
    by_cases z : cde b x = 0
    · rw [if_pos z, (n3.2.2.1.1 x x1 x2 ((cde_0 hb.1 x1 x2).mp z)).1]
      exact ⟨_, N, R', rfl, rfl, rel⟩
    · rw [if_neg z, n3.2.2.1.2.1 x x1 x2 (fun q => z ((cde_0 hb.1 x1 x2).mpr q))]
      exact ⟨_, N, R', rfl, rfl, rel⟩
  · rw [e1, e2, bd1_s, bd1_s, i0, i0]
    exact ⟨_, Mc, Mr, rfl, rfl, h'⟩
theorem s_verdict : Sim_verdict Rel := by
  intro Mc Mr h a
  have h' := h
  obtain ⟨b, hb, hl⟩ := h
  have h12 := hb.1.1.2.2
  unfold f_LinkAudit_verdict f_LinkAuditModel_verdict
  rw [hb.2.2.1.2.2, hb.2.1.2.2.1]
  have no : ∀ x y : Option Int32, x = some 0 → y = some 0 → SimW Rel (bd1 x (fun r1 => if r1 = 0 then some ((-1 : Int32), Mc) else bd1 (f_LinkAudit_link Mc) (fun M2 => bd2 (f_Resolver_verdictOf M2 a) (fun r4 M3 => some (r4, M3))))) (bd1 y (fun r1 => if r1 = 0 then some ((-1 : Int32), Mr) else bd1 (f_LinkAuditModel_prepare Mr) (fun M2 => bd2 (f_LinkAuditModel_verdictOf M2 a) (fun r4 M3 => some (r4, M3))))) := fun x y e1 e2 => by
    rw [e1, e2, bd1_s, bd1_s, i0, i0]
    exact ⟨_, Mc, Mr, rfl, rfl, h'⟩
  by_cases n0 : nR b = 0
  · rw [n0]
    refine no _ _ ?_ ?_
    · unfold f_LinkAudit_isBelow
      by_cases z : a < 0
      · rw [if_pos z]
      · rw [if_neg z, if_pos]
        obtain ⟨j, j1, rfl⟩ := nI_of z
        exact (nI_leI (a := 0) (by omega) j1).mpr (Nat.zero_le _)
    · unfold f_LinkAuditModel_in
      by_cases z : a < 0
      · rw [if_pos z]
      · rw [if_neg z, if_pos]
        obtain ⟨j, j1, rfl⟩ := nI_of z
        have : (0 : Int32) ≤ nI j := (nI_leI (a := 0) (by omega) j1).mpr (Nat.zero_le _)
        exact Int32.lt_of_lt_of_le (by decide) this
  · have es : nI (nR b) - (1 : Int32) = nI (nR b - 1) := n_sub (b := 1) (by omega)
    rw [es]
    rcases rg a (nR b) (by omega) (by omega) with ⟨i, i1', rfl, e1, e2⟩ | ⟨e1, e2⟩
    · rw [e1, show f_LinkAuditModel_in (nI i) (0 : Int32) (nI (nR b - 1)) = some 1 from e2, bd1_s, bd1_s, i1, i1]
      obtain ⟨N, R, n1, n2, n3, n4, n5⟩ := b_start hb hl
      rw [n1, n2, bd1_s, bd1_s]
      obtain ⟨v, M', R', v1, v2, v3, v4, -⟩ := b_verd n3 i1'
      rw [v1, v2, bd2_s, bd2_s]
      exact ⟨v, M', R', rfl, rfl, Rel_of (Bo_s n3 v3 v4) (by rw [v3.1 0 (by omega)]; exact n4) (AG_sw n5 v3)⟩
    · exact no _ _ e1 e2
theorem s_gaps : Sim_gaps Rel := by
  intro Mc Mr h
  obtain ⟨b, hb, hl⟩ := h
  obtain ⟨N, R, n1, n2, n3, n4, n5⟩ := b_start hb hl
  obtain ⟨c, R', w1, w2, w3, -⟩ := b_gaps n3
  unfold f_LinkAudit_gaps f_LinkAuditModel_gaps
  rw [n1, n2, bd1_s, bd1_s, w1, w2, bd1_s, bd2_s]
  exact ⟨_, N, R', rfl, rfl, Rel_of (Bo_q n3 w3) n4 n5⟩
/-- a member's number, or not -/
theorem rgM {b : Sp} {Mc Mr : Mem} (h : Base b Mc Mr) (a : Int32) : (∃ m, mr b m ∧ a = nI m ∧ f_LinkAudit_isMethod Mc a = some (if b 10 m = 0 then 0 else 1) ∧ f_LinkAuditModel_in a 1 (Mr.1 0 9) = some 1) ∨ (f_LinkAudit_isMethod Mc a = some 0 ∧ f_LinkAuditModel_in a 1 (Mr.1 0 9) = some 0) := by
  obtain ⟨hv, hr, hc⟩ := h
  have h40 := hv.1.2.1
  unfold f_LinkAudit_isMethod f_LinkAuditModel_in
  rw [hr.2.1, hc.1.2.1]
  by_cases z : a < 1
  · rw [if_pos z, if_pos z]; exact Or.inr ⟨rfl, rfl⟩
  · rw [if_neg z, if_neg z]
    by_cases y : nI (nM b) < a
    · rw [if_pos y, if_pos y]; exact Or.inr ⟨rfl, rfl⟩
    · rw [if_neg y, if_neg y]
      have z0 : ¬ a < 0 := fun q => z (Int32.lt_trans q (by decide))
      obtain ⟨m, hk, rfl⟩ := nI_of z0
      rw [nI_ltI (by omega) hk] at y
      rw [l1, nI_ltI hk (by omega)] at z
      have hm : mr b m := ⟨by omega, by omega⟩
      obtain ⟨m40, m1, m2, m3, m4, m5, m6, m7⟩ := m_lt hv hm
      refine Or.inl ⟨m, hm, rfl, ?_, rfl⟩
      unfold f_Members_isMethod
      rw [gd_n (by omega) (by omega), n_cl (by omega), (hc.2.2.2.2.1 m hm.1 hm.2).2.1, i_169 m3 m4 m5 m6]
      by_cases e : b 10 m = 0
      · rw [if_pos e, if_pos e, bd1_s, i0]
      · rw [if_neg e, if_neg e, bd1_s, i1]
theorem s_overrides : Sim_overrides Rel := by
  intro Mc Mr h a1 a2
  have h' := h
  obtain ⟨b, hb, hl⟩ := h
  have hv := hb.1
  have h16 := hv.1.1
  unfold f_LinkAudit_overrides f_LinkAuditModel_overrides
  rcases rgM hb a1 with ⟨m, hm, rfl, e1, e2⟩ | ⟨e1, e2⟩
  · obtain ⟨m40, m1, m2, m3, -⟩ := m_lt hv hm
    rw [e1, e2, bd1_s, bd1_s, if_neg (show ¬ (1 : Int32) = 0 by decide)]
    rcases rgM hb a2 with ⟨o, ho, rfl, e3, e4⟩ | ⟨e3, e4⟩
    · obtain ⟨o40, o1, o2, o3, -⟩ := m_lt hv ho
      rw [e3, e4, bd1_s, bd1_s, if_neg (show ¬ (1 : Int32) = 0 by decide), gd_n (show m < 41 by omega) (by omega), n_cl (show m < 1000000 by omega), hb.2.1.2.2.2 10 (by omega) (by omega), i_eq0 (by omega), gd_n (show o < 41 by omega) (by omega), n_cl (show o < 1000000 by omega), hb.2.1.2.2.2 10 (by omega) (by omega), i_eq0 (by omega)]
      by_cases k1 : b 10 m = 0
      · rw [if_pos k1, if_pos k1, if_pos (show (0 : Int32) = 0 from rfl)]
        exact ⟨_, Mc, Mr, rfl, rfl, h'⟩
      · rw [if_neg k1, if_neg k1, if_neg (show ¬ (1 : Int32) = 0 by decide)]
        by_cases k2 : b 10 o = 0
        · rw [if_pos k2, if_pos k2, if_pos (show (0 : Int32) = 0 from rfl)]
          exact ⟨_, Mc, Mr, rfl, rfl, h'⟩
        · rw [if_neg k2, if_neg k2, if_neg (show ¬ (1 : Int32) = 0 by decide)]
          obtain ⟨N, R, n1, n2, n3, n4, n5⟩ := b_start hb hl
          rw [n1, n2, bd1_s, bd1_s, gd_n (show m < 41 by omega) (by omega), n3.2.2.2.1.2.2.2 9 (by omega) (by omega), gd_n (show b 9 m < 17 by omega) (by omega), n_cl (show b 9 m < 1000000 by omega), (n3.2.2.2.2.1 _ m1 m2).1, gd_n (show o < 41 by omega) (by omega), n3.2.2.2.1.2.2.2 9 (by omega) (by omega), gd_n (show b 9 o < 17 by omega) (by omega), n_cl (show b 9 o < 1000000 by omega), (n3.2.2.2.2.1 _ o1 o2).1]
          have cls := c_over hv n3.2.1 n3.2.2.1 hm ho
          by_cases c0 : cde b (b 9 m) = 0
          · have g := (cde_0 hv m1 m2).mp c0
            rw [if_pos c0]
            by_cases c1 : cde b (b 9 o) = 0
            · rw [if_pos c1]
              obtain ⟨R', lo, q⟩ := r_over hv n3.2.2.2.1 n3.2.2.2.2 hm ho g
              have rel : Rel N R' := Rel_of (Bo_q n3 lo) n4 n5
              rcases cls with ⟨p1, p2⟩ | ⟨p1, p2⟩
              · rw [p1, bd1_s, gd_p (Or.inr rfl)]
                rcases q with ⟨q1, q2⟩ | ⟨q1, q2⟩
                · rw [q1, bd2_s, if_neg (show ¬ (1 : Int32) = 0 by decide)]
                  exact ⟨1, N, R', rfl, rfl, rel⟩
                · exact absurd p2.2 q2
              · rw [p1, bd1_s, gd_p (Or.inl rfl)]
                rcases q with ⟨q1, q2⟩ | ⟨q1, q2⟩
                · exact absurd ⟨c0, q2⟩ p2
                · rw [q1, bd2_s, if_pos (show (0 : Int32) = 0 from rfl)]
                  exact ⟨0, N, R', rfl, rfl, rel⟩
            · rw [if_neg c1]
              rcases cls with ⟨p1, p2⟩ | ⟨p1, p2⟩
              · have : good b (b 9 o) := p2.2.1.elim (fun w => (pm_in hv g w).1) (fun w => (fm_in hv g w).1)
                exact absurd ((cde_0 hv o1 o2).mpr this) c1
              · rw [p1, bd1_s, gd_p (Or.inl rfl)]
                exact ⟨0, N, R, rfl, rfl, Rel_of n3 n4 n5⟩
          · rw [if_neg c0]
            rcases cls with ⟨p1, p2⟩ | ⟨p1, p2⟩
            · exact absurd p2.1 c0
            · rw [p1, bd1_s, gd_p (Or.inl rfl)]
              exact ⟨0, N, R, rfl, rfl, Rel_of n3 n4 n5⟩
    · rw [e3, e4, bd1_s, bd1_s, if_pos (show (0 : Int32) = 0 from rfl), if_pos (show (0 : Int32) = 0 from rfl)]
      by_cases k1 : b 10 m = 0
      · rw [if_pos k1, if_pos (show (0 : Int32) = 0 from rfl)]
        exact ⟨_, Mc, Mr, rfl, rfl, h'⟩
      · rw [if_neg k1, if_neg (show ¬ (1 : Int32) = 0 by decide)]
        exact ⟨_, Mc, Mr, rfl, rfl, h'⟩
  · rw [e1, e2, bd1_s, bd1_s, if_pos (show (0 : Int32) = 0 from rfl), if_pos (show (0 : Int32) = 0 from rfl)]
    exact ⟨_, Mc, Mr, rfl, rfl, h'⟩
theorem s_select : Sim_select Rel := by
  intro Mc Mr h a1 a2
  have h' := h
  obtain ⟨b, hb, hl⟩ := h
  have hv := hb.1
  have h16 := hv.1.1
  unfold f_LinkAudit_select f_LinkAuditModel_select
  have i1' : ∀ {α : Type} {p q : α}, (if (1 : Int32) = 0 then p else q) = q := fun {α} {p q} => if_neg (by decide)
  have i0' : ∀ {α : Type} {p q : α}, (if (0 : Int32) = 0 then p else q) = p := fun {α} {p q} => if_pos rfl
  rcases rgC hb a1 with ⟨x, x1, x2, rfl, e1, e2⟩ | ⟨e1, e2⟩
  · rw [e1, e2, bd1_s, bd1_s, i1', i1']
    rcases rgM hb a2 with ⟨m, hm, rfl, e3, e4⟩ | ⟨e3, e4⟩
    · obtain ⟨m40, m1, m2, m3, m4, m5, m6, m7⟩ := m_lt hv hm
      obtain ⟨N, R, n1, n2, n3, n4, n5⟩ := b_start hb hl
      have hr := n3.2.2.2.1
      have hp := n3.2.2.2.2
      have hx := hv.2.2.1 x x1 x2
      rw [e3, e4, bd1_s, bd1_s, i1', n2, bd1_s]
      -- the reference's last questions
      have b63 : ∀ t : Int32, (t = 0 ∨ t = 1) → f_LinkAuditModel_select_b63 R (nI x) (nI m) t = if cde b x = 0 ∧ b 6 x &&& 8 = 0 ∧ b 10 m ≠ 0 ∧ b 14 m &&& 4 = 0 ∧ t = 1 then bd2 (f_LinkAuditModel_select2 R (nI x) (nI m)) (fun r7 M6 => some (r7, M6)) else some ((-1 : Int32), R) := by
        intro t ht
        unfold f_LinkAuditModel_select_b63
        simp (disch := omega) only [gd_n, n_cl]
        rw [(hp.1 x x1 x2).1, r_isI hv hr x1 x2, bd1_s, hr.2.2.2 10 (by omega) (by omega), hr.2.2.2 14 (by omega) (by omega), i_eq0 (show b 10 m < 1000000 by omega), l4, i_and (show b 14 m < 1000000 by omega)]
        by_cases c1 : cde b x = 0
        · rw [if_pos c1]
          by_cases c2 : b 6 x &&& 8 = 0
          · rw [if_pos c2, i0']
            by_cases c3 : b 10 m = 0
            · rw [if_pos c3, if_neg (fun q => q.2.2.1 c3)]
            · rw [if_neg c3]
              by_cases c4 : b 14 m &&& 4 = 0
              · rw [if_pos c4]
                rcases ht with c5 | c5
                · rw [c5, i0', if_neg (fun q => absurd q.2.2.2.2 (by decide))]
                · rw [c5, i1', if_pos ⟨c1, c2, c3, c4, rfl⟩]
              · rw [if_neg c4, if_neg (fun q => c4 q.2.2.2.1)]
          · rw [if_neg c2, i1', if_neg (fun q => c2 q.2.1)]
        · rw [if_neg c1, if_neg (fun q => c1 q.1)]
      have ref : ∃ t : Int32, (t = 0 ∨ t = 1) ∧ (t = 1 ↔ (T1 b x).testBit (b 9 m) = true ∨ (T2 b x).testBit (b 9 m) = true) ∧ (gd (ok (nI m) 41) (bd1 (f_LinkAuditModel_isSub R (nI x) (R.1 9 (nI m).toNatClampNeg)) (fun r4 => if r4 = 0 then gd (ok (nI m) 41) (bd1 (f_LinkAuditModel_hasFace R (nI x) (R.1 9 (nI m).toNatClampNeg)) (fun r8 => if r8 = 0 then f_LinkAuditModel_select_b63 R (nI x) (nI m) (0 : Int32) else f_LinkAuditModel_select_b58 R (nI x) (nI m))) else f_LinkAuditModel_select_b58 R (nI x) (nI m)))) = f_LinkAuditModel_select_b63 R (nI x) (nI m) t := by
        unfold f_LinkAuditModel_select_b58
        simp (disch := omega) only [gd_n, n_cl]
        rw [hr.2.2.2 9 (by omega) (by omega), r_sub hv hp x1 x2 (by omega), bd1_s, i_hb, r_face hv hp x1 x2 (by omega), bd1_s, i_hb]
        by_cases p : (T1 b x).testBit (b 9 m) = true
        · rw [if_pos p]
          exact ⟨1, Or.inr rfl, ⟨fun _ => Or.inl p, fun _ => rfl⟩, rfl⟩
        · rw [if_neg p]
          by_cases f : (T2 b x).testBit (b 9 m) = true
          · rw [if_pos f]
            exact ⟨1, Or.inr rfl, ⟨fun _ => Or.inr f, fun _ => rfl⟩, rfl⟩
          · rw [if_neg f]
            exact ⟨0, Or.inl rfl, ⟨fun q => absurd q (by decide), fun q => (q.elim p f).elim⟩, rfl⟩
      obtain ⟨t, t1, t2, t3⟩ := ref
      rw [t3, b63 t t1]
      by_cases k0 : b 10 m = 0
      · rw [if_pos k0, i0', if_neg (fun q => q.2.2.1 k0)]
        exact ⟨_, Mc, R, rfl, rfl, b, ⟨hv, hr, hb.2.2⟩, hl⟩
      · rw [if_neg k0, i1', n1, bd1_s]
        -- the class's questions
        have cls : f_Selector_isSelectable N (nI x) (nI m) = some (if cde b x = 0 ∧ b 6 x &&& 8 = 0 ∧ b 10 m ≠ 0 ∧ b 14 m &&& 4 = 0 ∧ t = 1 then 1 else 0) := by
          unfold f_Selector_isSelectable
          simp (disch := omega) only [gd_n, n_cl]
          rw [c_isL hv n3.2.2.1 x1 x2, bd1_s, i_hb, c_isI hv n3.2.1 x1 x2, bd1_s, c_isS hv n3.2.1 hm, bd1_s, (n3.2.1.2.2.2.2.1 m hm.1 hm.2).1, i_eq (show x < 1000000 by omega) (show b 9 m < 1000000 by omega)]
          by_cases c1 : cde b x = 0
          · have g := (cde_0 hv x1 x2).mp c1
            have tp : t = 1 ↔ x = b 9 m ∨ Ps b x (b 9 m) := by
              rw [t2, T1_pm hv x1 x2 g, T2_fm hv x1 x2 g, Nat.testBit_or, Bool.or_eq_true, p2_b]
              exact ⟨fun q => q.elim (fun w => w.imp id Or.inl) (fun w => Or.inr (Or.inr w)), fun q => q.elim (fun w => Or.inl (Or.inl w)) (fun w => w.elim (fun z => Or.inl (Or.inr z)) Or.inr)⟩
            rw [if_pos c1]
            by_cases c2 : b 6 x &&& 8 = 0
            · rw [if_pos c2, i0']
              by_cases c4 : b 14 m &&& 4 = 0
              · rw [if_pos c4, i0', c_isPs hv n3.2.2.1 x1 x2 g (by omega), bd1_s, i_hb]
                by_cases c5 : x = b 9 m
                · rw [if_pos c5, if_pos ⟨c1, c2, k0, c4, tp.mpr (Or.inl c5)⟩]
                · rw [if_neg c5]
                  by_cases c6 : Ps b x (b 9 m)
                  · rw [if_pos c6, if_pos ⟨c1, c2, k0, c4, tp.mpr (Or.inr c6)⟩]
                  · rw [if_neg c6, if_neg (fun q => (tp.mp q.2.2.2.2).elim c5 c6)]
              · rw [if_neg c4, i1', if_neg (fun q => c4 q.2.2.2.1)]
            · rw [if_neg c2, i1', if_neg (fun q => c2 q.2.1)]
          · rw [if_neg c1, if_neg (fun q => c1 q.1)]
        rw [cls, bd1_s, i_hb]
        by_cases all : cde b x = 0 ∧ b 6 x &&& 8 = 0 ∧ b 10 m ≠ 0 ∧ b 14 m &&& 4 = 0 ∧ t = 1
        · rw [if_pos all, if_pos all]
          obtain ⟨v, R', s1, s2, s3⟩ := b_sel n3 x1 x2 ((cde_0 hv x1 x2).mp all.1) hm (show b 10 m = 1 by omega) all.2.2.2.1
          rw [s1, s2, bd1_s, bd2_s]
          exact ⟨v, N, R', rfl, rfl, Rel_of (Bo_q n3 s3) n4 n5⟩
        · rw [if_neg all, if_neg all]
          exact ⟨_, N, R, rfl, rfl, Rel_of n3 n4 n5⟩
    · rw [e3, e4, bd1_s, bd1_s, i0', i0']
      exact ⟨_, Mc, Mr, rfl, rfl, h'⟩
  · rw [e1, e2, bd1_s, bd1_s, i0', i0']
    exact ⟨_, Mc, Mr, rfl, rfl, h'⟩
theorem s_conflicts : Sim_conflicts Rel := by
  intro Mc Mr h
  obtain ⟨b, hb, hl⟩ := h
  obtain ⟨N, R, n1, n2, n3, n4, n5⟩ := b_start hb hl
  obtain ⟨M', w1, w2, w3, w4, w5, w6⟩ := c_agree n3 n5
  obtain ⟨R', k, v1, v2, v3, v4⟩ := w4 R n3.2.2.2.1 n3.2.2.2.2
  unfold f_LinkAudit_conflicts f_LinkAuditModel_conflicts
  rw [n1, n2, bd1_s, bd1_s, w1, v1, bd1_s, bd1_s, v3.1, v3.2.1]
  exact ⟨_, M', R', rfl, rfl, b, ⟨hb.1, v2, w2⟩, Or.inr ⟨by rw [w5]; exact n4, w3, Or.inr ⟨w6, w4⟩⟩⟩
theorem s_conflict : Sim_conflict Rel := by
  intro Mc Mr h a1 a2
  obtain ⟨b, hb, hl⟩ := h
  obtain ⟨N, R, n1, n2, n3, n4, n5⟩ := b_start hb hl
  obtain ⟨M', w1, w2, w3, w4, w5, w6⟩ := c_agree n3 n5
  obtain ⟨R', k, v1, v2, v3, v4⟩ := w4 R n3.2.2.2.1 n3.2.2.2.2
  have i1' : ∀ {α : Type} {p q : α}, (if (1 : Int32) = 0 then p else q) = q := fun {α} {p q} => if_neg (by decide)
  have i0' : ∀ {α : Type} {p q : α}, (if (0 : Int32) = 0 then p else q) = p := fun {α} {p q} => if_pos rfl
  have lf : Lf b M' := Or.inr ⟨by rw [w5]; exact n4, w3, Or.inr ⟨w6, w4⟩⟩
  have relR : Rel M' R' := ⟨b, ⟨hb.1, v2, w2⟩, lf⟩
  have relM : Rel M' Mr := ⟨b, ⟨hb.1, hb.2.1, w2⟩, lf⟩
  unfold f_LinkAudit_conflict f_LinkAuditModel_conflict
  rw [n1, n2, bd1_s, bd1_s, w1, v1, bd1_s, bd1_s, v3.1, v3.2.1]
  by_cases z : a1 < 0
  · have e : f_LinkAudit_isBelow a1 (nI k) = some 0 := by
      unfold f_LinkAudit_isBelow
      rw [if_pos z]
    rw [if_pos z, e, bd1_s, i0']
    exact ⟨_, M', Mr, rfl, rfl, relM⟩
  · rw [if_neg z]
    obtain ⟨i, hi, rfl⟩ := nI_of z
    have e : f_LinkAudit_isBelow (nI i) (nI k) = some (if k ≤ i then 0 else 1) := by
      unfold f_LinkAudit_isBelow
      rw [if_neg z]
      by_cases q : k ≤ i
      · rw [if_pos q, if_pos ((nI_leI (by omega) hi).mpr q)]
      · rw [if_neg q, if_neg (fun w => q ((nI_leI (by omega) hi).mp w))]
    have e2 : ∀ {α : Type} {p q : α}, (if nI k ≤ nI i then p else q) = if k ≤ i then p else q := fun {α} {p q} => i_cg (nI_leI (by omega) hi)
    rw [e, bd1_s, e2]
    have inn : (a2 = 0 ∧ f_LinkAuditModel_in a2 0 2 = some 1) ∨ (a2 = 1 ∧ f_LinkAuditModel_in a2 0 2 = some 1) ∨ (a2 = 2 ∧ f_LinkAuditModel_in a2 0 2 = some 1) ∨ (a2 ≠ 0 ∧ a2 ≠ 1 ∧ a2 ≠ 2 ∧ f_LinkAuditModel_in a2 0 2 = some 0) := by
      rcases pk_ix a2 (show 3 < 2 ^ 31 by omega) with q | q | ⟨j, j1, rfl⟩
      · refine Or.inr (Or.inr (Or.inr ⟨?_, ?_, ?_, ?_⟩))
        · intro w; rw [w] at q; exact absurd q (by decide)
        · intro w; rw [w] at q; exact absurd q (by decide)
        · intro w; rw [w] at q; exact absurd q (by decide)
        · unfold f_LinkAuditModel_in; rw [if_pos q]
      · refine Or.inr (Or.inr (Or.inr ⟨?_, ?_, ?_, ?_⟩))
        · intro w; rw [w] at q; exact absurd q (by decide)
        · intro w; rw [w] at q; exact absurd q (by decide)
        · intro w; rw [w] at q; exact absurd q (by decide)
        · unfold f_LinkAuditModel_in
          by_cases w : a2 < 0
          · rw [if_pos w]
          · rw [if_neg w, if_pos]
            exact Int32.lt_of_lt_of_le (by decide) q
      · rcases (show j = 0 ∨ j = 1 ∨ j = 2 by omega) with w | w | w
        · rw [w]; exact Or.inl ⟨rfl, by decide⟩
        · rw [w]; exact Or.inr (Or.inl ⟨rfl, by decide⟩)
        · rw [w]; exact Or.inr (Or.inr (Or.inl ⟨rfl, by decide⟩))
    by_cases q : k ≤ i
    · rw [if_pos q, i0', if_pos q]
      rcases inn with ⟨-, w⟩ | ⟨-, w⟩ | ⟨-, w⟩ | ⟨-, -, -, w⟩
      · rw [w, bd1_s, i1']; exact ⟨_, M', R', rfl, rfl, relR⟩
      · rw [w, bd1_s, i1']; exact ⟨_, M', R', rfl, rfl, relR⟩
      · rw [w, bd1_s, i1']; exact ⟨_, M', R', rfl, rfl, relR⟩
      · rw [w, bd1_s, i0']; exact ⟨_, M', Mr, rfl, rfl, relM⟩
    · rw [if_neg q, i1', if_neg q]
      obtain ⟨s1, s2, s3⟩ := v3.2.2 i (by omega)
      rcases inn with ⟨rfl, w⟩ | ⟨rfl, w⟩ | ⟨rfl, w⟩ | ⟨c0, c1, c2, w⟩
      · rw [w, bd1_s, i1', if_pos rfl, gd_n (show i < 120 by omega) (by omega), n_cl (show i < 1000000 by omega), s1, show (3 : Int32) * nI i + (0 : Int32) = nI (3 * i) by rw [l3, n_mul]; exact n_add (3 * i) 0, gd_n (show 3 * i < 360 by omega) (by omega), n_cl (show 3 * i < 1000000 by omega)]
        exact ⟨_, M', R', rfl, rfl, relR⟩
      · rw [w, bd1_s, i1', i1', if_pos rfl, gd_n (show i < 120 by omega) (by omega), n_cl (show i < 1000000 by omega), s2, show (3 : Int32) * nI i + (1 : Int32) = nI (3 * i + 1) by rw [l3, n_mul]; exact n_add (3 * i) 1, gd_n (show 3 * i + 1 < 360 by omega) (by omega), n_cl (show 3 * i + 1 < 1000000 by omega)]
        exact ⟨_, M', R', rfl, rfl, relR⟩
      · rw [w, bd1_s, i1', if_neg (show ¬ (2 : Int32) = 0 by decide), if_neg (show ¬ (2 : Int32) = 1 by decide), if_pos rfl, gd_n (show i < 120 by omega) (by omega), n_cl (show i < 1000000 by omega), s3, show (3 : Int32) * nI i + (2 : Int32) = nI (3 * i + 2) by rw [l3, n_mul]; exact n_add (3 * i) 2, gd_n (show 3 * i + 2 < 360 by omega) (by omega), n_cl (show 3 * i + 2 < 1000000 by omega)]
        exact ⟨_, M', R', rfl, rfl, relR⟩
      · rw [w, bd1_s, i0', if_neg c0, if_neg c1, if_neg c2]
        exact ⟨_, M', Mr, rfl, rfl, relM⟩
theorem b_codes {b : Sp} {σ τ : Type} (ke : Int32 → Mem → Option σ) (qe : Int32 → Mem → Option τ) : ∀ r f f' i c c' M R, r < f → r < f' → i + r = nR b → Bo b M R → ∃ d M' R', f_Resolver_codeCount_L4 ke f (nI c) (nI i) M = ke (nI (c + d)) M' ∧ f_LinkAuditModel_faults_L11 qe f' (nI c') (nI i) R = qe (nI (c' + d)) R' ∧ Sw M M' ∧ Lq R R' := by
  intro r
  induction r with
  | zero =>
    intro f f' i c c' M R hf hf' hi h
    have h12 := h.1.1.2.2
    obtain ⟨f, rfl⟩ : ∃ g, f = g + 1 := ⟨f - 1, by omega⟩
    obtain ⟨f', rfl⟩ : ∃ g, f' = g + 1 := ⟨f' - 1, by omega⟩
    rw [f_Resolver_codeCount_L4, h.2.1.1.2.2, i_le (by omega) (by omega), if_pos (by omega), f_LinkAuditModel_faults_L11, h.2.2.2.1.2.2.1, i_le (by omega) (by omega), if_pos (by omega)]
    exact ⟨0, M, R, rfl, rfl, Sw_r M, Lq_r R⟩
  | succ r ih =>
    intro f f' i c c' M R hf hf' hi h
    have h12 := h.1.1.2.2
    obtain ⟨f, rfl⟩ : ∃ g, f = g + 1 := ⟨f - 1, by omega⟩
    obtain ⟨f', rfl⟩ : ∃ g, f' = g + 1 := ⟨f' - 1, by omega⟩
    obtain ⟨v, M1, R1, a1, a2, a3, a4, -⟩ := b_verd h (show i < nR b by omega)
    have h1 : Bo b M1 R1 := Bo_s h a3 a4
    rw [f_Resolver_codeCount_L4, h.2.1.1.2.2, i_le (by omega) (by omega), if_neg (show ¬ nR b ≤ i by omega), a1, bd2_s, f_LinkAuditModel_faults_L11, h.2.2.2.1.2.2.1, i_le (by omega) (by omega), if_neg (show ¬ nR b ≤ i by omega), a2, bd2_s, show nI i + (1 : Int32) = nI (i + 1) from n_add i 1, show nI c + (1 : Int32) = nI (c + 1) from n_add c 1, show nI c' + (1 : Int32) = nI (c' + 1) from n_add c' 1]
    by_cases e : 0 ≤ v
    · rw [if_pos e, if_pos e]
      obtain ⟨d, M', R', w1, w2, w3, w4⟩ := ih f f' (i + 1) c c' M1 R1 (by omega) (by omega) (by omega) h1
      exact ⟨d, M', R', w1, w2, Sw_t a3 w3, Lq_t a4 w4⟩
    · rw [if_neg e, if_neg e]
      obtain ⟨d, M', R', w1, w2, w3, w4⟩ := ih f f' (i + 1) (c + 1) (c' + 1) M1 R1 (by omega) (by omega) (by omega) h1
      exact ⟨d + 1, M', R', by rw [w1, show c + 1 + d = c + (d + 1) by omega], by rw [w2, show c' + 1 + d = c' + (d + 1) by omega], Sw_t a3 w3, Lq_t a4 w4⟩
theorem s_faults : Sim_faults Rel := by
  intro Mc Mr h
  obtain ⟨b, hb, hl⟩ := h
  have h12 := hb.1.1.2.2
  obtain ⟨fu, hfu⟩ := FU_s (r := 100) (by omega)
  obtain ⟨N, R, n1, n2, n3, n4, n5⟩ := b_start hb hl
  obtain ⟨M', w1, w2, w3, w4, w5, w6⟩ := c_agree n3 n5
  have hB : Bo b M' R := ⟨hb.1, w2, w3, n3.2.2.2⟩
  obtain ⟨g, R1, g1, g2, g3, -⟩ := b_gaps hB
  have hB1 : Bo b M' R1 := Bo_q hB g3
  obtain ⟨d, M2, R2, d1, d2, d3, d4⟩ := b_codes (b := b) (fun y1 M3 => some (y1, M3)) (fun y1 M6 => bd1 (f_LinkAuditModel_allConflicts M6) (fun M7 => some ((y1 + (M7.1 0 27)), M7))) (nR b) FU FU 0 0 g M' R1 (by omega) (by omega) (by omega) hB1
  have hB2 : Bo b M2 R2 := Bo_s hB1 d3 d4
  -- the gaps again, where the class counts them
  obtain ⟨g', R3, g1', g2', -, -⟩ := b_gaps (show Bo b M2 R from ⟨hb.1, hB2.2.1, hB2.2.2.1, n3.2.2.2⟩)
  have eg : nI g' = nI g := by
    rw [g2] at g2'
    exact (congrArg Prod.fst (Option.some.inj g2')).symm
  have ag2 : AG b M2 := AG_k w4 (fun a ha => d3.1 a (by omega))
  obtain ⟨R', k, v1, v2, v3, v4⟩ := ag2 R2 hB2.2.2.2.1 hB2.2.2.2.2
  have cc : f_Resolver_codeCount M' = some (nI (0 + d), M2) := by
    unfold f_Resolver_codeCount
    exact d1
  have rr : f_LinkAuditModel_faults_L11 (fun y1 M6 => bd1 (f_LinkAuditModel_allConflicts M6) (fun M7 => some ((y1 + (M7.1 0 27)), M7))) FU (nI g) (0 : Int32) R1 = bd1 (f_LinkAuditModel_allConflicts R2) (fun M7 => some ((nI (g + d) + (M7.1 0 27)), M7)) := d2
  unfold f_LinkAudit_faults f_LinkAuditModel_faults
  rw [n1, n2, bd1_s, bd1_s, w1, bd1_s, cc, bd2_s, g1', bd1_s, g2, bd2_s, rr, v1, bd1_s, v3.1, v3.2.1, eg, n_add, show 0 + d + g = g + d by omega]
  exact ⟨_, M2, R', rfl, rfl, b, ⟨hb.1, v2, hB2.2.1⟩, Or.inr ⟨by rw [d3.1 0 (by omega), w5]; exact n4, hB2.2.2.1, Or.inr ⟨by rw [d3.1 0 (by omega)]; exact w6, ag2⟩⟩⟩
theorem Rel_0 : Rel M0 M0 := by
  have z : ∀ a i, M0.1 a i = nI 0 := fun _ _ => rfl
  have own0 : ∀ l n, own (fun _ _ => 0) l n = 0 := fun l n => rfl
  have t0 : ∀ a i m, tb (M0.2 a i) m = false := fun a i m => tb_0 m
  refine ⟨fun _ _ => 0, ⟨⟨⟨by decide, by decide, by decide⟩, ⟨rfl, rfl, fun _ _ => ⟨Nat.zero_le 3, show 0 < 4096 by decide⟩, fun l j _ hj => absurd hj (Nat.not_lt_zero j)⟩, fun k k1 k2 => ?_, fun k k' k1 k2 => ?_, fun m m1 m2 => ?_, fun m o m1 m2 => ?_, fun m m1 m2 => ?_, fun i hi => absurd hi (Nat.not_lt_zero i)⟩, ⟨rfl, rfl, rfl, fun _ _ _ _ => rfl⟩, ⟨⟨rfl, rfl, rfl⟩, ⟨fun _ _ => rfl, fun _ _ _ _ => rfl, fun _ _ => rfl⟩, fun l n _ _ => ?_, fun k k1 k2 => ?_, fun m m1 m2 => ?_, ⟨fun k _ m _ => ?_, fun m _ => ?_, fun m _ => ?_⟩, fun i hi => absurd hi (Nat.not_lt_zero i)⟩⟩, Or.inl ⟨rfl, rfl⟩⟩
  · have : k ≤ 0 := k2; omega
  · have : k ≤ 0 := k2; omega
  · have : m ≤ 0 := m2; omega
  · have : m ≤ 0 := m2; omega
  · have : m ≤ 0 := m2; omega
  · rw [own0]; rfl
  · have : k ≤ 0 := k2; omega
  · have : m ≤ 0 := m2; omega
  · rw [t0]
    exact ⟨fun q => (by cases q), fun ⟨q1, q2, _⟩ => by have : m ≤ 0 := q2; omega⟩
  · rw [t0]
    exact ⟨fun q => (by cases q), fun ⟨q1, q2, _⟩ => by have : m ≤ 0 := q2; omega⟩
  · rw [t0]
    exact ⟨fun q => (by cases q), fun ⟨q1, q2, _⟩ => by have : m ≤ 0 := q2; omega⟩
theorem pure_main : ∃ Rel, Sims Rel ∧ Rel M0 M0 := by
  refine ⟨Rel, ⟨?_, ?_, ?_, ?_, ?_, ?_, ?_, s_load, s_verdict, s_select, s_overrides, s_gaps, s_conflicts, s_conflict, s_faults, ?_⟩, Rel_0⟩
  · intro Mc Mr h a0 a1
    exact Rel_mut h (h.elim (fun b q => mut_provide q.1 a0 a1))
  · intro Mc Mr h a0 a1 a2 _
    exact Rel_mut h (h.elim (fun b q => mut_mask q.1 a0 a1 a2))
  · intro Mc Mr h a0 a1 a2 a3 a4
    exact Rel_mut h (h.elim (fun b q => mut_define q.1 a0 a1 a2 a3 a4))
  · intro Mc Mr h a0 a1 a2 a3
    exact Rel_mut h (h.elim (fun b q => mut_field q.1 a0 a1 a2 a3))
  · intro Mc Mr h a0 a1 a2 a3 a4
    exact Rel_mut h (h.elim (fun b q => mut_method q.1 a0 a1 a2 a3 a4))
  · intro Mc Mr h a0 a1 a2 a3 a4
    exact Rel_mut h (h.elim (fun b q => mut_reference q.1 a0 a1 a2 a3 a4))
  · intro Mc Mr h a0 a1
    exact h.elim (fun b q => sim_find q.1.1 q.1.2.1 q.1.2.2 a0 a1)
  · intro Mc Mr h a0
    exact h.elim (fun b q => sim_count q.1.2.1 q.1.2.2 a0)
