/-! PURE: the tables of the supers: what they come to -/
def ab (b : Sp) (x : Nat) : Nat := if wt b x 0 = 12 then 0 else sp b x 0
/-- the class and its superclasses -/
def ch (b : Sp) : Nat → Nat → List Nat
  | 0, _ => []
  | k + 1, x => x :: if ab b x = 0 then [] else ch b k (ab b x)
/-- the set of the proper superclasses -/
def pm (b : Sp) : Nat → Nat → Nat
  | 0, _ => 0
  | k + 1, x => if ab b x = 0 then 0 else 2 ^ ab b x ||| pm b k (ab b x)
def um (g : Nat → Nat) : Nat → Nat → Nat → Nat
  | 0, _, a => a
  | r + 1, s, a => um g r (s + 1) (a ||| g s)
/-- the set of the superinterfaces -/
def fm (b : Sp) : Nat → Nat → Nat
  | 0, _ => 0
  | k + 1, x => um (fun s => if wt b x s = 12 then 0 else 2 ^ sp b x s ||| fm b k (sp b x s)) 12 1 (if ab b x = 0 then 0 else fm b k (ab b x))
theorem um_cong {g g' : Nat → Nat} : ∀ r s a, (∀ i, s ≤ i → i < s + r → g i = g' i) → um g r s a = um g' r s a := by
  intro r
  induction r with
  | zero => intro s a _; rfl
  | succ r ih =>
    intro s a h
    unfold um
    rw [h s (Nat.le_refl s) (by omega), ih (s + 1) _ (fun i h1 h2 => h i (by omega) (by omega))]
theorem ab_s {b : Sp} {x : Nat} (h : ab b x ≠ 0) : wt b x 0 ≠ 12 ∧ ab b x = sp b x 0 := by
  unfold ab at h ⊢
  by_cases e : wt b x 0 = 12
  · rw [if_pos e] at h; exact absurd rfl h
  · rw [if_neg e]; exact ⟨e, rfl⟩
theorem ab_g {b : Sp} {k x : Nat} (h : gk b (k + 1) x) (h0 : ab b x ≠ 0) : gk b k (ab b x) := by
  obtain ⟨h1, h2⟩ := ab_s h0
  rw [h2]
  exact (h 0 (by omega) h1).2.2
theorem tab_s {b : Sp} : ∀ k x, gk b k x → ch b (k + 1) x = ch b k x ∧ pm b (k + 1) x = pm b k x ∧ fm b (k + 1) x = fm b k x := by
  intro k
  induction k with
  | zero => intro x h; exact h.elim
  | succ k ih =>
    intro x h
    refine ⟨?_, ?_, ?_⟩
    · show (x :: if ab b x = 0 then [] else ch b (k + 1) (ab b x)) = (x :: if ab b x = 0 then [] else ch b k (ab b x))
      by_cases e : ab b x = 0
      · rw [if_pos e, if_pos e]
      · rw [if_neg e, if_neg e, (ih _ (ab_g h e)).1]
    · show (if ab b x = 0 then 0 else 2 ^ ab b x ||| pm b (k + 1) (ab b x)) = if ab b x = 0 then 0 else 2 ^ ab b x ||| pm b k (ab b x)
      by_cases e : ab b x = 0
      · rw [if_pos e, if_pos e]
      · rw [if_neg e, if_neg e, (ih _ (ab_g h e)).2.1]
    · have e1 : (if ab b x = 0 then 0 else fm b (k + 1) (ab b x)) = if ab b x = 0 then 0 else fm b k (ab b x) := by
        by_cases e : ab b x = 0
        · rw [if_pos e, if_pos e]
        · rw [if_neg e, if_neg e, (ih _ (ab_g h e)).2.2]
      show um (fun s => if wt b x s = 12 then 0 else 2 ^ sp b x s ||| fm b (k + 1) (sp b x s)) 12 1 (if ab b x = 0 then 0 else fm b (k + 1) (ab b x)) = um (fun s => if wt b x s = 12 then 0 else 2 ^ sp b x s ||| fm b k (sp b x s)) 12 1 (if ab b x = 0 then 0 else fm b k (ab b x))
      rw [e1]
      refine um_cong _ _ _ (fun i h1 h2 => ?_)
      show (if wt b x i = 12 then 0 else _) = if wt b x i = 12 then 0 else _
      by_cases e : wt b x i = 12
      · rw [if_pos e, if_pos e]
      · rw [if_neg e, if_neg e, (ih _ (h i (by omega) e).2.2).2.2]
/-- one step of the tables of a class that can be loaded -/
theorem tab_16 {b : Sp} {x : Nat} (h : good b x) : ch b 16 x = (x :: if ab b x = 0 then [] else ch b 16 (ab b x)) ∧ pm b 16 x = (if ab b x = 0 then 0 else 2 ^ ab b x ||| pm b 16 (ab b x)) ∧ fm b 16 x = um (fun s => if wt b x s = 12 then 0 else 2 ^ sp b x s ||| fm b 16 (sp b x s)) 12 1 (if ab b x = 0 then 0 else fm b 16 (ab b x)) := by
  obtain ⟨h1, h2, h3⟩ := tab_s 16 x h
  exact ⟨h1.symm, h2.symm, h3.symm⟩
theorem ch_le (b : Sp) : ∀ k x, (ch b k x).length ≤ k := by
  intro k
  induction k with
  | zero => intro x; exact Nat.le_refl 0
  | succ k ih =>
    intro x
    rw [ch, List.length_cons]
    split
    · rw [List.length_nil]; omega
    · have := ih (ab b x); omega
theorem um_lt {g : Nat → Nat} (hg : ∀ s, g s < 2 ^ 17) : ∀ r s a, a < 2 ^ 17 → um g r s a < 2 ^ 17 := by
  intro r
  induction r with
  | zero => intro s a h; exact h
  | succ r ih => intro s a h; exact ih _ _ (Nat.or_lt_two_pow h (hg s))
theorem p2_lt {x : Nat} (h : x ≤ 16) : 2 ^ x < 2 ^ 17 := Nat.pow_lt_pow_right (by omega) (by omega)
theorem ab_le {b : Sp} (hv : BV b) (x : Nat) : ab b x ≤ nC b := by
  unfold ab
  split
  · omega
  · exact sp_le hv x 0
theorem pm_lt {b : Sp} (hv : BV b) : ∀ k x, pm b k x < 2 ^ 17 := by
  have h16 := hv.1.1
  intro k
  induction k with
  | zero => intro x; exact (by decide : 0 < 2 ^ 17)
  | succ k ih =>
    intro x
    rw [pm]
    split
    · exact (by decide : 0 < 2 ^ 17)
    · exact Nat.or_lt_two_pow (p2_lt (by have := ab_le hv x; omega)) (ih _)
theorem fm_lt {b : Sp} (hv : BV b) : ∀ k x, fm b k x < 2 ^ 17 := by
  have h16 := hv.1.1
  intro k
  induction k with
  | zero => intro x; exact (by decide : 0 < 2 ^ 17)
  | succ k ih =>
    intro x
    rw [fm]
    refine um_lt (fun s => ?_) _ _ _ ?_
    · split
      · exact (by decide : 0 < 2 ^ 17)
      · exact Nat.or_lt_two_pow (p2_lt (by have := sp_le hv x s; omega)) (ih _)
    · split
      · exact (by decide : 0 < 2 ^ 17)
      · exact ih _
theorem n_shl : ∀ k, k < 31 → (1 : Int32) <<< (nI k &&& 31) = nI (2 ^ k) := by decide +kernel
def Kc (M N : Mem) : Prop := (∀ a, ((2 ≤ a ∧ a ≤ 4) ∨ (11 ≤ a ∧ a ≤ 36)) → N.1 a = M.1 a) ∧ ∀ a, a ≤ 32 → N.2 a = M.2 a
theorem CB_k {b : Sp} {M N : Mem} (h : CB b M) (g : Kc M N) : CB b N := by
  obtain ⟨c1, c2, c3, c4, c5, c6, c7⟩ := h
  obtain ⟨g1, g2⟩ := g
  refine ⟨CB1_c c1 (fun k k1 k2 => g1 k (by omega)), CB2_c c2 (fun k k1 k2 => g1 k (by omega)), CB3_c c3 (fun k k1 k2 => g1 k (by omega)), CB4_c c4 (fun k k1 k2 => g1 k (by omega)), CB5_c c5 (fun k k1 k2 => g1 k (by omega)), ?_, CB7_c c7 (fun k k1 k2 => g1 k (by omega))⟩
  unfold CB6
  rw [g2 32 (by omega), g2 3 (by omega)]
  exact c6
theorem Kc_r (M : Mem) : Kc M M := ⟨fun _ _ => rfl, fun _ _ => rfl⟩
theorem Kc_t {M N O : Mem} (h : Kc M N) (g : Kc N O) : Kc M O := ⟨fun a ha => by rw [g.1 a ha, h.1 a ha], fun a ha => by rw [g.2 a ha, h.2 a ha]⟩
theorem Kc_u {M N : Mem} (h : Kc M N) {c i : Nat} {v : Int32} (hc : 36 < c ∨ (4 < c ∧ c < 11) ∨ c < 2) : Kc M (u1 N c i v) := ⟨fun a ha => by rw [u1_ne (by omega)]; exact h.1 a ha, h.2⟩
theorem u1_u1 {M : Mem} {k i : Nat} {v w : Int32} : u1 (u1 M k i v) k i w = u1 M k i w := by
  have : (u1 (u1 M k i v) k i w).1 = (u1 M k i w).1 := by
    funext a j
    by_cases e : a = k
    · subst e
      rw [u1_eq, u1_eq, u1_eq]
      by_cases z : j = i
      · rw [if_pos z, if_pos z]
      · rw [if_neg z, if_neg z, if_neg z]
    · rw [u1_ne e, u1_ne e, u1_ne e]
  exact Prod.ext this rfl
