/-! PURE: loading, by the class -/
def msk : List Nat → Nat
  | [] => 0
  | x :: p => msk p ||| 2 ^ x
theorem msk_bit (i : Nat) : ∀ p : List Nat, (msk p).testBit i = true ↔ i ∈ p := by
  intro p
  induction p with
  | nil => simp [msk]
  | cons x p ih =>
    rw [msk, Nat.testBit_or, Bool.or_eq_true, ih, Nat.testBit_two_pow, decide_eq_true_eq, List.mem_cons]
    exact ⟨fun h => h.elim Or.inr (fun h => Or.inl h.symm), fun h => h.elim (fun h => Or.inr h.symm) Or.inl⟩
theorem msk_lt {b : Sp} (hv : BV b) : ∀ p : List Nat, (∀ y ∈ p, 1 ≤ y ∧ y ≤ nC b) → msk p < 2 ^ 17 := by
  have h16 := hv.1.1
  intro p
  induction p with
  | nil => intro _; exact (by decide : 0 < 2 ^ 17)
  | cons x p ih =>
    intro h
    rw [msk]
    exact Nat.or_lt_two_pow (ih (fun y hy => h y (List.mem_cons_of_mem _ hy))) (p2_lt (by have := (h x (List.mem_cons_self ..)).2; omega))
def Ol (M : Mem) : List Nat → Prop
  | [] => True
  | x :: o => M.1 59 o.length = nI x ∧ Ol M o
def Od (b : Sp) : List Nat → Prop
  | [] => True
  | x :: o => (ab b x ≠ 0 → ab b x ∈ o) ∧ Od b o
theorem Ol_c {M N : Mem} : ∀ o : List Nat, Ol M o → (∀ i, i < o.length → N.1 59 i = M.1 59 i) → Ol N o := by
  intro o
  induction o with
  | nil => intro _ _; trivial
  | cons x o ih =>
    intro h g
    rw [List.length_cons] at g
    exact ⟨by rw [g _ (by omega)]; exact h.1, ih h.2 (fun i hi => g i (by omega))⟩
/-- the loaded classes are those of o, the last one first -/
def LI (b : Sp) (M : Mem) (o : List Nat) : Prop := M.1 5 8 = nI o.length ∧ Ol M o ∧ Od b o ∧ PV b o ∧ (∀ x ∈ o, good b x ∧ LT b M x ∧ ∀ s, s < 13 → wt b x s ≠ 12 → sp b x s ∈ o) ∧ ∀ x, 1 ≤ x → x ≤ nC b → x ∉ o → M.1 37 x ≠ nI x
def Pst (b : Sp) (M N : Mem) (o o' p : List Nat) : Prop := CB b N ∧ LI b N o' ∧ (∀ y ∈ o, y ∈ o') ∧ (∀ y ∈ p, y ∉ o') ∧ N.1 0 = M.1 0 ∧ N.2 = M.2 ∧ ∀ y, y ≤ 16 → y ∉ o' → N.1 37 y = M.1 37 y
theorem Pst_r {b : Sp} {M : Mem} {o p : List Nat} (hc : CB b M) (hl : LI b M o) (hp : ∀ y ∈ p, y ∉ o) : Pst b M M o o p := ⟨hc, hl, fun _ h => h, hp, rfl, rfl, fun _ _ _ => rfl⟩
theorem Pst_t {b : Sp} {M N O : Mem} {o o' o'' p : List Nat} (h : Pst b M N o o' p) (g : Pst b N O o' o'' p) : Pst b M O o o'' p := by
  obtain ⟨h1, h2, h3, h4, h5, h6, h7⟩ := h
  obtain ⟨g1, g2, g3, g4, g5, g6, g7⟩ := g
  exact ⟨g1, g2, fun y hy => g3 y (h3 y hy), g4, by rw [g5, h5], by rw [g6, h6], fun y hy hn => by rw [g7 y hy hn, h7 y hy (fun q => hn (g3 y q))]⟩
theorem Cd_neg {z : Int32} (h : Cd z) (h0 : z ≠ 0) : ¬ 0 ≤ z ∧ z ≤ 0 := by
  rcases h with e | e | e | e | e
  · exact absurd e h0
  · rw [e]; decide
  · rw [e]; decide
  · rw [e]; decide
  · rw [e]; decide
/-- one super -/
theorem c_sc {b : Sp} (hv : BV b) {fr : Mem → Int32 → Int32 → Option (Int32 × Mem)} {h : Nat → Int32} (hh : ∀ d, Cd (h d)) {p : List Nat} {x : Nat} (h1 : 1 ≤ x) (h2 : x ≤ nC b)
    (H : ∀ d M o, 1 ≤ d → d ≤ nC b → d ∉ p → CB b M → LI b M o → (∀ y ∈ p, y ∉ o) → ∃ N o', fr M (nI d) (nI (msk p)) = some (if h d = 0 then nI d else h d, N) ∧ Pst b M N o o' p ∧ (h d = 0 → d ∈ o'))
    (H4 : ∀ d M, 1 ≤ d → d ≤ nC b → d ∈ p → fr M (nI d) (nI (msk p)) = some (-4, M))
    {s : Nat} (hs : s < 13) (hw : wt b x s ≠ 12) {M : Mem} {o : List Nat} (hc : CB b M) (hl : LI b M o) (hp : ∀ y ∈ p, y ∉ o) (a3 : Int32) (ha : a3 = if s = 0 then 0 else 1) :
    ∃ N o', f_Links_superCode fr M (nI x) (nI (wt b x s)) a3 (nI (msk p)) = some (if sc b h p x s = 0 then nI (sp b x s) else sc b h p x s, N) ∧ Pst b M N o o' p ∧ (sc b h p x s = 0 → sp b x s ≠ 0 ∧ sp b x s ∈ o') := by
  have h16 := hv.1.1
  have hx := hv.2.2.1 x h1 h2
  have h12 := wt_le hv h1 h2 hs
  have hsp := sp_le hv x s
  unfold f_Links_superCode
  rw [gd_n (by omega) (by omega), n_cl (by omega), (hc.2.2.2.1 x h1 h2).1, c_found hv hc (by omega) (by omega), bd1_s, show fnd b (b 4 x) (wt b x s) = sp b x s from rfl, i_eq0 (by omega)]
  by_cases z0 : sp b x s = 0
  · have e : sc b h p x s = -3 := by unfold sc; rw [if_neg hw, if_pos z0]
    rw [if_pos z0, e]
    exact ⟨M, o, rfl, Pst_r hc hl hp, fun q => absurd q (by decide)⟩
  · rw [if_neg z0]
    by_cases zm : sp b x s ∈ p
    · have e : sc b h p x s = -4 := by unfold sc; rw [if_neg hw, if_neg z0, if_pos zm]
      rw [H4 _ M (by omega) hsp zm, e]
      exact ⟨M, o, rfl, Pst_r hc hl hp, fun q => absurd q (by decide)⟩
    · obtain ⟨N, o', n1, n2, n3⟩ := H (sp b x s) M o (by omega) hsp zm hc hl hp
      rw [n1, bd2_s]
      by_cases zh : h (sp b x s) = 0
      · have e : sc b h p x s = ft b x s (sp b x s) := by unfold sc; rw [if_neg hw, if_neg z0, if_neg zm, if_pos zh]
        have b79 : f_Links_superCode_b79 fr N (nI x) (nI (sp b x s)) = some (if mu b x (sp b x s) then nI (sp b x s) else -6, N) := by
          unfold f_Links_superCode_b79
          rw [c_mu hv n2.1 h1 h2 (by omega) hsp, bd1_s, i_hb]
          split <;> rfl
        rw [if_pos zh, if_pos (show (0 : Int32) ≤ nI (sp b x s) by rw [l0, n_le (by omega) (by omega)]; omega), c_cbs hv n2.1 (by omega) hsp, c_isI hv n2.1 (by omega) hsp, bd1_s, bd1_s, b79, e, ha]
        refine ⟨N, o', ?_, n2, fun _ => ⟨z0, n3 zh⟩⟩
        unfold ft
        have cn : ∀ {α : Type} {u v : α}, ¬ ((s = 0 ∧ b 6 (sp b x s) &&& 10 ≠ 0) ∨ (s ≠ 0 ∧ b 6 (sp b x s) &&& 8 = 0)) → (if (s = 0 ∧ b 6 (sp b x s) &&& 10 ≠ 0) ∨ (s ≠ 0 ∧ b 6 (sp b x s) &&& 8 = 0) then u else v) = v := fun h => if_neg h
        have cp : ∀ {α : Type} {u v : α}, ((s = 0 ∧ b 6 (sp b x s) &&& 10 ≠ 0) ∨ (s ≠ 0 ∧ b 6 (sp b x s) &&& 8 = 0)) → (if (s = 0 ∧ b 6 (sp b x s) &&& 10 ≠ 0) ∨ (s ≠ 0 ∧ b 6 (sp b x s) &&& 8 = 0) then u else v) = u := fun h => if_pos h
        have fin : (if mu b x (sp b x s) then nI (sp b x s) else (-6 : Int32)) = if (if mu b x (sp b x s) then (0 : Int32) else -6) = 0 then nI (sp b x s) else if mu b x (sp b x s) then 0 else -6 := by
          by_cases m : mu b x (sp b x s)
          · simp only [if_pos m]; rfl
          · simp only [if_neg m]; rfl
        by_cases e0 : s = 0
        · rw [if_pos e0, i0]
          by_cases z : b 6 (sp b x s) &&& 10 = 0
          · rw [if_pos z, i1, cn (fun q => q.elim (fun q => q.2 z) (fun q => q.1 e0)), ← fin]
          · rw [if_neg z, i0, cp (Or.inl ⟨e0, z⟩)]; rfl
        · rw [if_neg e0, i1]
          by_cases z : b 6 (sp b x s) &&& 8 = 0
          · rw [if_pos z, i0, cp (Or.inr ⟨e0, z⟩)]; rfl
          · rw [if_neg z, i1, cn (fun q => q.elim (fun q => e0 q.1) (fun q => z q.2)), ← fin]
      · have e : sc b h p x s = h (sp b x s) := by unfold sc; rw [if_neg hw, if_neg z0, if_neg zm, if_neg zh]
        rw [if_neg zh, if_neg (Cd_neg (hh _) zh).1, e, if_neg zh]
        exact ⟨N, o', rfl, n2, fun q => absurd q zh⟩
