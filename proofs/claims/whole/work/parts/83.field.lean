/-! PURE: searching a field: what it comes to; the class -/
def DL (f : Nat → Nat → Nat × Nat) : List Nat → Nat → Nat × Nat
  | [], S => (0, S)
  | y :: ys, S => if (f y S).1 = 0 then DL f ys (f y S).2 else f y S
/-- the interfaces of x, r steps from s on -/
def il (b : Sp) (x : Nat) : Nat → Nat → List Nat
  | 0, _ => []
  | r + 1, s => if wt b x s = 12 then il b x r (s + 1) else sp b x s :: il b x r (s + 1)
def sl (b : Sp) (x : Nat) : List Nat := il b x 12 1 ++ if ab b x = 0 then [] else [ab b x]
def D (b : Sp) (n a : Nat) : Nat → Nat → Nat → Nat × Nat
  | 0, _, S => (0, S)
  | k + 1, x, S => if S.testBit x = true then (0, S) else if lk b x 0 n a 12 = 0 then DL (D b n a k) (sl b x) (S ||| 2 ^ x) else (lk b x 0 n a 12, S ||| 2 ^ x)
theorem il_m {b : Sp} {x y : Nat} : ∀ r s, y ∈ il b x r s → ∃ t, s ≤ t ∧ t < s + r ∧ wt b x t ≠ 12 ∧ y = sp b x t := by
  intro r
  induction r with
  | zero => intro s h; cases h
  | succ r ih =>
    intro s h
    unfold il at h
    by_cases e : wt b x s = 12
    · rw [if_pos e] at h
      obtain ⟨t, t1, t2, t3⟩ := ih _ h
      exact ⟨t, by omega, by omega, t3⟩
    · rw [if_neg e] at h
      rcases List.mem_cons.mp h with q | q
      · exact ⟨s, Nat.le_refl s, by omega, e, q⟩
      · obtain ⟨t, t1, t2, t3⟩ := ih _ q
        exact ⟨t, by omega, by omega, t3⟩
theorem sl_g {b : Sp} (hv : BV b) {k x y : Nat} (h : gk b (k + 1) x) (hy : y ∈ sl b x) : gk b k y ∧ 1 ≤ y ∧ y ≤ nC b := by
  unfold sl at hy
  rcases List.mem_append.mp hy with q | q
  · obtain ⟨t, t1, t2, t3, t4⟩ := il_m _ _ q
    obtain ⟨h1, h2, h3⟩ := h t (by omega) t3
    rw [t4]
    exact ⟨h3, by omega, sp_le hv x t⟩
  · by_cases e : ab b x = 0
    · rw [if_pos e] at q; cases q
    · rw [if_neg e] at q
      rw [List.mem_singleton.mp q]
      exact ⟨ab_g h e, by omega, ab_le hv x⟩
theorem il_len {b : Sp} {x : Nat} : ∀ r s, (il b x r s).length ≤ r := by
  intro r
  induction r with
  | zero => intro s; exact Nat.le_refl 0
  | succ r ih =>
    intro s
    unfold il
    have := ih (s + 1)
    split
    · omega
    · rw [List.length_cons]; omega
theorem sl_len {b : Sp} {x : Nat} : (sl b x).length ≤ 13 := by
  unfold sl
  rw [List.length_append]
  have := il_len (b := b) (x := x) 12 1
  split
  · simp; omega
  · simp; omega
/-- what holds of the answers of D -/
def Da (b : Sp) (q : Nat × Nat) : Prop := q.2 < 2 ^ 17 ∧ (q.1 ≠ 0 → mr b q.1) ∧ q.1 ≤ 40
theorem DL_a {b : Sp} {f : Nat → Nat → Nat × Nat} : ∀ ys S, (∀ y ∈ ys, ∀ S, S < 2 ^ 17 → Da b (f y S)) → S < 2 ^ 17 → Da b (DL f ys S) := by
  intro ys
  induction ys with
  | nil => intro S _ hS; exact ⟨hS, fun q => absurd rfl q, Nat.zero_le _⟩
  | cons y ys ih =>
    intro S h hS
    unfold DL
    have hy := h y (List.mem_cons_self ..) S hS
    split
    · exact ih _ (fun z hz => h z (List.mem_cons_of_mem _ hz)) hy.1
    · exact hy
theorem D_a {b : Sp} (hv : BV b) (n a : Nat) : ∀ k x S, gk b k x → x ≤ nC b → S < 2 ^ 17 → Da b (D b n a k x S) := by
  have h16 := hv.1.1
  intro k
  induction k with
  | zero => intro x S h; exact h.elim
  | succ k ih =>
    intro x S h hx hS
    have hS' : S ||| 2 ^ x < 2 ^ 17 := Nat.or_lt_two_pow hS (p2_lt (by omega))
    unfold D
    split
    · exact ⟨hS, fun q => absurd rfl q, Nat.zero_le _⟩
    · split
      · exact DL_a _ _ (fun y hy S q => ih y S (sl_g hv h hy).1 (sl_g hv h hy).2.2 q) hS'
      · rename_i h3
        exact ⟨hS', fun _ => ⟨(lk_at h3).1, (lk_at h3).2.1⟩, lk_le hv ..⟩
theorem DL_app {f : Nat → Nat → Nat × Nat} : ∀ xs ys S, DL f (xs ++ ys) S = if (DL f xs S).1 = 0 then DL f ys (DL f xs S).2 else DL f xs S := by
  intro xs
  induction xs with
  | nil => intro ys S; rfl
  | cons x xs ih =>
    intro ys S
    show (if (f x S).1 = 0 then DL f (xs ++ ys) (f x S).2 else f x S) = if (if (f x S).1 = 0 then DL f xs (f x S).2 else f x S).1 = 0 then DL f ys (if (f x S).1 = 0 then DL f xs (f x S).2 else f x S).2 else if (f x S).1 = 0 then DL f xs (f x S).2 else f x S
    by_cases e : (f x S).1 = 0
    · rw [if_pos e, if_pos e, ih]
    · rw [if_neg e, if_neg e, if_neg e]
theorem DL_one {f : Nat → Nat → Nat × Nat} (y S : Nat) : DL f [y] S = f y S := by
  show (if (f y S).1 = 0 then (0, (f y S).2) else f y S) = f y S
  by_cases e : (f y S).1 = 0
  · rw [if_pos e, ← e]
  · rw [if_neg e]
theorem LK_k {b : Sp} {M N : Mem} (hv : BV b) (h : LK b M) (e : ∀ a, 37 ≤ a → a ≤ 58 → N.1 a = M.1 a) (e2 : N.2 60 = M.2 60) : LK b N := by
  have h16 := hv.1.1
  refine ⟨fun x x1 x2 g => ?_, fun x x1 x2 g => ?_, fun z z1 z2 g => ?_⟩
  · have q := h.1 x x1 x2 g
    unfold LT at q ⊢
    rw [e 37 (by omega) (by omega), e 56 (by omega) (by omega), e 57 (by omega) (by omega), e 58 (by omega) (by omega), e (39 + x) (by omega) (by omega)]
    exact q
  · rw [e 37 (by omega) (by omega)]; exact h.2.1 x x1 x2 g
  · rw [e2]; exact h.2.2 z z1 z2 g
theorem c_sf_L {b : Sp} {M : Mem} (hv : BV b) (hc : CB b M) (hk : LK b M) {l : Int64} {τ : Type} {fr : Mem → Int32 → Int64 → Option (Int32 × Mem)} (ke : Int32 → Mem → Option τ) {f : Nat → Nat → Nat × Nat} {x : Nat} (h1 : 1 ≤ x) (h2 : x ≤ nC b) (hf : ∀ s, s < 13 → wt b x s ≠ 12 → ∀ S, S < 2 ^ 17 → fr (u1 M 7 5 (nI S)) (nI (sp b x s)) l = some (nI (f (sp b x s) S).1, u1 M 7 5 (nI (f (sp b x s) S).2)) ∧ Da b (f (sp b x s) S)) : ∀ r fu i S, r < fu → i + r = 12 → S < 2 ^ 17 → f_Resolver_searchField_B_L58 fr (nI x) l ke fu (nI 0) (nI i) (u1 M 7 5 (nI S)) = ke (nI (DL f (il b x r (i + 1)) S).1) (u1 M 7 5 (nI (DL f (il b x r (i + 1)) S).2)) := by
  have h16 := hv.1.1
  obtain ⟨-, -, -, -, c8, -⟩ := hv.2.2.1 x h1 h2
  intro r
  induction r with
  | zero =>
    intro fu i S hfu hi hS
    obtain ⟨fu, rfl⟩ : ∃ g, fu = g + 1 := ⟨fu - 1, by omega⟩
    rw [f_Resolver_searchField_B_L58, l12, i_le (by omega) (by omega), if_pos (by omega)]
    rfl
  | succ r ih =>
    intro fu i S hfu hi hS
    obtain ⟨fu, rfl⟩ : ∃ g, fu = g + 1 := ⟨fu - 1, by omega⟩
    have hv3 := hv.2.2.1 x h1 h2
    have hcN : CB b (u1 M 7 5 (nI S)) := CB_k hc (Kc_u (Kc_r M) (by omega))
    rw [f_Resolver_searchField_B_L58, l12, i_le (by omega) (by omega), if_neg (by omega), if_pos (show nI 0 = 0 from rfl), gd_n (by omega) (by omega), n_cl (by omega), (hcN.2.2.2.1 x h1 h2).2.2.2.2, f_hasBitN (by omega) (by omega), bd1_s, i_hb, gd_n (by omega) (by omega), (hcN.2.2.2.1 x h1 h2).1, show nI i + (1 : Int32) = nI (i + 1) from n_add i 1]
    rw [il]
    by_cases t : (b 8 x).testBit i = true
    · have w := (wt_b (x := x) (show i < 12 by omega)).1 t
      have es : sp b x (i + 1) = fnd b (b 4 x) i := by unfold sp; rw [w]
      have q := hf (i + 1) (by omega) (by omega) S hS
      rw [if_pos t, if_neg (show ¬ wt b x (i + 1) = 12 by omega), c_found hv hcN (by omega) (by omega), bd1_s, ← es, q.1, bd2_s]
      show _ = ke (nI (if (f (sp b x (i + 1)) S).1 = 0 then DL f (il b x r (i + 1 + 1)) (f (sp b x (i + 1)) S).2 else f (sp b x (i + 1)) S).1) (u1 M 7 5 (nI (if (f (sp b x (i + 1)) S).1 = 0 then DL f (il b x r (i + 1 + 1)) (f (sp b x (i + 1)) S).2 else f (sp b x (i + 1)) S).2))
      by_cases z : (f (sp b x (i + 1)) S).1 = 0
      · rw [if_pos z, z]
        exact ih fu (i + 1) _ (by omega) (by omega) q.2.1
      · rw [if_neg z]
        have hle := q.2.2.2
        obtain ⟨fu, rfl⟩ : ∃ g, fu = g + 1 := ⟨fu - 1, by omega⟩
        rw [f_Resolver_searchField_B_L58, l12]
        by_cases y : nI 12 ≤ nI (i + 1)
        · rw [if_pos y]
        · rw [if_neg y, i_eq0 (by omega), if_neg z]
    · have w := (wt_b (x := x) (show i < 12 by omega)).2 t
      rw [if_neg t, if_pos w]
      exact ih fu (i + 1) S (by omega) (by omega) hS
theorem c_sf {b : Sp} {M : Mem} (hv : BV b) (hc : CB b M) (hk : LK b M) {n a : Nat} (hn : n < 4) (ha : a < 13) {l : Int64} (hl : Bs l (fun m => 1 ≤ m ∧ m ≤ nM b ∧ msig b m = sig 0 n a 12)) : ∀ k d x S, k ≤ d → gk b k x → good b x → 1 ≤ x → x ≤ nC b → S < 2 ^ 17 → f_Resolver_searchField d (u1 M 7 5 (nI S)) (nI x) l = some (nI (D b n a k x S).1, u1 M 7 5 (nI (D b n a k x S).2)) := by
  have h16 := hv.1.1
  intro k
  induction k with
  | zero => intro d x S _ h; exact h.elim
  | succ k ih =>
    intro d x S hd h g h1 h2 hS
    obtain ⟨d, rfl⟩ : ∃ g, d = g + 1 := ⟨d - 1, by omega⟩
    have hS' : S ||| 2 ^ x < 2 ^ 17 := Nat.or_lt_two_pow hS (p2_lt (by omega))
    have on := On_lk hv hc (y := x) (k := 0) (by omega) hn ha (show 12 < 13 by omega) hl
    obtain ⟨fu, hfu⟩ := FU_s (r := 12) (by omega)
    have hd' := Da b
    show f_Resolver_searchField_B (f_Resolver_searchField d) _ _ _ = _
    unfold f_Resolver_searchField_B
    rw [u1_eq, if_pos rfl, f_hasBitN (show S < 2 ^ 31 by omega) (by omega), bd1_s, i_hb, n_shl x (by omega), n_or, sm_s, u1_u1, gd_n (by omega) (by omega), n_cl (by omega)]
    rw [show (u1 M 7 5 (nI (S ||| 2 ^ x))).2 32 x = M.2 32 x from rfl, On_if on]
    unfold D
    by_cases t : S.testBit x = true
    · rw [if_pos t, if_pos t]; rfl
    · rw [if_neg t, if_neg t]
      by_cases z : lk b x 0 n a 12 = 0
      · have hyp : ∀ y ∈ sl b x, ∀ S, S < 2 ^ 17 → f_Resolver_searchField d (u1 M 7 5 (nI S)) (nI y) l = some (nI (D b n a k y S).1, u1 M 7 5 (nI (D b n a k y S).2)) ∧ Da b (D b n a k y S) := fun y hy S q => by
          obtain ⟨y1, y2, y3⟩ := sl_g hv h hy
          obtain ⟨-, -, -⟩ := sl_g hv g hy
          exact ⟨ih d y S (by omega) y1 (gk_s _ _ (sl_g hv g hy).1) y2 y3 q, D_a hv n a k y S y1 y3 q⟩
        have insl : ∀ s, 1 ≤ s → s < 13 → wt b x s ≠ 12 → sp b x s ∈ sl b x := fun s s1 s2 s3 => by
          unfold sl
          refine List.mem_append_left _ ?_
          have : ∀ r t, t ≤ s → s < t + r → sp b x s ∈ il b x r t := by
            intro r
            induction r with
            | zero => intro t _ _; omega
            | succ r ihr =>
              intro t t1 t2
              unfold il
              by_cases e : t = s
              · rw [e, if_neg s3]; exact List.mem_cons_self ..
              · split
                · exact ihr (t + 1) (by omega) (by omega)
                · exact List.mem_cons_of_mem _ (ihr (t + 1) (by omega) (by omega))
          exact this 12 1 s1 (by omega)
        rw [if_pos z, if_pos z, show (0 : Int32) = nI 0 from rfl]
        have hf : ∀ s, s < 13 → wt b x s ≠ 12 → ∀ S, S < 2 ^ 17 → f_Resolver_searchField d (u1 M 7 5 (nI S)) (nI (sp b x s)) l = some (nI (D b n a k (sp b x s) S).1, u1 M 7 5 (nI (D b n a k (sp b x s) S).2)) ∧ Da b (D b n a k (sp b x s) S) := fun s s1 s2 S q => by
          by_cases s0 : s = 0
          · rw [s0] at s2 ⊢
            have e : ab b x = sp b x 0 := by unfold ab; rw [if_neg s2]
            refine hyp _ ?_ S q
            unfold sl
            refine List.mem_append_right _ ?_
            rw [if_neg (by rw [e]; exact (h 0 (by omega) s2).1), e]
            exact List.mem_singleton.mpr rfl
          · exact hyp _ (insl s (by omega) s1 s2) S q
        rw [c_sf_L hv hc hk (fun y6 M7 => f_Resolver_searchField_B_b122 (f_Resolver_searchField d) M7 (nI x) l y6) h1 h2 hf 12 FU 0 _ (by omega) (by omega) hS']
        have da := DL_a (b := b) (il b x 12 1) (S ||| 2 ^ x) (fun y hy S q => (hyp y (by unfold sl; exact List.mem_append_left _ hy) S q).2) hS'
        show f_Resolver_searchField_B_b122 _ (u1 M 7 5 (nI (DL (D b n a k) (il b x 12 1) (S ||| 2 ^ x)).2)) (nI x) l (nI (DL (D b n a k) (il b x 12 1) (S ||| 2 ^ x)).1) = _
        unfold sl
        rw [DL_app]
        generalize DL (D b n a k) (il b x 12 1) (S ||| 2 ^ x) = q at da ⊢
        obtain ⟨t1, t2, t3, -⟩ := hk.1 x h1 h2 g
        have hlen := ch_le b 16 x
        unfold f_Resolver_searchField_B_b122
        rw [i_eq0 (by have := da.2.2; omega), gd_n (by omega) (by omega), n_cl (by omega), show (u1 M 7 5 (nI q.2)).1 56 = M.1 56 from u1_ne (by omega), t2, show (u1 M 7 5 (nI q.2)).1 (39 + x) = M.1 (39 + x) from u1_ne (by omega), l1, i_le (by omega) (by omega), gd_n (by omega) (by omega), gd_n (by omega) (by omega), n_cl (by omega)]
        by_cases z0 : q.1 = 0
        · rw [if_pos z0, if_pos z0]
          rcases (ch_ab hv h1 h2 g).2 with ⟨a0, a1⟩ | ⟨a0, a1, a2, a3, a4⟩
          · rw [if_pos (by rw [a1]; exact Nat.le_refl 1), if_pos a0]
            show _ = some (nI 0, u1 M 7 5 (nI q.2))
            rw [z0]
          · have l2 : 2 ≤ (ch b 16 x).length := by
              rw [a1, (tab_16 a2).1]
              simp
            have e1 : (ch b 16 x).getD 1 0 = ab b x := by
              rw [a1, (tab_16 a2).1]
              rfl
            rw [if_neg (by omega), if_neg a0, t3 1 (by omega), e1, DL_one]
            have w := hyp (ab b x) (by unfold sl; refine List.mem_append_right _ ?_; rw [if_neg a0]; exact List.mem_singleton.mpr rfl) q.2 da.1
            rw [w.1, bd2_s]
        · rw [if_neg z0, if_neg z0]
      · rw [if_neg z, if_neg z, On_low on z, bd1_s]
