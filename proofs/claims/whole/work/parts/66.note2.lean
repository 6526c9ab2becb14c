/-! PURE: the class notes the supers of a class: the whole -/
def Ot (M N : Mem) (x c : Nat) : Prop := N.2 = M.2 ∧ N.1 0 = M.1 0 ∧ Kc M N ∧ (∀ j, j ≠ c → N.1 59 j = M.1 59 j) ∧ ∀ y, y ≠ x → y ≤ 16 → N.1 37 y = M.1 37 y ∧ N.1 56 y = M.1 56 y ∧ N.1 57 y = M.1 57 y ∧ N.1 58 y = M.1 58 y ∧ N.1 (39 + y) = M.1 (39 + y)
theorem note_fin {b : Sp} {M X : Mem} (hv : BV b) (hc : CB b M) {x c a : Nat} (h1 : 1 ≤ x) (h2 : x ≤ nC b) (hg : good b x) (hS : ∀ s, s < 13 → wt b x s ≠ 12 → sp b x s ≠ x ∧ M.1 58 (sp b x s) = nI (fm b 16 (sp b x s))) (h8 : M.1 5 8 = nI c) (hc16 : c < 16)
    (x2 : X.2 = M.2) (xo : ∀ k, k ≠ 39 + x → k ≠ 56 → k ≠ 57 → k ≠ 58 → X.1 k = M.1 k) (x58 : ∀ y, y ≠ x → X.1 58 y = M.1 58 y) (x56 : ∀ y, y ≠ x → X.1 56 y = M.1 56 y) (x57 : ∀ y, y ≠ x → X.1 57 y = M.1 57 y) (y56 : X.1 56 x = nI (ch b 16 x).length) (y57 : X.1 57 x = nI (pm b 16 x)) (yc : ∀ i, i < (ch b 16 x).length → X.1 (39 + x) i = nI ((ch b 16 x).getD i 0)) (ha : a = if ab b x = 0 then 0 else fm b 16 (ab b x)) :
    ∃ N, f_Links_noteSupers_b74 (u1 X 58 x (nI a)) (nI x) = some N ∧ LT b N x ∧ N.1 5 8 = nI (c + 1) ∧ N.1 59 c = nI x ∧ Ot M N x c := by
  have h16 := hv.1.1
  have kX : Kc M X := ⟨fun k hk => xo k (by omega) (by omega) (by omega) (by omega), fun k _ => by rw [x2]⟩
  have cX : CB b X := CB_k hc kX
  obtain ⟨f, hf⟩ := FU_s (r := 12) (by omega)
  have e0 : f_Links_noteSupers_b74 (u1 X 58 x (nI a)) (nI x) = some (u1 (u1 (u1 (u1 X 58 x (nI (fm b 16 x))) 37 x (nI x)) 59 c (nI x)) 5 8 (nI (c + 1))) := by
    unfold f_Links_noteSupers_b74
    rw [l0, c_L76 hv cX _ h1 h2 (fun s hs hw => ⟨(hS s hs hw).1, by rw [x58 _ (hS s hs hw).1]; exact (hS s hs hw).2⟩) 12 FU 0 a (by omega) (by omega), ha, ← (tab_16 hg).2.2]
    have e8 : X.1 5 8 = nI c := by rw [xo 5 (by omega) (by omega) (by omega) (by omega)]; exact h8
    simp (disch := omega) only [gd_n, n_cl, sm_s, u1_ne, e8]
    rw [l1, n_add]
  refine ⟨_, e0, ⟨?_, ?_, ?_, ?_, ?_⟩, ?_, ?_, ?_, ?_, ?_, ?_, ?_⟩
  · simp (disch := omega) only [u1_ne, u1_eq, if_true]
  · simp (disch := omega) only [u1_ne]; exact y56
  · intro i hi; simp (disch := omega) only [u1_ne]; exact yc i hi
  · simp (disch := omega) only [u1_ne]; exact y57
  · simp (disch := omega) only [u1_ne, u1_eq, if_true]
  · rw [u1_eq, if_pos rfl]
  · rw [u1_ne (by omega), u1_eq, if_pos rfl]
  · exact x2
  · simp (disch := omega) only [u1_ne]; exact xo 0 (by omega) (by omega) (by omega) (by omega)
  · exact Kc_u (Kc_u (Kc_u (Kc_u kX (by omega)) (by omega)) (by omega)) (by omega)
  · intro j hj
    rw [u1_ne (by omega), u1_eq, if_neg hj, u1_ne (by omega), u1_ne (by omega), xo 59 (by omega) (by omega) (by omega) (by omega)]
  · intro y hy hy'
    refine ⟨?_, ?_, ?_, ?_, ?_⟩
    · simp (disch := omega) only [u1_ne, u1_eq, if_neg hy]; rw [xo 37 (by omega) (by omega) (by omega) (by omega)]
    · simp (disch := omega) only [u1_ne]; exact x56 y hy
    · simp (disch := omega) only [u1_ne]; exact x57 y hy
    · simp (disch := omega) only [u1_ne, u1_eq, if_neg hy]; exact x58 y hy
    · simp (disch := omega) only [u1_ne]; exact xo (39 + y) (by omega) (by omega) (by omega) (by omega)
theorem c_note {b : Sp} {M : Mem} (hv : BV b) (hc : CB b M) {x c : Nat} (h1 : 1 ≤ x) (h2 : x ≤ nC b) (hg : good b x) (hS : ∀ s, s < 13 → wt b x s ≠ 12 → sp b x s ≠ 0 ∧ sp b x s ≠ x ∧ LT b M (sp b x s)) (h8 : M.1 5 8 = nI c) (hc16 : c < 16) :
    ∃ N, f_Links_noteSupers M (nI x) = some N ∧ LT b N x ∧ N.1 5 8 = nI (c + 1) ∧ N.1 59 c = nI x ∧ Ot M N x c := by
  have h16 := hv.1.1
  have hx := hv.2.2.1 x h1 h2
  have hS' : ∀ s, s < 13 → wt b x s ≠ 12 → sp b x s ≠ x ∧ M.1 58 (sp b x s) = nI (fm b 16 (sp b x s)) := fun s hs hw => ⟨(hS s hs hw).2.1, (hS s hs hw).2.2.2.2.2.2⟩
  obtain ⟨x24, x25, x26, x27, x28⟩ := hc.2.2.2.1 x h1 h2
  obtain ⟨t1, t2, t3⟩ := tab_16 hg
  have w0 : wt b x 0 = b 7 x := rfl
  unfold f_Links_noteSupers
  rw [show ((0 : Int32)).toNatClampNeg = 0 from rfl, show ok (0 : Int32) 16 = true by decide]
  simp (disch := omega) only [gd_n, n_cl, gd_t, sm_s, u1_ne]
  rw [x27, x24, l12, i_eq (by omega) (by omega)]
  by_cases e : b 7 x = 12
  · have ea : ab b x = 0 := by unfold ab; rw [if_pos (w0.trans e)]
    rw [if_pos e]
    rw [if_pos ea] at t1 t2
    refine note_fin hv hc h1 h2 hg hS' h8 hc16 (X := u1 (u1 (u1 M (39 + x) 0 (nI x)) 56 x 1) 57 x 0) (a := 0) rfl (fun k k1 k2 k3 k4 => ?_) (fun y hy => ?_) (fun y hy => ?_) (fun y hy => ?_) ?_ ?_ (fun i hi => ?_) (by rw [if_pos ea])
    · rw [u1_ne k3, u1_ne k2, u1_ne k1]
    · rw [u1_ne (by omega), u1_ne (by omega), u1_ne (by omega)]
    · rw [u1_ne (by omega), u1_eq, if_neg hy, u1_ne (by omega)]
    · rw [u1_eq, if_neg hy, u1_ne (by omega), u1_ne (by omega)]
    · rw [u1_ne (by omega), u1_eq, if_pos rfl, t1]; rfl
    · rw [u1_eq, if_pos rfl, t2]; rfl
    · rw [t1] at hi ⊢
      have : i = 0 := by rw [List.length_cons, List.length_nil] at hi; omega
      subst this
      rw [u1_ne (by omega), u1_ne (by omega), u1_eq, if_pos rfl]; rfl
  · have hw : wt b x 0 ≠ 12 := e
    have ea : ab b x = fnd b (b 4 x) (b 7 x) := by unfold ab; rw [if_neg hw]; rfl
    have es : sp b x 0 = ab b x := by unfold ab; rw [if_neg hw]
    obtain ⟨g1, g2, g3⟩ := hS 0 (by omega) hw
    rw [es] at g1 g2 g3
    have al := ab_le hv x
    rw [if_neg g1] at t1 t2
    have hl := ch_le b 16 x
    rw [t1, List.length_cons] at hl
    obtain ⟨l37, l56, lc, l57, l58⟩ := g3
    have hcX : CB b (u1 (u1 (u1 (u1 M (39 + x) 0 (nI x)) 56 x 1) 57 x 0) 58 x 0) := CB_k hc (Kc_u (Kc_u (Kc_u (Kc_u (Kc_r M) (by omega)) (by omega)) (by omega)) (by omega))
    rw [if_neg e, c_found hv hcX (by omega) (by omega), bd1_s, ← ea, c_noteSuper (L := (ch b 16 (ab b x)).length) (P := pm b 16 (ab b x)) (F := fm b 16 (ab b x)) (by omega) (by omega) (fun q => g2 q.symm) (by omega) (by simp (disch := omega) only [u1_ne, u1_eq, if_neg g2]; exact l56) (by simp (disch := omega) only [u1_ne, u1_eq, if_neg g2]; exact l57) (by simp (disch := omega) only [u1_eq, if_neg g2, u1_ne]; exact l58), bd1_s]
    refine note_fin hv hc h1 h2 hg hS' h8 hc16 (a := fm b 16 (ab b x)) rfl (fun k k1 k2 k3 k4 => ?_) (fun y hy => ?_) (fun y hy => ?_) (fun y hy => ?_) ?_ ?_ (fun i hi => ?_) (by rw [if_neg g1])
    · rw [u1_ne k3, u1_ne k2, ucp_ne k1, u1_ne k4, u1_ne k3, u1_ne k2, u1_ne k1]
    · rw [u1_ne (by omega), u1_ne (by omega), ucp_ne (by omega), u1_eq, if_neg hy, u1_ne (by omega), u1_ne (by omega), u1_ne (by omega)]
    · rw [u1_ne (by omega), u1_eq, if_neg hy, ucp_ne (by omega), u1_ne (by omega), u1_ne (by omega), u1_eq, if_neg hy, u1_ne (by omega)]
    · rw [u1_eq, if_neg hy, u1_ne (by omega), ucp_ne (by omega), u1_ne (by omega), u1_eq, if_neg hy, u1_ne (by omega), u1_ne (by omega)]
    · rw [u1_ne (by omega), u1_eq, if_pos rfl, t1, List.length_cons]
    · rw [u1_eq, if_pos rfl, t2]
    · rw [t1] at hi ⊢
      rw [List.length_cons] at hi
      rw [u1_ne (by omega), u1_ne (by omega), ucp_eq]
      by_cases z : i = 0
      · subst z
        rw [if_neg (by omega), u1_ne (by omega), u1_ne (by omega), u1_ne (by omega), u1_eq, if_pos rfl]
        rfl
      · obtain ⟨j, rfl⟩ : ∃ j, i = j + 1 := ⟨i - 1, by omega⟩
        rw [if_pos (by omega), u1_ne (by omega), u1_ne (by omega), u1_ne (by omega), u1_ne (by omega), show 0 + (j + 1 - 1) = j by omega, lc j (by omega)]
        rfl
