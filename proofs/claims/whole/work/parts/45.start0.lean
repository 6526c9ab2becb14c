theorem wr_25 : .methodLinkNest "LinkAudit" 11 y_Loaders_init "LinkAudit" ∈ lw_tbl := List.mem_append_right _ (List.mem_append_left _ (List.mem_of_getElem? (l := tables_1_1) (i := 25) rfl))
theorem wr_49 : .methodLinkNest "LinkAudit" 18 y_Classes_init "LinkAudit" ∈ lw_tbl := List.mem_append_right _ (List.mem_append_left _ (List.mem_of_getElem? (l := tables_1_1) (i := 49) rfl))
theorem wr_84 : .methodLinkNest "LinkAudit" 25 y_Members_init "LinkAudit" ∈ lw_tbl := List.mem_append_right _ (List.mem_append_left _ (List.mem_of_getElem? (l := tables_1_1) (i := 84) rfl))
theorem wr_129 : .methodLinkNest "LinkAudit" 32 y_References_init "LinkAudit" ∈ lw_tbl := List.mem_append_right _ (List.mem_append_left _ (List.mem_of_getElem? (l := tables_1_1) (i := 129) rfl))
theorem wr_431 : .methodLinkNest "LinkAudit$Loaders" 26 y_LinkAudit_hasBit "LinkAudit" ∈ lw_tbl := List.mem_append_right _ (List.mem_append_right _ (List.mem_append_left _ (List.mem_of_getElem? (l := tables_1_2) (i := 191) rfl)))
theorem wr_453 : .methodLinkNest "LinkAudit$Links" 59 y_LinkAudit_hasBit "LinkAudit" ∈ lw_tbl := List.mem_append_right _ (List.mem_append_right _ (List.mem_append_left _ (List.mem_of_getElem? (l := tables_1_2) (i := 213) rfl)))
theorem wr_491 : .methodLinkNest "LinkAudit$Selector" 58 y_LinkAudit_hasBit "LinkAudit" ∈ lw_tbl := List.mem_append_right _ (List.mem_append_right _ (List.mem_append_right _ (List.mem_append_left _ (List.mem_of_getElem? (l := tables_1_3) (i := 11) rfl))))
theorem wr_501 : .methodLinkNest "LinkAudit$Selector" 80 y_LinkAudit_lowestBit "LinkAudit" ∈ lw_tbl := List.mem_append_right _ (List.mem_append_right _ (List.mem_append_right _ (List.mem_append_left _ (List.mem_of_getElem? (l := tables_1_3) (i := 21) rfl))))
theorem wr_551 : .methodLinkNest "LinkAudit$Resolver" 125 y_LinkAudit_hasBit "LinkAudit" ∈ lw_tbl := List.mem_append_right _ (List.mem_append_right _ (List.mem_append_right _ (List.mem_append_left _ (List.mem_of_getElem? (l := tables_1_3) (i := 71) rfl))))
theorem wr_552 : .methodLinkNest "LinkAudit$Resolver" 133 y_LinkAudit_lowestBit "LinkAudit" ∈ lw_tbl := List.mem_append_right _ (List.mem_append_right _ (List.mem_append_right _ (List.mem_append_left _ (List.mem_of_getElem? (l := tables_1_3) (i := 72) rfl))))
theorem wr_562 : .methodLinkNest "LinkAudit$Inheritance" 33 y_LinkAudit_hasBit "LinkAudit" ∈ lw_tbl := List.mem_append_right _ (List.mem_append_right _ (List.mem_append_right _ (List.mem_append_left _ (List.mem_of_getElem? (l := tables_1_3) (i := 82) rfl))))
theorem wr_30 : .arrayOver (.array .int) ∈ lw_tbl := List.mem_append_right _ (List.mem_append_left _ (List.mem_of_getElem? (l := tables_1_1) (i := 30) rfl))
theorem nests_in : ∀ q ∈ nests, Cond.methodLinkNest q.1 q.2.1 q.2.2.1 q.2.2.2 ∈ lw_tbl := List.forall_mem_cons.mpr ⟨wr_25, List.forall_mem_cons.mpr ⟨wr_49, List.forall_mem_cons.mpr ⟨wr_84, List.forall_mem_cons.mpr ⟨wr_129, List.forall_mem_cons.mpr ⟨wr_431, List.forall_mem_cons.mpr ⟨wr_453, List.forall_mem_cons.mpr ⟨wr_491, List.forall_mem_cons.mpr ⟨wr_501, List.forall_mem_cons.mpr ⟨wr_551, List.forall_mem_cons.mpr ⟨wr_552, List.forall_mem_cons.mpr ⟨wr_562, fun _ h => absurd h List.not_mem_nil⟩⟩⟩⟩⟩⟩⟩⟩⟩⟩⟩
set_option maxRecDepth 20000 in
theorem law_known {s : State} {b : Nat} (hts : ∀ w ∈ lw_tbl, w.before #[Value.ref b] s = true) : ∃ (D : va_G) (cI cL cG cZ : ClassId), K0 D cI cL cG cZ s := by
  have hta : ∀ w ∈ ALLW, w.before #[Value.ref b] s = true := fun w h => hts w (ALLW_tbl h)
  obtain ⟨c0, i0, k0⟩ := u_known (C := "LinkAudit") (T := T_LinkAudit) (N := 10) (n := 10) hta i_LinkAudit (hta _ wm_16)
  obtain ⟨c1, i1, k1⟩ := u_known (C := "LinkAudit$Loaders") (T := T_Loaders) (N := 4) (n := 4) hta i_Loaders (hta _ wm_24)
  obtain ⟨c2, i2, k2⟩ := u_known (C := "LinkAudit$Classes") (T := T_Classes) (N := 6) (n := 6) hta i_Classes (hta _ wm_48)
  obtain ⟨c3, i3, k3⟩ := u_known (C := "LinkAudit$Members") (T := T_Members) (N := 7) (n := 7) hta i_Members (hta _ wm_83)
  obtain ⟨c4, i4, k4⟩ := u_known (C := "LinkAudit$References") (T := T_References) (N := 5) (n := 5) hta i_References (hta _ wm_128)
  obtain ⟨c5, i5, k5⟩ := u_known (C := "LinkAudit$Links") (T := T_Links) (N := 9) (n := 9) hta i_Links (hta _ wm_158)
  obtain ⟨c6, i6, k6⟩ := u_known (C := "LinkAudit$Inheritance") (T := T_Inheritance) (N := 2) (n := 2) hta i_Inheritance (hta _ wm_205)
  obtain ⟨c7, i7, k7⟩ := u_known (C := "LinkAudit$Resolver") (T := T_Resolver) (N := 6) (n := 6) hta i_Resolver (hta _ wm_222)
  obtain ⟨c8, i8, k8⟩ := u_known (C := "LinkAudit$Selector") (T := T_Selector) (N := 5) (n := 5) hta i_Selector (hta _ wm_247)
  obtain ⟨c9, i9, k9⟩ := u_known (C := "LinkAudit$Agreements") (T := T_Agreements) (N := 6) (n := 6) hta i_Agreements (hta _ wm_269)
  obtain ⟨c10, i10, k10⟩ := u_known (C := "LinkAuditModel") (T := T_LinkAuditModel) (N := 31) (n := 31) hta i_LinkAuditModel (hta _ wm_696)
  obtain ⟨cI, kI, bI, a1, a2, a3⟩ := Cond.arrayClass_spec (hta _ wm_46)
  obtain ⟨cL, kL, bL, l1, l2, l3⟩ := Cond.arrayClass_spec (hta _ wm_126)
  obtain ⟨cZ, kZ, bZ, z1, z2, z3⟩ := Cond.arrayClass_spec (hta _ wm_795)
  have hG : Gk s := mg_over (hts _ wr_30)
  obtain ⟨bG, cG, kG, g1, g2, g3, g4⟩ := id hG
  refine ⟨(fun k => [c0, c1, c2, c3, c4, c5, c6, c7, c8, c9, c10].getD k 0, fun k => [i0, i1, i2, i3, i4, i5, i6, i7, i8, i9, i10].getD k (fun _ => 0)), cI, cL, cG, cZ, ⟨⟨?_, ?_⟩, fun q hq => va_Nw.of rfl (hts _ (nests_in q hq))⟩, hG⟩
  · intro k q hq
    match k, hq with
    | 0, hq => cases hq; exact k0
    | 1, hq => cases hq; exact k1
    | 2, hq => cases hq; exact k2
    | 3, hq => cases hq; exact k3
    | 4, hq => cases hq; exact k4
    | 5, hq => cases hq; exact k5
    | 6, hq => cases hq; exact k6
    | 7, hq => cases hq; exact k7
    | 8, hq => cases hq; exact k8
    | 9, hq => cases hq; exact k9
    | 10, hq => cases hq; exact k10
    | k + 11, hq => simp [vwC] at hq
  · intro k q hq
    match k, hq with
    | 0, hq => cases hq; exact ⟨fun N z => ⟨fun k h => (by cases h), kI, a2, bI, a3⟩, a1⟩
    | 1, hq => cases hq; exact ⟨fun N z => ⟨fun k h => (by cases h), kL, l2, bL, l3⟩, l1⟩
    | 2, hq => cases hq; exact ⟨fun N z => ⟨fun k h => (by cases h), kG, g2, bG, g3⟩, g4⟩
    | 3, hq => cases hq; exact ⟨fun N z => ⟨fun k h => (by cases h), kZ, z2, bZ, z3⟩, z1⟩
    | k + 4, hq => simp at hq
theorem x_ky {ws : va_W} {n : Nat} {ad : Nat → Nat} (hm : ws.map (·.1) = (List.range n).map ad) {i : Nat} (hi : i < n) : ∃ e, ws[i]? = some (ad i, e) := by
  have h1 : (ws.map (·.1))[i]? = some (ad i) := by rw [hm, List.getElem?_map, List.getElem?_range hi]; rfl
  rw [List.getElem?_map] at h1
  cases h2 : ws[i]? with
  | none => rw [h2] at h1; cases h1
  | some x =>
    rw [h2] at h1
    have h3 : x.1 = ad i := Option.some.inj h1
    exact ⟨x.2, by rw [← h3]⟩
theorem x_inj {A : Nat → Prop} {ws : va_W} {n : Nat} {ad : Nat → Nat} (hm : ws.map (·.1) = (List.range n).map ad) (hD : va_D A ws) : (∀ i j, i < n → j < n → ad i = ad j → i = j) ∧ ∀ i, i < n → A (ad i) := by
  refine ⟨fun i j hi hj h => ?_, fun i hi => ?_⟩
  · obtain ⟨e1, h1⟩ := x_ky hm hi
    obtain ⟨e2, h2⟩ := x_ky hm hj
    exact hD.1 i j _ _ h1 h2 h
  · obtain ⟨e1, h1⟩ := x_ky hm hi
    exact hD.2 i _ h1
theorem x_apart {A : Nat → Prop} {w1 w2 : va_W} {n1 n2 : Nat} {ad1 ad2 : Nat → Nat} (h1 : w1.map (·.1) = (List.range n1).map ad1) (h2 : w2.map (·.1) = (List.range n2).map ad2) (hD : va_D A (w1 ++ w2)) {i j : Nat} (hi : i < n1) (hj : j < n2) : ad1 i ≠ ad2 j := by
  intro h
  have hl : w1.length = n1 := by
    have := congrArg List.length h1
    simpa using this
  obtain ⟨e1, g1⟩ := x_ky h1 hi
  obtain ⟨e2, g2⟩ := x_ky h2 hj
  have k1 : (w1 ++ w2)[i]? = some (ad1 i, e1) := by rw [List.getElem?_append_left (by omega)]; exact g1
  have k2 : (w1 ++ w2)[n1 + j]? = some (ad2 j, e2) := by rw [List.getElem?_append_right (by omega), hl, Nat.add_sub_cancel_left]; exact g2
  have := hD.1 i (n1 + j) _ _ k1 k2 h
  omega
theorem x_fix {D : va_G} {cl : List vw_C} {ws : va_W} {H : Heap} {k a n : Nat} {cG : ClassId} {f f' : Nat → Option Nat} (hP : va_P D cl ws H) (hk : ws[k]? = some (a, .inl (cG, n, .inr (.inr (.inr (.inr f)))))) (h : ∀ j, j < n → f j = f' j) : va_P D cl (ws.set k (a, .inl (cG, n, .inr (.inr (.inr (.inr f')))))) H := by
  intro i q hq
  by_cases e : i = k
  · subst e
    rw [List.getElem?_set_self (List.getElem?_eq_some_iff.mp hk).1] at hq
    cases hq
    have h1 : H[a]? = some (vp_cell _ _) := hP i _ hk
    show H[a]? = some (vp_cell _ _)
    rw [h1, vp_cell_q, vp_cell_q]
    refine congrArg some ?_
    unfold arrV
    congr 1
    apply Array.ext
    · simp
    · intro j h2 h3
      have h4 : j < n := by simpa using h2
      simp [h j h4]
  · rw [List.getElem?_set_ne (Ne.symm e)] at hq
    exact hP i q hq
theorem x_join2 {A0 : Nat → Prop} {D : va_G} {cl : List vw_C} {w w1 : va_W} {x : Nat × va_E} {H H1 : Heap} (hP : va_P D cl (w ++ [x]) H) (hD : va_D A0 (w ++ [x])) (hk : ∀ q : Nat, q < H.size → ¬ va_A [x] H.size q → H1[q]? = H[q]?) (hF : ∀ q, va_A [x] H.size q → A0 q) (hP1 : va_P D cl w1 H1) (hD1 : va_D (va_A [x] H.size) w1) : va_P D cl w H1 ∧ va_D A0 (w ++ w1) := by
  have hx : (w ++ [x])[w.length]? = some x := by simp
  have key : ∀ (k : Nat) (q : Nat × va_E), w[k]? = some q → (w ++ [x])[k]? = some q ∧ q.1 < H.size ∧ ¬ va_A [x] H.size q.1 := by
    intro k q hq
    have hl := (List.getElem?_eq_some_iff.mp hq).1
    have h1 : (w ++ [x])[k]? = some q := by rw [List.getElem?_append_left hl]; exact hq
    refine ⟨h1, (hP k q h1).lt, fun h => ?_⟩
    rcases h with ⟨k2, e, h⟩ | h
    · have hz : k2 < 1 := (List.getElem?_eq_some_iff.mp h).1
      rw [show k2 = 0 by omega] at h
      have h2 : x = (q.1, e) := Option.some.inj h
      have := hD.1 k w.length q x h1 hx (by rw [h2])
      omega
    · have := (hP k q h1).lt
      omega
  refine ⟨fun k q hq => (hP k q (key k q hq).1).kept (hk q.1 (key k q hq).2.1 (key k q hq).2.2), va_D.app ⟨fun i j p q hi hj h => hD.1 i j p q (key i p hi).1 (key j q hj).1 h, fun k q hq => hD.2 k q (key k q hq).1⟩ (hD1.weaken (fun k q _ h => hF q.1 h)) (fun i j p q hp hq h => (key i p hp).2.2 (by rw [h]; exact hD1.2 j q hq))⟩
theorem x_tabs {A : Nat → Prop} {ws : va_W} {n : Nat} {ad pm : Nat → Nat} (hp : ∀ i, i < n → ∀ j, j < n → pm i = pm j → i = j) (ht : ∀ i, i < n → ∃ e, ws[pm i]? = some (ad i, e)) (hD : va_D A ws) : (∀ i j, i < n → j < n → ad i = ad j → i = j) ∧ ∀ i, i < n → A (ad i) := by
  refine ⟨fun i j hi hj h => ?_, fun i hi => ?_⟩
  · obtain ⟨e1, h1⟩ := ht i hi
    obtain ⟨e2, h2⟩ := ht j hj
    exact hp i hi j hj (hD.1 _ _ _ _ h1 h2 h)
  · obtain ⟨e1, h1⟩ := ht i hi
    exact hD.2 _ _ h1
def c_pm : Nat → Nat := fun k => [0, 1, 16, 22, 27, 58, 57, 55, 56, 60, 2, 3, 4, 5, 6, 7, 8, 9, 10, 11, 12, 13, 14, 15, 17, 18, 19, 20, 21, 23, 24, 25, 26, 28, 29, 30, 31, 32, 33, 34, 35, 36, 37, 38, 39, 40, 41, 42, 43, 44, 45, 46, 47, 48, 49, 50, 51, 52, 53, 54, 59, 61, 62, 63, 64, 65, 66, 67, 68, 69, 70, 71, 72, 73, 74, 75, 76].getD k 0
theorem c_pmi : ∀ i, i < 77 → ∀ j, j < 77 → c_pm i = c_pm j → i = j := by decide +kernel
theorem c_tab (cI cL cG cZ : ClassId) (h0 : Nat) (u : Nat → Nat) : ∀ i, i < 77 → ∃ e : va_E, ([(h0, .inr (0, [.ref (u 0), .ref (u 5), .ref (u 11), .ref (u 16), .ref (u 21), .ref (u 29), .ref (u 30), .ref (u 32), .int 0, .int 0])), ((u 0), .inr (1, [.ref (u 1), .ref (u 2), .ref (u 3), .ref (u 4)])), ((u 1), .inl (cG, 5, .inr (.inr (.inr (.inr (fun j => some ((u 1) + 1 + j))))))), (((u 1) + 1 + 0), .inl (cI, 3, .inl (fun _ => 0))), (((u 1) + 1 + 1), .inl (cI, 3, .inl (fun _ => 0))), (((u 1) + 1 + 2), .inl (cI, 3, .inl (fun _ => 0))), (((u 1) + 1 + 3), .inl (cI, 3, .inl (fun _ => 0))), (((u 1) + 1 + 4), .inl (cI, 3, .inl (fun _ => 0))), ((u 2), .inl (cI, 5, .inl (fun _ => 0))), ((u 3), .inl (cI, 5, .inl (fun _ => 0))), ((u 4), .inl (cG, 5, .inr (.inr (.inr (.inr (fun j => some ((u 4) + 1 + j))))))), (((u 4) + 1 + 0), .inl (cI, 12, .inl (fun _ => 0))), (((u 4) + 1 + 1), .inl (cI, 12, .inl (fun _ => 0))), (((u 4) + 1 + 2), .inl (cI, 12, .inl (fun _ => 0))), (((u 4) + 1 + 3), .inl (cI, 12, .inl (fun _ => 0))), (((u 4) + 1 + 4), .inl (cI, 12, .inl (fun _ => 0))), ((u 5), .inr (2, [.ref (u 6), .ref (u 7), .ref (u 8), .ref (u 9), .ref (u 10), .int 0])), ((u 6), .inl (cI, 17, .inl (fun _ => 0))), ((u 7), .inl (cI, 17, .inl (fun _ => 0))), ((u 8), .inl (cI, 17, .inl (fun _ => 0))), ((u 9), .inl (cI, 17, .inl (fun _ => 0))), ((u 10), .inl (cI, 17, .inl (fun _ => 0))), ((u 11), .inr (3, [.ref (u 12), .ref (u 13), .ref (u 14), .ref (u 15), .long 0, .long 0, .int 0])), ((u 12), .inl (cI, 41, .inl (fun _ => 0))), ((u 13), .inl (cI, 41, .inl (fun _ => 0))), ((u 14), .inl (cI, 41, .inl (fun _ => 0))), ((u 15), .inl (cL, 17, .inr (.inl (fun _ => 0)))), ((u 16), .inr (4, [.ref (u 17), .ref (u 18), .ref (u 19), .ref (u 20), .int 0])), ((u 17), .inl (cI, 12, .inl (fun _ => 0))), ((u 18), .inl (cI, 12, .inl (fun _ => 0))), ((u 19), .inl (cI, 12, .inl (fun _ => 0))), ((u 20), .inl (cI, 12, .inl (fun _ => 0))), ((u 22), .inl (cI, 17, .inl (fun _ => 0))), ((u 23), .inl (cG, 17, .inr (.inr (.inr (.inr (fun j => some ((u 23) + 1 + j))))))), (((u 23) + 1 + 0), .inl (cI, 16, .inl (fun _ => 0))), (((u 23) + 1 + 1), .inl (cI, 16, .inl (fun _ => 0))), (((u 23) + 1 + 2), .inl (cI, 16, .inl (fun _ => 0))), (((u 23) + 1 + 3), .inl (cI, 16, .inl (fun _ => 0))), (((u 23) + 1 + 4), .inl (cI, 16, .inl (fun _ => 0))), (((u 23) + 1 + 5), .inl (cI, 16, .inl (fun _ => 0))), (((u 23) + 1 + 6), .inl (cI, 16, .inl (fun _ => 0))), (((u 23) + 1 + 7), .inl (cI, 16, .inl (fun _ => 0))), (((u 23) + 1 + 8), .inl (cI, 16, .inl (fun _ => 0))), (((u 23) + 1 + 9), .inl (cI, 16, .inl (fun _ => 0))), (((u 23) + 1 + 10), .inl (cI, 16, .inl (fun _ => 0))), (((u 23) + 1 + 11), .inl (cI, 16, .inl (fun _ => 0))), (((u 23) + 1 + 12), .inl (cI, 16, .inl (fun _ => 0))), (((u 23) + 1 + 13), .inl (cI, 16, .inl (fun _ => 0))), (((u 23) + 1 + 14), .inl (cI, 16, .inl (fun _ => 0))), (((u 23) + 1 + 15), .inl (cI, 16, .inl (fun _ => 0))), (((u 23) + 1 + 16), .inl (cI, 16, .inl (fun _ => 0))), ((u 24), .inl (cI, 17, .inl (fun _ => 0))), ((u 25), .inl (cI, 17, .inl (fun _ => 0))), ((u 26), .inl (cI, 17, .inl (fun _ => 0))), ((u 27), .inl (cI, 16, .inl (fun _ => 0))), ((u 29), .inr (7, [.ref (u 21), .ref (u 5), .ref (u 11), .ref (u 16), .ref (u 28), .int 0])), ((u 30), .inr (8, [.ref (u 21), .ref (u 5), .ref (u 11), .ref (u 28), .ref (u 31)])), ((u 28), .inr (6, [.ref (u 21), .ref (u 11)])), ((u 21), .inr (5, [.ref (u 0), .ref (u 5), .ref (u 22), .ref (u 23), .ref (u 24), .ref (u 25), .ref (u 26), .ref (u 27), .int 0])), ((u 31), .inl (cL, 41, .inr (.inl (fun _ => 0)))), ((u 32), .inr (9, [.ref (u 0), .ref (u 33), .ref (u 34), .ref (u 35), .ref (u 36), .int 0])), ((u 33), .inl (cG, 12, .inr (.inr (.inr (.inr (fun j => some ((u 33) + 1 + j))))))), (((u 33) + 1 + 0), .inl (cI, 5, .inl (fun _ => 0))), (((u 33) + 1 + 1), .inl (cI, 5, .inl (fun _ => 0))), (((u 33) + 1 + 2), .inl (cI, 5, .inl (fun _ => 0))), (((u 33) + 1 + 3), .inl (cI, 5, .inl (fun _ => 0))), (((u 33) + 1 + 4), .inl (cI, 5, .inl (fun _ => 0))), (((u 33) + 1 + 5), .inl (cI, 5, .inl (fun _ => 0))), (((u 33) + 1 + 6), .inl (cI, 5, .inl (fun _ => 0))), (((u 33) + 1 + 7), .inl (cI, 5, .inl (fun _ => 0))), (((u 33) + 1 + 8), .inl (cI, 5, .inl (fun _ => 0))), (((u 33) + 1 + 9), .inl (cI, 5, .inl (fun _ => 0))), (((u 33) + 1 + 10), .inl (cI, 5, .inl (fun _ => 0))), (((u 33) + 1 + 11), .inl (cI, 5, .inl (fun _ => 0))), ((u 34), .inl (cI, 120, .inl (fun _ => 0))), ((u 35), .inl (cI, 120, .inl (fun _ => 0))), ((u 36), .inl (cI, 120, .inl (fun _ => 0)))] : va_W)[c_pm i]? = some ((c_ad h0 u) i, e) := by
  intro i hi
  match i, hi with
  | 0, _ => exact ⟨_, rfl⟩
  | 1, _ => exact ⟨_, rfl⟩
  | 2, _ => exact ⟨_, rfl⟩
  | 3, _ => exact ⟨_, rfl⟩
  | 4, _ => exact ⟨_, rfl⟩
  | 5, _ => exact ⟨_, rfl⟩
  | 6, _ => exact ⟨_, rfl⟩
  | 7, _ => exact ⟨_, rfl⟩
  | 8, _ => exact ⟨_, rfl⟩
  | 9, _ => exact ⟨_, rfl⟩
  | 10, _ => exact ⟨_, rfl⟩
  | 11, _ => exact ⟨_, rfl⟩
  | 12, _ => exact ⟨_, rfl⟩
  | 13, _ => exact ⟨_, rfl⟩
  | 14, _ => exact ⟨_, rfl⟩
  | 15, _ => exact ⟨_, rfl⟩
  | 16, _ => exact ⟨_, rfl⟩
  | 17, _ => exact ⟨_, rfl⟩
  | 18, _ => exact ⟨_, rfl⟩
  | 19, _ => exact ⟨_, rfl⟩
  | 20, _ => exact ⟨_, rfl⟩
  | 21, _ => exact ⟨_, rfl⟩
  | 22, _ => exact ⟨_, rfl⟩
  | 23, _ => exact ⟨_, rfl⟩
  | 24, _ => exact ⟨_, rfl⟩
  | 25, _ => exact ⟨_, rfl⟩
  | 26, _ => exact ⟨_, rfl⟩
  | 27, _ => exact ⟨_, rfl⟩
  | 28, _ => exact ⟨_, rfl⟩
  | 29, _ => exact ⟨_, rfl⟩
  | 30, _ => exact ⟨_, rfl⟩
  | 31, _ => exact ⟨_, rfl⟩
  | 32, _ => exact ⟨_, rfl⟩
  | 33, _ => exact ⟨_, rfl⟩
  | 34, _ => exact ⟨_, rfl⟩
  | 35, _ => exact ⟨_, rfl⟩
  | 36, _ => exact ⟨_, rfl⟩
  | 37, _ => exact ⟨_, rfl⟩
  | 38, _ => exact ⟨_, rfl⟩
  | 39, _ => exact ⟨_, rfl⟩
  | 40, _ => exact ⟨_, rfl⟩
  | 41, _ => exact ⟨_, rfl⟩
  | 42, _ => exact ⟨_, rfl⟩
  | 43, _ => exact ⟨_, rfl⟩
  | 44, _ => exact ⟨_, rfl⟩
  | 45, _ => exact ⟨_, rfl⟩
  | 46, _ => exact ⟨_, rfl⟩
  | 47, _ => exact ⟨_, rfl⟩
  | 48, _ => exact ⟨_, rfl⟩
  | 49, _ => exact ⟨_, rfl⟩
  | 50, _ => exact ⟨_, rfl⟩
  | 51, _ => exact ⟨_, rfl⟩
  | 52, _ => exact ⟨_, rfl⟩
  | 53, _ => exact ⟨_, rfl⟩
  | 54, _ => exact ⟨_, rfl⟩
  | 55, _ => exact ⟨_, rfl⟩
  | 56, _ => exact ⟨_, rfl⟩
  | 57, _ => exact ⟨_, rfl⟩
  | 58, _ => exact ⟨_, rfl⟩
  | 59, _ => exact ⟨_, rfl⟩
  | 60, _ => exact ⟨_, rfl⟩
  | 61, _ => exact ⟨_, rfl⟩
  | 62, _ => exact ⟨_, rfl⟩
  | 63, _ => exact ⟨_, rfl⟩
  | 64, _ => exact ⟨_, rfl⟩
  | 65, _ => exact ⟨_, rfl⟩
  | 66, _ => exact ⟨_, rfl⟩
  | 67, _ => exact ⟨_, rfl⟩
  | 68, _ => exact ⟨_, rfl⟩
  | 69, _ => exact ⟨_, rfl⟩
  | 70, _ => exact ⟨_, rfl⟩
  | 71, _ => exact ⟨_, rfl⟩
  | 72, _ => exact ⟨_, rfl⟩
  | 73, _ => exact ⟨_, rfl⟩
  | 74, _ => exact ⟨_, rfl⟩
  | 75, _ => exact ⟨_, rfl⟩
  | 76, _ => exact ⟨_, rfl⟩
  | i + 77, h => exact absurd h (by omega)
theorem c_conv {D : va_G} {cI cL cG cZ : ClassId} {h0 : Nat} {u : Nat → Nat} {H : Heap} (hP : va_P D vwC [(h0, .inr (0, [.ref (u 0), .ref (u 5), .ref (u 11), .ref (u 16), .ref (u 21), .ref (u 29), .ref (u 30), .ref (u 32), .int 0, .int 0])), ((u 0), .inr (1, [.ref (u 1), .ref (u 2), .ref (u 3), .ref (u 4)])), ((u 1), .inl (cG, 5, .inr (.inr (.inr (.inr (fun j => some ((c_ad h0 u) (11 + j)))))))), (((u 1) + 1 + 0), .inl (cI, 3, .inl (fun _ => 0))), (((u 1) + 1 + 1), .inl (cI, 3, .inl (fun _ => 0))), (((u 1) + 1 + 2), .inl (cI, 3, .inl (fun _ => 0))), (((u 1) + 1 + 3), .inl (cI, 3, .inl (fun _ => 0))), (((u 1) + 1 + 4), .inl (cI, 3, .inl (fun _ => 0))), ((u 2), .inl (cI, 5, .inl (fun _ => 0))), ((u 3), .inl (cI, 5, .inl (fun _ => 0))), ((u 4), .inl (cG, 5, .inr (.inr (.inr (.inr (fun j => some ((c_ad h0 u) (19 + j)))))))), (((u 4) + 1 + 0), .inl (cI, 12, .inl (fun _ => 0))), (((u 4) + 1 + 1), .inl (cI, 12, .inl (fun _ => 0))), (((u 4) + 1 + 2), .inl (cI, 12, .inl (fun _ => 0))), (((u 4) + 1 + 3), .inl (cI, 12, .inl (fun _ => 0))), (((u 4) + 1 + 4), .inl (cI, 12, .inl (fun _ => 0))), ((u 5), .inr (2, [.ref (u 6), .ref (u 7), .ref (u 8), .ref (u 9), .ref (u 10), .int 0])), ((u 6), .inl (cI, 17, .inl (fun _ => 0))), ((u 7), .inl (cI, 17, .inl (fun _ => 0))), ((u 8), .inl (cI, 17, .inl (fun _ => 0))), ((u 9), .inl (cI, 17, .inl (fun _ => 0))), ((u 10), .inl (cI, 17, .inl (fun _ => 0))), ((u 11), .inr (3, [.ref (u 12), .ref (u 13), .ref (u 14), .ref (u 15), .long 0, .long 0, .int 0])), ((u 12), .inl (cI, 41, .inl (fun _ => 0))), ((u 13), .inl (cI, 41, .inl (fun _ => 0))), ((u 14), .inl (cI, 41, .inl (fun _ => 0))), ((u 15), .inl (cL, 17, .inr (.inl (fun _ => 0)))), ((u 16), .inr (4, [.ref (u 17), .ref (u 18), .ref (u 19), .ref (u 20), .int 0])), ((u 17), .inl (cI, 12, .inl (fun _ => 0))), ((u 18), .inl (cI, 12, .inl (fun _ => 0))), ((u 19), .inl (cI, 12, .inl (fun _ => 0))), ((u 20), .inl (cI, 12, .inl (fun _ => 0))), ((u 22), .inl (cI, 17, .inl (fun _ => 0))), ((u 23), .inl (cG, 17, .inr (.inr (.inr (.inr (fun j => some ((c_ad h0 u) (39 + j)))))))), (((u 23) + 1 + 0), .inl (cI, 16, .inl (fun _ => 0))), (((u 23) + 1 + 1), .inl (cI, 16, .inl (fun _ => 0))), (((u 23) + 1 + 2), .inl (cI, 16, .inl (fun _ => 0))), (((u 23) + 1 + 3), .inl (cI, 16, .inl (fun _ => 0))), (((u 23) + 1 + 4), .inl (cI, 16, .inl (fun _ => 0))), (((u 23) + 1 + 5), .inl (cI, 16, .inl (fun _ => 0))), (((u 23) + 1 + 6), .inl (cI, 16, .inl (fun _ => 0))), (((u 23) + 1 + 7), .inl (cI, 16, .inl (fun _ => 0))), (((u 23) + 1 + 8), .inl (cI, 16, .inl (fun _ => 0))), (((u 23) + 1 + 9), .inl (cI, 16, .inl (fun _ => 0))), (((u 23) + 1 + 10), .inl (cI, 16, .inl (fun _ => 0))), (((u 23) + 1 + 11), .inl (cI, 16, .inl (fun _ => 0))), (((u 23) + 1 + 12), .inl (cI, 16, .inl (fun _ => 0))), (((u 23) + 1 + 13), .inl (cI, 16, .inl (fun _ => 0))), (((u 23) + 1 + 14), .inl (cI, 16, .inl (fun _ => 0))), (((u 23) + 1 + 15), .inl (cI, 16, .inl (fun _ => 0))), (((u 23) + 1 + 16), .inl (cI, 16, .inl (fun _ => 0))), ((u 24), .inl (cI, 17, .inl (fun _ => 0))), ((u 25), .inl (cI, 17, .inl (fun _ => 0))), ((u 26), .inl (cI, 17, .inl (fun _ => 0))), ((u 27), .inl (cI, 16, .inl (fun _ => 0))), ((u 29), .inr (7, [.ref (u 21), .ref (u 5), .ref (u 11), .ref (u 16), .ref (u 28), .int 0])), ((u 30), .inr (8, [.ref (u 21), .ref (u 5), .ref (u 11), .ref (u 28), .ref (u 31)])), ((u 28), .inr (6, [.ref (u 21), .ref (u 11)])), ((u 21), .inr (5, [.ref (u 0), .ref (u 5), .ref (u 22), .ref (u 23), .ref (u 24), .ref (u 25), .ref (u 26), .ref (u 27), .int 0])), ((u 31), .inl (cL, 41, .inr (.inl (fun _ => 0)))), ((u 32), .inr (9, [.ref (u 0), .ref (u 33), .ref (u 34), .ref (u 35), .ref (u 36), .int 0])), ((u 33), .inl (cG, 12, .inr (.inr (.inr (.inr (fun j => some ((c_ad h0 u) (62 + j)))))))), (((u 33) + 1 + 0), .inl (cI, 5, .inl (fun _ => 0))), (((u 33) + 1 + 1), .inl (cI, 5, .inl (fun _ => 0))), (((u 33) + 1 + 2), .inl (cI, 5, .inl (fun _ => 0))), (((u 33) + 1 + 3), .inl (cI, 5, .inl (fun _ => 0))), (((u 33) + 1 + 4), .inl (cI, 5, .inl (fun _ => 0))), (((u 33) + 1 + 5), .inl (cI, 5, .inl (fun _ => 0))), (((u 33) + 1 + 6), .inl (cI, 5, .inl (fun _ => 0))), (((u 33) + 1 + 7), .inl (cI, 5, .inl (fun _ => 0))), (((u 33) + 1 + 8), .inl (cI, 5, .inl (fun _ => 0))), (((u 33) + 1 + 9), .inl (cI, 5, .inl (fun _ => 0))), (((u 33) + 1 + 10), .inl (cI, 5, .inl (fun _ => 0))), (((u 33) + 1 + 11), .inl (cI, 5, .inl (fun _ => 0))), ((u 34), .inl (cI, 120, .inl (fun _ => 0))), ((u 35), .inl (cI, 120, .inl (fun _ => 0))), ((u 36), .inl (cI, 120, .inl (fun _ => 0)))] H) : va_P D vwC (c_ws cI cL cG cZ (c_ad h0 u) M0) H := by
  intro k q hq
  match k, hq with
  | 0, hq => cases hq; exact hP 0 _ rfl
  | 1, hq => cases hq; exact hP 1 _ rfl
  | 2, hq => cases hq; exact hP 16 _ rfl
  | 3, hq => cases hq; exact hP 22 _ rfl
  | 4, hq => cases hq; exact hP 27 _ rfl
  | 5, hq => cases hq; exact hP 58 _ rfl
  | 6, hq => cases hq; exact hP 57 _ rfl
  | 7, hq => cases hq; exact hP 55 _ rfl
  | 8, hq => cases hq; exact hP 56 _ rfl
  | 9, hq => cases hq; exact hP 60 _ rfl
  | 10, hq => cases hq; exact hP 2 _ rfl
  | 11, hq => cases hq; exact hP 3 _ rfl
  | 12, hq => cases hq; exact hP 4 _ rfl
  | 13, hq => cases hq; exact hP 5 _ rfl
  | 14, hq => cases hq; exact hP 6 _ rfl
  | 15, hq => cases hq; exact hP 7 _ rfl
  | 16, hq => cases hq; exact hP 8 _ rfl
  | 17, hq => cases hq; exact hP 9 _ rfl
  | 18, hq => cases hq; exact hP 10 _ rfl
  | 19, hq => cases hq; exact hP 11 _ rfl
  | 20, hq => cases hq; exact hP 12 _ rfl
  | 21, hq => cases hq; exact hP 13 _ rfl
  | 22, hq => cases hq; exact hP 14 _ rfl
  | 23, hq => cases hq; exact hP 15 _ rfl
  | 24, hq => cases hq; exact hP 17 _ rfl
  | 25, hq => cases hq; exact hP 18 _ rfl
  | 26, hq => cases hq; exact hP 19 _ rfl
  | 27, hq => cases hq; exact hP 20 _ rfl
  | 28, hq => cases hq; exact hP 21 _ rfl
  | 29, hq => cases hq; exact hP 23 _ rfl
  | 30, hq => cases hq; exact hP 24 _ rfl
  | 31, hq => cases hq; exact hP 25 _ rfl
  | 32, hq => cases hq; exact hP 26 _ rfl
  | 33, hq => cases hq; exact hP 28 _ rfl
  | 34, hq => cases hq; exact hP 29 _ rfl
  | 35, hq => cases hq; exact hP 30 _ rfl
  | 36, hq => cases hq; exact hP 31 _ rfl
  | 37, hq => cases hq; exact hP 32 _ rfl
  | 38, hq => cases hq; exact hP 33 _ rfl
  | 39, hq => cases hq; exact hP 34 _ rfl
  | 40, hq => cases hq; exact hP 35 _ rfl
  | 41, hq => cases hq; exact hP 36 _ rfl
  | 42, hq => cases hq; exact hP 37 _ rfl
  | 43, hq => cases hq; exact hP 38 _ rfl
  | 44, hq => cases hq; exact hP 39 _ rfl
  | 45, hq => cases hq; exact hP 40 _ rfl
  | 46, hq => cases hq; exact hP 41 _ rfl
  | 47, hq => cases hq; exact hP 42 _ rfl
  | 48, hq => cases hq; exact hP 43 _ rfl
  | 49, hq => cases hq; exact hP 44 _ rfl
  | 50, hq => cases hq; exact hP 45 _ rfl
  | 51, hq => cases hq; exact hP 46 _ rfl
  | 52, hq => cases hq; exact hP 47 _ rfl
  | 53, hq => cases hq; exact hP 48 _ rfl
  | 54, hq => cases hq; exact hP 49 _ rfl
  | 55, hq => cases hq; exact hP 50 _ rfl
  | 56, hq => cases hq; exact hP 51 _ rfl
  | 57, hq => cases hq; exact hP 52 _ rfl
  | 58, hq => cases hq; exact hP 53 _ rfl
  | 59, hq => cases hq; exact hP 54 _ rfl
  | 60, hq => cases hq; exact hP 59 _ rfl
  | 61, hq => cases hq; exact hP 61 _ rfl
  | 62, hq => cases hq; exact hP 62 _ rfl
  | 63, hq => cases hq; exact hP 63 _ rfl
  | 64, hq => cases hq; exact hP 64 _ rfl
  | 65, hq => cases hq; exact hP 65 _ rfl
  | 66, hq => cases hq; exact hP 66 _ rfl
  | 67, hq => cases hq; exact hP 67 _ rfl
  | 68, hq => cases hq; exact hP 68 _ rfl
  | 69, hq => cases hq; exact hP 69 _ rfl
  | 70, hq => cases hq; exact hP 70 _ rfl
  | 71, hq => cases hq; exact hP 71 _ rfl
  | 72, hq => cases hq; exact hP 72 _ rfl
  | 73, hq => cases hq; exact hP 73 _ rfl
  | 74, hq => cases hq; exact hP 74 _ rfl
  | 75, hq => cases hq; exact hP 75 _ rfl
  | 76, hq => cases hq; exact hP 76 _ rfl
  | k + 77, hq => cases hq
def r_pm : Nat → Nat := fun k => [0, 1, 2, 3, 4, 5, 6, 7, 8, 9, 10, 11, 12, 13, 14, 15, 16, 17, 18, 19, 20, 21, 22, 23, 24, 25, 26, 27].getD k 0
theorem r_pmi : ∀ i, i < 28 → ∀ j, j < 28 → r_pm i = r_pm j → i = j := by decide +kernel
theorem r_tab (cI cL cG cZ : ClassId) (h0 : Nat) (u : Nat → Nat) : ∀ i, i < 28 → ∃ e : va_E, ([(h0, .inr (10, [.ref (u 0), .ref (u 1), .ref (u 2), .int 0, .ref (u 3), .ref (u 4), .ref (u 5), .ref (u 6), .ref (u 7), .int 0, .ref (u 8), .ref (u 9), .ref (u 10), .ref (u 11), .ref (u 12), .ref (u 13), .int 0, .ref (u 14), .ref (u 15), .ref (u 16), .ref (u 17), .ref (u 18), .ref (u 19), .ref (u 20), .ref (u 21), .ref (u 22), .ref (u 23), .int 0, .ref (u 24), .ref (u 25), .ref (u 26)])), ((u 0), .inl (cI, 5, .inl (fun _ => 0))), ((u 1), .inl (cI, 15, .inl (fun _ => 0))), ((u 2), .inl (cI, 5, .inl (fun _ => 0))), ((u 3), .inl (cI, 17, .inl (fun _ => 0))), ((u 4), .inl (cI, 17, .inl (fun _ => 0))), ((u 5), .inl (cI, 17, .inl (fun _ => 0))), ((u 6), .inl (cI, 17, .inl (fun _ => 0))), ((u 7), .inl (cI, 17, .inl (fun _ => 0))), ((u 8), .inl (cI, 41, .inl (fun _ => 0))), ((u 9), .inl (cZ, 41, .inl (fun _ => 0))), ((u 10), .inl (cI, 41, .inl (fun _ => 0))), ((u 11), .inl (cI, 41, .inl (fun _ => 0))), ((u 12), .inl (cI, 41, .inl (fun _ => 0))), ((u 13), .inl (cI, 41, .inl (fun _ => 0))), ((u 14), .inl (cI, 60, .inl (fun _ => 0))), ((u 15), .inl (cI, 17, .inl (fun _ => 0))), ((u 16), .inl (cI, 17, .inl (fun _ => 0))), ((u 17), .inl (cI, 17, .inl (fun _ => 0))), ((u 18), .inl (cI, 17, .inl (fun _ => 0))), ((u 19), .inl (cI, 17, .inl (fun _ => 0))), ((u 20), .inl (cI, 20, .inl (fun _ => 0))), ((u 21), .inl (cI, 20, .inl (fun _ => 0))), ((u 22), .inl (cI, 300, .inl (fun _ => 0))), ((u 23), .inl (cZ, 300, .inl (fun _ => 0))), ((u 24), .inl (cI, 360, .inl (fun _ => 0))), ((u 25), .inl (cZ, 400, .inl (fun _ => 0))), ((u 26), .inl (cI, 20, .inl (fun _ => 0)))] : va_W)[r_pm i]? = some ((r_ad h0 u) i, e) := by
  intro i hi
  match i, hi with
  | 0, _ => exact ⟨_, rfl⟩
  | 1, _ => exact ⟨_, rfl⟩
  | 2, _ => exact ⟨_, rfl⟩
  | 3, _ => exact ⟨_, rfl⟩
  | 4, _ => exact ⟨_, rfl⟩
  | 5, _ => exact ⟨_, rfl⟩
  | 6, _ => exact ⟨_, rfl⟩
  | 7, _ => exact ⟨_, rfl⟩
  | 8, _ => exact ⟨_, rfl⟩
  | 9, _ => exact ⟨_, rfl⟩
  | 10, _ => exact ⟨_, rfl⟩
  | 11, _ => exact ⟨_, rfl⟩
  | 12, _ => exact ⟨_, rfl⟩
  | 13, _ => exact ⟨_, rfl⟩
  | 14, _ => exact ⟨_, rfl⟩
  | 15, _ => exact ⟨_, rfl⟩
  | 16, _ => exact ⟨_, rfl⟩
  | 17, _ => exact ⟨_, rfl⟩
  | 18, _ => exact ⟨_, rfl⟩
  | 19, _ => exact ⟨_, rfl⟩
  | 20, _ => exact ⟨_, rfl⟩
  | 21, _ => exact ⟨_, rfl⟩
  | 22, _ => exact ⟨_, rfl⟩
  | 23, _ => exact ⟨_, rfl⟩
  | 24, _ => exact ⟨_, rfl⟩
  | 25, _ => exact ⟨_, rfl⟩
  | 26, _ => exact ⟨_, rfl⟩
  | 27, _ => exact ⟨_, rfl⟩
  | i + 28, h => exact absurd h (by omega)
theorem r_conv {D : va_G} {cI cL cG cZ : ClassId} {h0 : Nat} {u : Nat → Nat} {H : Heap} (hP : va_P D vwC [(h0, .inr (10, [.ref (u 0), .ref (u 1), .ref (u 2), .int 0, .ref (u 3), .ref (u 4), .ref (u 5), .ref (u 6), .ref (u 7), .int 0, .ref (u 8), .ref (u 9), .ref (u 10), .ref (u 11), .ref (u 12), .ref (u 13), .int 0, .ref (u 14), .ref (u 15), .ref (u 16), .ref (u 17), .ref (u 18), .ref (u 19), .ref (u 20), .ref (u 21), .ref (u 22), .ref (u 23), .int 0, .ref (u 24), .ref (u 25), .ref (u 26)])), ((u 0), .inl (cI, 5, .inl (fun _ => 0))), ((u 1), .inl (cI, 15, .inl (fun _ => 0))), ((u 2), .inl (cI, 5, .inl (fun _ => 0))), ((u 3), .inl (cI, 17, .inl (fun _ => 0))), ((u 4), .inl (cI, 17, .inl (fun _ => 0))), ((u 5), .inl (cI, 17, .inl (fun _ => 0))), ((u 6), .inl (cI, 17, .inl (fun _ => 0))), ((u 7), .inl (cI, 17, .inl (fun _ => 0))), ((u 8), .inl (cI, 41, .inl (fun _ => 0))), ((u 9), .inl (cZ, 41, .inl (fun _ => 0))), ((u 10), .inl (cI, 41, .inl (fun _ => 0))), ((u 11), .inl (cI, 41, .inl (fun _ => 0))), ((u 12), .inl (cI, 41, .inl (fun _ => 0))), ((u 13), .inl (cI, 41, .inl (fun _ => 0))), ((u 14), .inl (cI, 60, .inl (fun _ => 0))), ((u 15), .inl (cI, 17, .inl (fun _ => 0))), ((u 16), .inl (cI, 17, .inl (fun _ => 0))), ((u 17), .inl (cI, 17, .inl (fun _ => 0))), ((u 18), .inl (cI, 17, .inl (fun _ => 0))), ((u 19), .inl (cI, 17, .inl (fun _ => 0))), ((u 20), .inl (cI, 20, .inl (fun _ => 0))), ((u 21), .inl (cI, 20, .inl (fun _ => 0))), ((u 22), .inl (cI, 300, .inl (fun _ => 0))), ((u 23), .inl (cZ, 300, .inl (fun _ => 0))), ((u 24), .inl (cI, 360, .inl (fun _ => 0))), ((u 25), .inl (cZ, 400, .inl (fun _ => 0))), ((u 26), .inl (cI, 20, .inl (fun _ => 0)))] H) : va_P D vwC (r_ws cI cL cG cZ (r_ad h0 u) M0) H := by
  intro k q hq
  match k, hq with
  | 0, hq => cases hq; exact hP 0 _ rfl
  | 1, hq => cases hq; exact hP 1 _ rfl
  | 2, hq => cases hq; exact hP 2 _ rfl
  | 3, hq => cases hq; exact hP 3 _ rfl
  | 4, hq => cases hq; exact hP 4 _ rfl
  | 5, hq => cases hq; exact hP 5 _ rfl
  | 6, hq => cases hq; exact hP 6 _ rfl
  | 7, hq => cases hq; exact hP 7 _ rfl
  | 8, hq => cases hq; exact hP 8 _ rfl
  | 9, hq => cases hq; exact hP 9 _ rfl
  | 10, hq => cases hq; exact hP 10 _ rfl
  | 11, hq => cases hq; exact hP 11 _ rfl
  | 12, hq => cases hq; exact hP 12 _ rfl
  | 13, hq => cases hq; exact hP 13 _ rfl
  | 14, hq => cases hq; exact hP 14 _ rfl
  | 15, hq => cases hq; exact hP 15 _ rfl
  | 16, hq => cases hq; exact hP 16 _ rfl
  | 17, hq => cases hq; exact hP 17 _ rfl
  | 18, hq => cases hq; exact hP 18 _ rfl
  | 19, hq => cases hq; exact hP 19 _ rfl
  | 20, hq => cases hq; exact hP 20 _ rfl
  | 21, hq => cases hq; exact hP 21 _ rfl
  | 22, hq => cases hq; exact hP 22 _ rfl
  | 23, hq => cases hq; exact hP 23 _ rfl
  | 24, hq => cases hq; exact hP 24 _ rfl
  | 25, hq => cases hq; exact hP 25 _ rfl
  | 26, hq => cases hq; exact hP 26 _ rfl
  | 27, hq => cases hq; exact hP 27 _ rfl
  | k + 28, hq => cases hq
