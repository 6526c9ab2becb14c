-- LinkAudit.isBelow
set_option maxHeartbeats 4000000 in
set_option maxRecDepth 100000 in
theorem c_LinkAudit_isBelow {l : Launch} {D : va_G} {cI cL cG cZ : ClassId} {ad : Nat → Nat} {M : Mem} {a0 : Int32} {a1 : Int32} {r : Int32} (hD : ∀ M, va_D (e_A ad) (e_ws cI cL cG cZ ad M)) (hf : f_LinkAudit_isBelow a0 a1 = some r) : Mi l y_LinkAudit_isBelow (.code y_LinkAudit_isBelow prog_1_method_18_code 2 (some .boolean) :: ALLW) (rmR 0 0) (Kk D cI cL cG cZ) D vwC (e_A ad) (e_ws cI cL cG cZ ad) [.int a0, .int a1] M M r := by
  refine Mz_ofR (by decide) (Nat.le_of_ble_eq_true rfl) ?_
  intro p e s m args below meth c ls Q X hkk hret hP hl
  obtain ⟨hx, hb, hml, hown, hta⟩ := id X
  have hKv := hkk.1
  have hS : va_S (e_A ad) s.heap s.heap [] := va_S.rf
  have hl : lv_has ls 2 [(0, .int a0), (1, .int a1)] := hl
  unfold f_LinkAudit_isBelow at hf
  refine lv_iload_n hx hb d_LinkAudit_isBelow_0 rfl (lv_at hl 0 rfl) ?_
  refine lv_if_lt (tgt := 13) hx hb d_LinkAudit_isBelow_1 (by decide) (fun c1 => ?_) (fun c1 => ?_)
  · have hf := ifp c1 hf
    refine lv_iconst (v := (0 : Int32)) hx hb d_LinkAudit_isBelow_13 (by decide) ?_
    exact hret (Or.inl rfl) hf hP hS d_LinkAudit_isBelow_14
  · have hf := ifn c1 hf
    refine lv_iload_n hx hb d_LinkAudit_isBelow_4 rfl (lv_at hl 0 rfl) ?_
    refine lv_iload_n hx hb d_LinkAudit_isBelow_5 rfl (lv_at hl 1 rfl) ?_
    refine lv_icmp_ge (tgt := 13) hx hb d_LinkAudit_isBelow_6 (by decide) (fun c2 => ?_) (fun c2 => ?_)
    · have hf := ifp c2 hf
      refine lv_iconst (v := (0 : Int32)) hx hb d_LinkAudit_isBelow_13 (by decide) ?_
      exact hret (Or.inl rfl) hf hP hS d_LinkAudit_isBelow_14
    · have hf := ifn c2 hf
      refine lv_iconst (v := (1 : Int32)) hx hb d_LinkAudit_isBelow_9 (by decide) ?_
      refine lv_goto (tgt := 14) hx hb d_LinkAudit_isBelow_10 (by decide) ?_
      exact hret (Or.inr rfl) hf hP hS d_LinkAudit_isBelow_14
-- LinkAudit.isPlugin
theorem xve_LinkAudit_89 {p : Program} {l : Launch} {e : Env} {R : Room} {s : State} {m : MethodId} {args : Array Value} {below : List Frame} {meth : Method} {c : Code} {H : Heap} {locs : List Loc} {cells slots : Nat} {Q : State → Prop} {cc : ByteArray} {pc : Nat} {ls : Array Slot} {rest : List Value} {D : va_G} {cI cL cG cZ : ClassId} {ad : Nat → Nat} {M : Mem} {H0 : Heap} {nL : Nat} {a0 : Int32} {a1 : Int32} {r : Int32} (X : CallFix p m c cc nL s args ALLW "LinkAudit") (hkk : Kk D cI cL cG cZ s) (hD : ∀ M, va_D (e_A ad) (e_ws cI cL cG cZ ad M)) (hrest : (rest.map fun v => v.category).sum ≤ 8) (hR : 0 + 1 ≤ R.frames ∧ 8 + (2 + 11) + 0 ≤ R.locals) (hcs : cells + 0 ≤ R.cells ∧ slots + 0 ≤ R.slots) (hc : f_LinkAudit_isBelow a0 a1 = some r) (hsz : ls.size = nL) (hP : va_P D vwC (e_ws cI cL cG cZ ad M) H) (hS : va_S (e_A ad) H0 H locs) (hdg : decode cc pc = .ok (.invokestatic 89, 3))
    (kk : ∀ (H1 : Heap) (locs1 : List Loc), va_P D vwC (e_ws cI cL cG cZ ad M) H1 → va_S (e_A ad) H0 H1 locs1 → W p l e R s m args below meth c H1 locs1 cells slots Q (F0 m (pc + 3) ls (.int r :: rest))) : W p l e R s m args below meth c H locs cells slots Q (F0 m pc ls (.int a1 :: .int a0 :: rest)) := by
  have hta := X.2.2.2.2
  exact x_after0I e_no (va_runS (As := [.int a0, .int a1]) (rest := rest) X (c_LinkAudit_isBelow (ad := ad) (M := M) e_D hc) ⟨callB_of 2 hta (good_all (L := .code y_LinkAudit_isBelow prog_1_method_18_code 2 (some .boolean) :: ALLW) (List.forall_mem_cons.mpr ⟨wm_338, fun _ h => h⟩)) rfl rfl rfl (hta _ wm_1) (hta _ wm_336) (by decide +kernel) hR, hta _ wm_337⟩ ⟨x_blind Kk_w _, x_pre Kk_w hkk e_P _⟩ rfl rfl hsz rfl (lv_room hrest) hdg hcs) hP hS kk
set_option maxHeartbeats 4000000 in
set_option maxRecDepth 100000 in
theorem c_LinkAudit_isPlugin {l : Launch} {D : va_G} {cI cL cG cZ : ClassId} {ad : Nat → Nat} {M : Mem} {a0 : Int32} {r : Int32} (hD : ∀ M, va_D (e_A ad) (e_ws cI cL cG cZ ad M)) (hf : f_LinkAudit_isPlugin a0 = some r) : Mi l y_LinkAudit_isPlugin (.code y_LinkAudit_isPlugin prog_1_method_19_code 1 (some .boolean) :: ALLW) (rmR 1 21) (Kk D cI cL cG cZ) D vwC (e_A ad) (e_ws cI cL cG cZ ad) [.int a0] M M r := by
  refine Mz_ofR (by decide) (Nat.le_of_ble_eq_true rfl) ?_
  intro p e s m args below meth c ls Q X hkk hret hP hl
  obtain ⟨hx, hb, hml, hown, hta⟩ := id X
  have hKv := hkk.1
  have hS : va_S (e_A ad) s.heap s.heap [] := va_S.rf
  have hl : lv_has ls 1 [(0, .int a0)] := hl
  unfold f_LinkAudit_isPlugin at hf
  refine lv_iload_n hx hb d_LinkAudit_isPlugin_0 rfl (lv_at hl 0 rfl) ?_
  refine lv_if_eq (tgt := 16) hx hb d_LinkAudit_isPlugin_1 (by decide) (fun c1 => ?_) (fun c1 => ?_)
  · have hf := ifp c1 hf
    refine lv_iconst (v := (0 : Int32)) hx hb d_LinkAudit_isPlugin_16 (by decide) ?_
    exact hret (Or.inl rfl) hf hP hS d_LinkAudit_isPlugin_17
  · have hf := ifn c1 hf
    refine lv_iload_n hx hb d_LinkAudit_isPlugin_4 rfl (lv_at hl 0 rfl) ?_
    refine lv_iconst (v := (5 : Int32)) hx hb d_LinkAudit_isPlugin_5 (by decide) ?_
    obtain ⟨r2, hc2, hf⟩ := bd1_e hf
    refine xve_LinkAudit_89 X hkk hD (Nat.le_of_ble_eq_true rfl) ⟨by dsimp only [rmR]; omega, by dsimp only [rmR]; omega⟩ ⟨Nat.zero_le _, Nat.zero_le _⟩ hc2 hl.1 hP hS d_LinkAudit_isPlugin_6 (fun H locs hP hS => ?_)
    refine lv_if_eq (tgt := 16) hx hb d_LinkAudit_isPlugin_9 (by decide) (fun c3 => ?_) (fun c3 => ?_)
    · have hf := ifp c3 hf
      refine lv_iconst (v := (0 : Int32)) hx hb d_LinkAudit_isPlugin_16 (by decide) ?_
      exact hret (Or.inl rfl) hf hP hS d_LinkAudit_isPlugin_17
    · have hf := ifn c3 hf
      refine lv_iconst (v := (1 : Int32)) hx hb d_LinkAudit_isPlugin_12 (by decide) ?_
      refine lv_goto (tgt := 17) hx hb d_LinkAudit_isPlugin_13 (by decide) ?_
      exact hret (Or.inr rfl) hf hP hS d_LinkAudit_isPlugin_17
-- LinkAudit$Loaders.hasProvider
theorem xg_Loaders_16 {p : Program} {l : Launch} {e : Env} {R : Room} {s : State} {m : MethodId} {args : Array Value} {below : List Frame} {meth : Method} {c : Code} {H : Heap} {locs : List Loc} {cells slots : Nat} {Q : State → Prop} {cc : ByteArray} {pc : Nat} {ls : Array Slot} {rest : List Value} {D : va_G} {cI cL cG cZ : ClassId} {ad : Nat → Nat} {M : Mem} (hx : p.tables.exec = Jvm.exec) (hb : c.code = cc) (hta : ∀ w ∈ ALLW, w.before args s = true) (hown : s.vm.findClass "LinkAudit$Loaders" = some m.cls) (hK : va_K D vwC [(cI, .int), (cL, .long), (cG, .array .int), (cZ, .boolean)] s) (hP : va_P D vwC (c_ws cI cL cG cZ ad M) H) (hdg : decode cc pc = .ok (.getfield 16, 3))
    (kk : W p l e R s m args below meth c H locs cells slots Q (F0 m (pc + 3) ls (.ref (ad 16) :: rest))) : W p l e R s m args below meth c H locs cells slots Q (F0 m pc ls (.ref (ad 1) :: rest)) :=
  va_get (D := D) (ci := 1) (v := .ref (ad 16)) (C := "LinkAudit$Loaders") (T := T_Loaders) (N := 4) hx hb hta i_Loaders hown hK hP 1 c_c1 rfl 1 (by decide) (hta _ wm_32) (fun _ h9 => h9) rfl hdg kk
theorem xg_Loaders_11 {p : Program} {l : Launch} {e : Env} {R : Room} {s : State} {m : MethodId} {args : Array Value} {below : List Frame} {meth : Method} {c : Code} {H : Heap} {locs : List Loc} {cells slots : Nat} {Q : State → Prop} {cc : ByteArray} {pc : Nat} {ls : Array Slot} {rest : List Value} {D : va_G} {cI cL cG cZ : ClassId} {ad : Nat → Nat} {M : Mem} (hx : p.tables.exec = Jvm.exec) (hb : c.code = cc) (hta : ∀ w ∈ ALLW, w.before args s = true) (hown : s.vm.findClass "LinkAudit$Loaders" = some m.cls) (hK : va_K D vwC [(cI, .int), (cL, .long), (cG, .array .int), (cZ, .boolean)] s) (hP : va_P D vwC (c_ws cI cL cG cZ ad M) H) (hdg : decode cc pc = .ok (.getfield 11, 3))
    (kk : W p l e R s m args below meth c H locs cells slots Q (F0 m (pc + 3) ls (.ref (ad 10) :: rest))) : W p l e R s m args below meth c H locs cells slots Q (F0 m pc ls (.ref (ad 1) :: rest)) :=
  va_get (D := D) (ci := 1) (v := .ref (ad 10)) (C := "LinkAudit$Loaders") (T := T_Loaders) (N := 4) hx hb hta i_Loaders hown hK hP 1 c_c1 rfl 0 (by decide) (hta _ wm_31) (fun _ h9 => h9) rfl hdg kk
set_option maxHeartbeats 4000000 in
set_option maxRecDepth 100000 in
theorem c_Loaders_hasProvider {l : Launch} {D : va_G} {cI cL cG cZ : ClassId} {ad : Nat → Nat} {M : Mem} {a1 : Int32} {a2 : Int32} {r : Int32} (hD : ∀ M, va_D (c_A ad) (c_ws cI cL cG cZ ad M)) (hf : f_Loaders_hasProvider M a1 a2 = some r) : Mi l y_Loaders_hasProvider (.code y_Loaders_hasProvider prog_6_method_2_code 4 (some .boolean) :: ALLW) (rmR 0 0) (Kk D cI cL cG cZ) D vwC (c_A ad) (c_ws cI cL cG cZ ad) [.ref (ad 1), .int a1, .int a2] M M r := by
  refine Mz_ofR (by decide) (Nat.le_of_ble_eq_true rfl) ?_
  intro p e s m args below meth c ls Q X hkk hret hP hl
  obtain ⟨hx, hb, hml, hown, hta⟩ := id X
  have hKv := hkk.1
  have hS : va_S (c_A ad) s.heap s.heap [] := va_S.rf
  have hl : lv_has ls 4 [(0, .ref (ad 1)), (1, .int a1), (2, .int a2)] := hl
  have L2 : ∀ (x1 : Int32) (x2 : Int32), ∀ (ke24 : Option Int32), ke24 = (some ((1 : Int32))) → ∀ (ke32 : Option Int32), ke32 = (some ((0 : Int32))) → ∀ (n2 : Nat) (x3 : Int32) (H : Heap) (locs : List Loc) (ls : Array Slot), f_Loaders_hasProvider_L2 M x1 x2 ke24 ke32 n2 x3 = some r → va_P D vwC (c_ws cI cL cG cZ ad M) H → va_S (c_A ad) s.heap H locs → lv_has ls 4 [(0, .ref (ad 1)), (1, .int x1), (2, .int x2), (3, .int x3)] → W p l e (rmR 0 0) s m args below meth c H locs 0 0 Q (F0 m 2 ls []) := by
    intro x1 x2 ke24 hke24 ke32 hke32 n2
    induction n2 with
    | zero => intro x3 H locs ls hf; exact absurd (show (none : Option _) = some _ from hf) (fun q => by cases q)
    | succ n2 ih2 =>
      intro x3 H locs ls hf hP hS hl
      rw [f_Loaders_hasProvider_L2] at hf
      refine lv_iload_n hx hb d_Loaders_hasProvider_2 rfl (lv_at hl 3 rfl) ?_
      refine lv_aload_n hx hb d_Loaders_hasProvider_3 rfl (lv_at hl 0 rfl) ?_
      refine xg_Loaders_16 hx hb hta hown hKv hP d_Loaders_hasProvider_4 ?_
      refine lv_iload_n hx hb d_Loaders_hasProvider_7 rfl (lv_at hl 1 rfl) ?_
      obtain ⟨g1, hf⟩ := gd_ok hf
      refine x_ild hx hb hKv hP c_c16 g1 d_Loaders_hasProvider_8 ?_
      refine lv_icmp_ge (tgt := 32) hx hb d_Loaders_hasProvider_9 (by decide) (fun c2 => ?_) (fun c2 => ?_)
      · have hf := ifp c2 hf
        rw [hke32] at hf
        refine lv_iconst (v := (0 : Int32)) hx hb d_Loaders_hasProvider_32 (by decide) ?_
        exact hret (Or.inl rfl) hf hP hS d_Loaders_hasProvider_33
      · have hf := ifn c2 hf
        refine lv_aload_n hx hb d_Loaders_hasProvider_12 rfl (lv_at hl 0 rfl) ?_
        refine xg_Loaders_11 hx hb hta hown hKv hP d_Loaders_hasProvider_13 ?_
        refine lv_iload_n hx hb d_Loaders_hasProvider_16 rfl (lv_at hl 1 rfl) ?_
        obtain ⟨g3, hf⟩ := gd_ok hf
        refine x_ald (k0 := 10) (base := 11) (n := 5) hx hb hKv hP c_c10 g3 d_Loaders_hasProvider_17 ?_
        refine lv_iload_n hx hb d_Loaders_hasProvider_18 rfl (lv_at hl 3 rfl) ?_
        obtain ⟨g4, hf⟩ := gd_ok hf
        refine x_ild hx hb hKv hP (c_c11 g3) g4 d_Loaders_hasProvider_19 ?_
        refine lv_iload_n hx hb d_Loaders_hasProvider_20 rfl (lv_at hl 2 rfl) ?_
        refine lv_icmp_ne (tgt := 26) hx hb d_Loaders_hasProvider_21 (by decide) (fun c5 => ?_) (fun c5 => ?_)
        · have hf := ifn c5 hf
          refine lv_iinc (v := (x3 + (1 : Int32))) (lv' := [(3, .int (x3 + (1 : Int32))), (0, .ref (ad 1)), (1, .int x1), (2, .int x2)]) hx hb d_Loaders_hasProvider_26 hl (k := 3) rfl rfl (by decide) rfl (fun ls hl => ?_)
          refine lv_goto (tgt := 2) hx hb d_Loaders_hasProvider_29 (by decide) ?_
          exact ih2 (x3 + (1 : Int32)) _ _ _ hf hP hS (lv_sub hl [1, 2, 3, 0] rfl)
        · have hf := ifp c5 hf
          rw [hke24] at hf
          refine lv_iconst (v := (1 : Int32)) hx hb d_Loaders_hasProvider_24 (by decide) ?_
          exact hret (Or.inr rfl) hf hP hS d_Loaders_hasProvider_25
  unfold f_Loaders_hasProvider at hf
  refine lv_iconst (v := (0 : Int32)) hx hb d_Loaders_hasProvider_0 (by decide) ?_
  refine lv_istore_n (lv' := [(3, .int (0 : Int32)), (0, .ref (ad 1)), (1, .int a1), (2, .int a2)]) hx hb d_Loaders_hasProvider_1 rfl hl (by decide) rfl (fun ls hl => ?_)
  exact L2 a1 a2 _ rfl _ rfl FU (0 : Int32) _ _ _ hf hP hS (lv_sub hl [1, 2, 3, 0] rfl)
-- LinkAudit.forgetLinks
theorem xp_LinkAudit_78 {p : Program} {l : Launch} {e : Env} {R : Room} {s : State} {m : MethodId} {args : Array Value} {below : List Frame} {meth : Method} {c : Code} {H : Heap} {locs : List Loc} {cells slots : Nat} {Q : State → Prop} {cc : ByteArray} {pc : Nat} {ls : Array Slot} {rest : List Value} {D : va_G} {cI cL cG cZ : ClassId} {ad : Nat → Nat} {M : Mem} {H0 : Heap} {M1 : Mem} {x : Int32} (hx : p.tables.exec = Jvm.exec) (hb : c.code = cc) (hta : ∀ w ∈ ALLW, w.before args s = true) (hown : s.vm.findClass "LinkAudit" = some m.cls) (hK : va_K D vwC [(cI, .int), (cL, .long), (cG, .array .int), (cZ, .boolean)] s) (hP : va_P D vwC (c_ws cI cL cG cZ ad M) H) (hD : va_D (c_A ad) (c_ws cI cL cG cZ ad M)) (hS : va_S (c_A ad) H0 H locs) (eM : M1 = u1 M 0 8 x) (hdg : decode cc pc = .ok (.putfield 78, 3)) (hz : x = 0 ∨ x = 1)
    (kk : ∀ (H1 : Heap) (locs1 : List Loc), va_P D vwC (c_ws cI cL cG cZ ad M1) H1 → va_S (c_A ad) H0 H1 locs1 → W p l e R s m args below meth c H1 locs1 cells slots Q (F0 m (pc + 3) ls rest)) : W p l e R s m args below meth c H locs cells slots Q (F0 m pc ls (.int x :: .ref (ad 0) :: rest)) := by
  refine va_put (D := D) (ci := 0) (v := .int x) (ty := .boolean) (C := "LinkAudit") (T := T_LinkAudit) (N := 10) hx hb hta i_LinkAudit t_LinkAudit t_LinkAudit_ok n_LinkAudit hown hK hP hD hS 0 c_c0 rfl 8 (by decide) (hta _ wm_306) (fun _ h9 => h9) rfl (by decide +kernel) (x_zn hz) (x_zf hz) (Nat.le_of_ble_eq_true rfl) hdg (fun H1 locs1 h1 _ h3 => kk H1 locs1 ?_ h3)
  rw [eM]
  exact h1
theorem xp_LinkAudit_82 {p : Program} {l : Launch} {e : Env} {R : Room} {s : State} {m : MethodId} {args : Array Value} {below : List Frame} {meth : Method} {c : Code} {H : Heap} {locs : List Loc} {cells slots : Nat} {Q : State → Prop} {cc : ByteArray} {pc : Nat} {ls : Array Slot} {rest : List Value} {D : va_G} {cI cL cG cZ : ClassId} {ad : Nat → Nat} {M : Mem} {H0 : Heap} {M1 : Mem} {x : Int32} (hx : p.tables.exec = Jvm.exec) (hb : c.code = cc) (hta : ∀ w ∈ ALLW, w.before args s = true) (hown : s.vm.findClass "LinkAudit" = some m.cls) (hK : va_K D vwC [(cI, .int), (cL, .long), (cG, .array .int), (cZ, .boolean)] s) (hP : va_P D vwC (c_ws cI cL cG cZ ad M) H) (hD : va_D (c_A ad) (c_ws cI cL cG cZ ad M)) (hS : va_S (c_A ad) H0 H locs) (eM : M1 = u1 M 0 9 x) (hdg : decode cc pc = .ok (.putfield 82, 3)) (hz : x = 0 ∨ x = 1)
    (kk : ∀ (H1 : Heap) (locs1 : List Loc), va_P D vwC (c_ws cI cL cG cZ ad M1) H1 → va_S (c_A ad) H0 H1 locs1 → W p l e R s m args below meth c H1 locs1 cells slots Q (F0 m (pc + 3) ls rest)) : W p l e R s m args below meth c H locs cells slots Q (F0 m pc ls (.int x :: .ref (ad 0) :: rest)) := by
  refine va_put (D := D) (ci := 0) (v := .int x) (ty := .boolean) (C := "LinkAudit") (T := T_LinkAudit) (N := 10) hx hb hta i_LinkAudit t_LinkAudit t_LinkAudit_ok n_LinkAudit hown hK hP hD hS 0 c_c0 rfl 9 (by decide) (hta _ wm_307) (fun _ h9 => h9) rfl (by decide +kernel) (x_zn hz) (x_zf hz) (Nat.le_of_ble_eq_true rfl) hdg (fun H1 locs1 h1 _ h3 => kk H1 locs1 ?_ h3)
  rw [eM]
  exact h1
set_option maxHeartbeats 4000000 in
set_option maxRecDepth 100000 in
theorem c_LinkAudit_forgetLinks {l : Launch} {D : va_G} {cI cL cG cZ : ClassId} {ad : Nat → Nat} {M M' : Mem}  (hD : ∀ M, va_D (c_A ad) (c_ws cI cL cG cZ ad M)) (hf : f_LinkAudit_forgetLinks M = some M') : Mv l y_LinkAudit_forgetLinks (.code y_LinkAudit_forgetLinks prog_1_method_25_code 1 none :: ALLW) (rmR 0 0) (Kk D cI cL cG cZ) D vwC (c_A ad) (c_ws cI cL cG cZ ad) [.ref (ad 0)] M M' := by
  refine Mv_of (by decide) (Nat.le_of_ble_eq_true rfl) ?_
  intro p e s m args below meth c ls Q X hkk hret hP hl
  obtain ⟨hx, hb, hml, hown, hta⟩ := id X
  have hKv := hkk.1
  have hS : va_S (c_A ad) s.heap s.heap [] := va_S.rf
  have hl : lv_has ls 1 [(0, .ref (ad 0))] := hl
  unfold f_LinkAudit_forgetLinks at hf
  refine lv_aload_n hx hb d_LinkAudit_forgetLinks_0 rfl (lv_at hl 0 rfl) ?_
  refine lv_iconst (v := (0 : Int32)) hx hb d_LinkAudit_forgetLinks_1 (by decide) ?_
  obtain ⟨M3, eM3, hf⟩ := sm_e hf
  refine xp_LinkAudit_78 hx hb hta hown hKv hP (hD _) hS eM3 d_LinkAudit_forgetLinks_2 (Or.inl rfl) (fun H locs hP hS => ?_)
  refine lv_aload_n hx hb d_LinkAudit_forgetLinks_5 rfl (lv_at hl 0 rfl) ?_
  refine lv_iconst (v := (0 : Int32)) hx hb d_LinkAudit_forgetLinks_6 (by decide) ?_
  obtain ⟨M4, eM4, hf⟩ := sm_e hf
  refine xp_LinkAudit_82 hx hb hta hown hKv hP (hD _) hS eM4 d_LinkAudit_forgetLinks_7 (Or.inl rfl) (fun H locs hP hS => ?_)
  exact hret hf hP hS d_LinkAudit_forgetLinks_10
-- LinkAudit$Loaders.addProvider
set_option maxHeartbeats 4000000 in
set_option maxRecDepth 100000 in
theorem c_Loaders_addProvider {l : Launch} {D : va_G} {cI cL cG cZ : ClassId} {ad : Nat → Nat} {M M' : Mem} {a1 : Int32} {a2 : Int32} {r : Int32} (hD : ∀ M, va_D (c_A ad) (c_ws cI cL cG cZ ad M)) (hf : f_Loaders_addProvider M a1 a2 = some (r, M')) : Mi l y_Loaders_addProvider (.code y_Loaders_addProvider prog_6_method_3_code 3 (some .int) :: ALLW) (rmR 0 0) (Kk D cI cL cG cZ) D vwC (c_A ad) (c_ws cI cL cG cZ ad) [.ref (ad 1), .int a1, .int a2] M M' r := by
  refine Mi_of (by decide) (Nat.le_of_ble_eq_true rfl) ?_
  intro p e s m args below meth c ls Q X hkk hret hP hl
  obtain ⟨hx, hb, hml, hown, hta⟩ := id X
  have hKv := hkk.1
  have hS : va_S (c_A ad) s.heap s.heap [] := va_S.rf
  have hl : lv_has ls 3 [(0, .ref (ad 1)), (1, .int a1), (2, .int a2)] := hl
  unfold f_Loaders_addProvider at hf
  refine lv_aload_n hx hb d_Loaders_addProvider_0 rfl (lv_at hl 0 rfl) ?_
  refine xg_Loaders_11 hx hb hta hown hKv hP d_Loaders_addProvider_1 ?_
  refine lv_iload_n hx hb d_Loaders_addProvider_4 rfl (lv_at hl 1 rfl) ?_
  obtain ⟨g1, hf⟩ := gd_ok hf
  refine x_ald (k0 := 10) (base := 11) (n := 5) hx hb hKv hP c_c10 g1 d_Loaders_addProvider_5 ?_
  refine lv_aload_n hx hb d_Loaders_addProvider_6 rfl (lv_at hl 0 rfl) ?_
  refine xg_Loaders_16 hx hb hta hown hKv hP d_Loaders_addProvider_7 ?_
  refine lv_iload_n hx hb d_Loaders_addProvider_10 rfl (lv_at hl 1 rfl) ?_
  obtain ⟨g2, hf⟩ := gd_ok hf
  refine x_ild hx hb hKv hP c_c16 g2 d_Loaders_addProvider_11 ?_
  refine lv_iload_n hx hb d_Loaders_addProvider_12 rfl (lv_at hl 2 rfl) ?_
  obtain ⟨g3, hf⟩ := gd_ok hf
  obtain ⟨M3, eM3, hf⟩ := sm_e hf
  refine x_ist hx hb hKv hP (hD _) hS (c_c11 g1) (c_s11 g1) g3 eM3 d_Loaders_addProvider_13 (fun H locs hP hS => ?_)
  refine lv_aload_n hx hb d_Loaders_addProvider_14 rfl (lv_at hl 0 rfl) ?_
  refine xg_Loaders_16 hx hb hta hown hKv hP d_Loaders_addProvider_15 ?_
  refine lv_iload_n hx hb d_Loaders_addProvider_18 rfl (lv_at hl 1 rfl) ?_
  refine lv_dup2_11 hx hb d_Loaders_addProvider_19 rfl rfl ?_
  obtain ⟨g4, hf⟩ := gd_ok hf
  refine x_ild hx hb hKv hP c_c16 g4 d_Loaders_addProvider_20 ?_
  refine lv_iconst (v := (1 : Int32)) hx hb d_Loaders_addProvider_21 (by decide) ?_
  refine lv_iadd hx hb d_Loaders_addProvider_22 ?_
  obtain ⟨g5, hf⟩ := gd_ok hf
  obtain ⟨M4, eM4, hf⟩ := sm_e hf
  refine x_ist hx hb hKv hP (hD _) hS c_c16 c_s16 g5 eM4 d_Loaders_addProvider_23 (fun H locs hP hS => ?_)
  refine lv_aload_n hx hb d_Loaders_addProvider_24 rfl (lv_at hl 0 rfl) ?_
  refine xg_Loaders_16 hx hb hta hown hKv hP d_Loaders_addProvider_25 ?_
  refine lv_iload_n hx hb d_Loaders_addProvider_28 rfl (lv_at hl 1 rfl) ?_
  obtain ⟨g6, hf⟩ := gd_ok hf
  refine x_ild hx hb hKv hP c_c16 g6 d_Loaders_addProvider_29 ?_
  exact hret hf hP hS d_Loaders_addProvider_30
-- LinkAudit.provide
theorem xvc_LinkAudit_85 {p : Program} {l : Launch} {e : Env} {R : Room} {s : State} {m : MethodId} {args : Array Value} {below : List Frame} {meth : Method} {c : Code} {H : Heap} {locs : List Loc} {cells slots : Nat} {Q : State → Prop} {cc : ByteArray} {pc : Nat} {ls : Array Slot} {rest : List Value} {D : va_G} {cI cL cG cZ : ClassId} {ad : Nat → Nat} {M : Mem} {H0 : Heap} {nL : Nat} {a0 : Int32} {r : Int32} (X : CallFix p m c cc nL s args ALLW "LinkAudit") (hkk : Kk D cI cL cG cZ s) (hD : ∀ M, va_D (c_A ad) (c_ws cI cL cG cZ ad M)) (hrest : (rest.map fun v => v.category).sum ≤ 8) (hR : 1 + 1 ≤ R.frames ∧ 8 + (1 + 11) + 21 ≤ R.locals) (hcs : cells + 0 ≤ R.cells ∧ slots + 0 ≤ R.slots) (hc : f_LinkAudit_isPlugin a0 = some r) (hsz : ls.size = nL) (hP : va_P D vwC (c_ws cI cL cG cZ ad M) H) (hS : va_S (c_A ad) H0 H locs) (hdg : decode cc pc = .ok (.invokestatic 85, 3))
    (kk : ∀ (H1 : Heap) (locs1 : List Loc), va_P D vwC (c_ws cI cL cG cZ ad M) H1 → va_S (c_A ad) H0 H1 locs1 → W p l e R s m args below meth c H1 locs1 cells slots Q (F0 m (pc + 3) ls (.int r :: rest))) : W p l e R s m args below meth c H locs cells slots Q (F0 m pc ls (.int a0 :: rest)) := by
  have hta := X.2.2.2.2
  exact x_after0I e_no (va_runS (As := [.int a0]) (rest := rest) X (c_LinkAudit_isPlugin (ad := ad) (M := M) e_D hc) ⟨callB_of 1 hta (good_all (L := .code y_LinkAudit_isPlugin prog_1_method_19_code 1 (some .boolean) :: ALLW) (List.forall_mem_cons.mpr ⟨wm_335, fun _ h => h⟩)) rfl rfl rfl (hta _ wm_1) (hta _ wm_333) (by decide +kernel) hR, hta _ wm_334⟩ ⟨x_blind Kk_w _, x_pre Kk_w hkk e_P _⟩ rfl rfl hsz rfl (lv_room hrest) hdg hcs) hP hS kk
theorem xvc_LinkAudit_89 {p : Program} {l : Launch} {e : Env} {R : Room} {s : State} {m : MethodId} {args : Array Value} {below : List Frame} {meth : Method} {c : Code} {H : Heap} {locs : List Loc} {cells slots : Nat} {Q : State → Prop} {cc : ByteArray} {pc : Nat} {ls : Array Slot} {rest : List Value} {D : va_G} {cI cL cG cZ : ClassId} {ad : Nat → Nat} {M : Mem} {H0 : Heap} {nL : Nat} {a0 : Int32} {a1 : Int32} {r : Int32} (X : CallFix p m c cc nL s args ALLW "LinkAudit") (hkk : Kk D cI cL cG cZ s) (hD : ∀ M, va_D (c_A ad) (c_ws cI cL cG cZ ad M)) (hrest : (rest.map fun v => v.category).sum ≤ 8) (hR : 0 + 1 ≤ R.frames ∧ 8 + (2 + 11) + 0 ≤ R.locals) (hcs : cells + 0 ≤ R.cells ∧ slots + 0 ≤ R.slots) (hc : f_LinkAudit_isBelow a0 a1 = some r) (hsz : ls.size = nL) (hP : va_P D vwC (c_ws cI cL cG cZ ad M) H) (hS : va_S (c_A ad) H0 H locs) (hdg : decode cc pc = .ok (.invokestatic 89, 3))
    (kk : ∀ (H1 : Heap) (locs1 : List Loc), va_P D vwC (c_ws cI cL cG cZ ad M) H1 → va_S (c_A ad) H0 H1 locs1 → W p l e R s m args below meth c H1 locs1 cells slots Q (F0 m (pc + 3) ls (.int r :: rest))) : W p l e R s m args below meth c H locs cells slots Q (F0 m pc ls (.int a1 :: .int a0 :: rest)) := by
  have hta := X.2.2.2.2
  exact x_after0I e_no (va_runS (As := [.int a0, .int a1]) (rest := rest) X (c_LinkAudit_isBelow (ad := ad) (M := M) e_D hc) ⟨callB_of 2 hta (good_all (L := .code y_LinkAudit_isBelow prog_1_method_18_code 2 (some .boolean) :: ALLW) (List.forall_mem_cons.mpr ⟨wm_338, fun _ h => h⟩)) rfl rfl rfl (hta _ wm_1) (hta _ wm_336) (by decide +kernel) hR, hta _ wm_337⟩ ⟨x_blind Kk_w _, x_pre Kk_w hkk e_P _⟩ rfl rfl hsz rfl (lv_room hrest) hdg hcs) hP hS kk
theorem xg_LinkAudit_12 {p : Program} {l : Launch} {e : Env} {R : Room} {s : State} {m : MethodId} {args : Array Value} {below : List Frame} {meth : Method} {c : Code} {H : Heap} {locs : List Loc} {cells slots : Nat} {Q : State → Prop} {cc : ByteArray} {pc : Nat} {ls : Array Slot} {rest : List Value} {D : va_G} {cI cL cG cZ : ClassId} {ad : Nat → Nat} {M : Mem} (hx : p.tables.exec = Jvm.exec) (hb : c.code = cc) (hta : ∀ w ∈ ALLW, w.before args s = true) (hown : s.vm.findClass "LinkAudit" = some m.cls) (hK : va_K D vwC [(cI, .int), (cL, .long), (cG, .array .int), (cZ, .boolean)] s) (hP : va_P D vwC (c_ws cI cL cG cZ ad M) H) (hdg : decode cc pc = .ok (.getfield 12, 3))
    (kk : W p l e R s m args below meth c H locs cells slots Q (F0 m (pc + 3) ls (.ref (ad 1) :: rest))) : W p l e R s m args below meth c H locs cells slots Q (F0 m pc ls (.ref (ad 0) :: rest)) :=
  va_get (D := D) (ci := 0) (v := .ref (ad 1)) (C := "LinkAudit") (T := T_LinkAudit) (N := 10) hx hb hta i_LinkAudit hown hK hP 0 c_c0 rfl 0 (by decide) (hta _ wm_298) (fun _ h9 => h9) rfl hdg kk
theorem xvc_LinkAudit_93 {p : Program} {l : Launch} {e : Env} {R : Room} {s : State} {m : MethodId} {args : Array Value} {below : List Frame} {meth : Method} {c : Code} {H : Heap} {locs : List Loc} {cells slots : Nat} {Q : State → Prop} {cc : ByteArray} {pc : Nat} {ls : Array Slot} {rest : List Value} {D : va_G} {cI cL cG cZ : ClassId} {ad : Nat → Nat} {M : Mem} {H0 : Heap} {nL : Nat} {a0 : Int32} {a1 : Int32} {r : Int32} (X : CallFix p m c cc nL s args ALLW "LinkAudit") (hkk : Kk D cI cL cG cZ s) (hD : ∀ M, va_D (c_A ad) (c_ws cI cL cG cZ ad M)) (hrest : (rest.map fun v => v.category).sum ≤ 8) (hR : 0 + 1 ≤ R.frames ∧ 8 + (4 + 11) + 0 ≤ R.locals) (hcs : cells + 0 ≤ R.cells ∧ slots + 0 ≤ R.slots) (hc : f_Loaders_hasProvider M a0 a1 = some r) (hsz : ls.size = nL) (hP : va_P D vwC (c_ws cI cL cG cZ ad M) H) (hS : va_S (c_A ad) H0 H locs) (hdg : decode cc pc = .ok (.invokevirtual 93, 3))
    (kk : ∀ (H1 : Heap) (locs1 : List Loc), va_P D vwC (c_ws cI cL cG cZ ad M) H1 → va_S (c_A ad) H0 H1 locs1 → W p l e R s m args below meth c H1 locs1 cells slots Q (F0 m (pc + 3) ls (.int r :: rest))) : W p l e R s m args below meth c H locs cells slots Q (F0 m pc ls (.int a1 :: .int a0 :: .ref (ad 1) :: rest)) := by
  have hta := X.2.2.2.2
  exact x_afterI (va_runV (As := [.int a0, .int a1]) (rest := rest) X (c_Loaders_hasProvider hD hc) ⟨callB_of 2 hta (good_all (L := .code y_Loaders_hasProvider prog_6_method_2_code 4 (some .boolean) :: ALLW) (List.forall_mem_cons.mpr ⟨wm_342, fun _ h => h⟩)) rfl rfl rfl (hta _ wm_2) (hta _ wm_339) (by decide +kernel) hR, hta _ wm_340, hta _ wm_341⟩ ⟨x_blind Kk_w _, va_recv hkk.1 hP (ci := 1) (q0 := 1) rfl c_c1, x_pre Kk_w hkk hP _⟩ rfl rfl hsz rfl (lv_room hrest) hdg hcs) hS kk
theorem xg_LinkAudit_96 {p : Program} {l : Launch} {e : Env} {R : Room} {s : State} {m : MethodId} {args : Array Value} {below : List Frame} {meth : Method} {c : Code} {H : Heap} {locs : List Loc} {cells slots : Nat} {Q : State → Prop} {cc : ByteArray} {pc : Nat} {ls : Array Slot} {rest : List Value} {D : va_G} {cI cL cG cZ : ClassId} {ad : Nat → Nat} {M : Mem} (hx : p.tables.exec = Jvm.exec) (hb : c.code = cc) (hta : ∀ w ∈ ALLW, w.before args s = true) (hown : s.vm.findClass "LinkAudit" = some m.cls) (hK : va_K D vwC [(cI, .int), (cL, .long), (cG, .array .int), (cZ, .boolean)] s) (hP : va_P D vwC (c_ws cI cL cG cZ ad M) H) (hdg : decode cc pc = .ok (.getfield 96, 3))
    (kk : W p l e R s m args below meth c H locs cells slots Q (F0 m (pc + 3) ls (.ref (ad 16) :: rest))) : W p l e R s m args below meth c H locs cells slots Q (F0 m pc ls (.ref (ad 1) :: rest)) :=
  va_get (D := D) (ci := 1) (v := .ref (ad 16)) (C := "LinkAudit$Loaders") (T := T_Loaders) (N := 4) hx hb hta i_Loaders hown hK hP 1 c_c1 rfl 1 (by decide) (hta _ wm_33) (fun _ h9 => h9) rfl hdg kk
theorem xvc_LinkAudit_100 {p : Program} {l : Launch} {e : Env} {R : Room} {s : State} {m : MethodId} {args : Array Value} {below : List Frame} {meth : Method} {c : Code} {H : Heap} {locs : List Loc} {cells slots : Nat} {Q : State → Prop} {cc : ByteArray} {pc : Nat} {ls : Array Slot} {rest : List Value} {D : va_G} {cI cL cG cZ : ClassId} {ad : Nat → Nat} {M : Mem} {H0 : Heap} {M1 : Mem} {nL : Nat}  (X : CallFix p m c cc nL s args ALLW "LinkAudit") (hkk : Kk D cI cL cG cZ s) (hD : ∀ M, va_D (c_A ad) (c_ws cI cL cG cZ ad M)) (hrest : (rest.map fun v => v.category).sum ≤ 8) (hR : 0 + 1 ≤ R.frames ∧ 8 + (1 + 11) + 0 ≤ R.locals) (hcs : cells + 0 ≤ R.cells ∧ slots + 0 ≤ R.slots) (hc : f_LinkAudit_forgetLinks M = some M1) (hsz : ls.size = nL) (hP : va_P D vwC (c_ws cI cL cG cZ ad M) H) (hS : va_S (c_A ad) H0 H locs) (hdg : decode cc pc = .ok (.invokevirtual 100, 3))
    (kk : ∀ (H1 : Heap) (locs1 : List Loc), va_P D vwC (c_ws cI cL cG cZ ad M1) H1 → va_S (c_A ad) H0 H1 locs1 → W p l e R s m args below meth c H1 locs1 cells slots Q (F0 m (pc + 3) ls (rest))) : W p l e R s m args below meth c H locs cells slots Q (F0 m pc ls (.ref (ad 0) :: rest)) := by
  have hta := X.2.2.2.2
  exact x_afterV (va_runV (As := []) (rest := rest) X (c_LinkAudit_forgetLinks hD hc) ⟨callB_of 0 hta (good_all (L := .code y_LinkAudit_forgetLinks prog_1_method_25_code 1 none :: ALLW) (List.forall_mem_cons.mpr ⟨wm_346, fun _ h => h⟩)) rfl rfl rfl (hta _ wm_1) (hta _ wm_343) (by decide +kernel) hR, hta _ wm_345, hta _ wp_0⟩ ⟨x_blind Kk_w _, va_recv hkk.1 hP (ci := 0) (q0 := 0) rfl c_c0, x_pre Kk_w hkk hP _⟩ rfl rfl hsz rfl (lv_room hrest) hdg hcs) hS kk
theorem xvc_LinkAudit_103 {p : Program} {l : Launch} {e : Env} {R : Room} {s : State} {m : MethodId} {args : Array Value} {below : List Frame} {meth : Method} {c : Code} {H : Heap} {locs : List Loc} {cells slots : Nat} {Q : State → Prop} {cc : ByteArray} {pc : Nat} {ls : Array Slot} {rest : List Value} {D : va_G} {cI cL cG cZ : ClassId} {ad : Nat → Nat} {M : Mem} {H0 : Heap} {M1 : Mem} {nL : Nat} {a0 : Int32} {a1 : Int32} {r : Int32} (X : CallFix p m c cc nL s args ALLW "LinkAudit") (hkk : Kk D cI cL cG cZ s) (hD : ∀ M, va_D (c_A ad) (c_ws cI cL cG cZ ad M)) (hrest : (rest.map fun v => v.category).sum ≤ 8) (hR : 0 + 1 ≤ R.frames ∧ 8 + (3 + 11) + 0 ≤ R.locals) (hcs : cells + 0 ≤ R.cells ∧ slots + 0 ≤ R.slots) (hc : f_Loaders_addProvider M a0 a1 = some (r, M1)) (hsz : ls.size = nL) (hP : va_P D vwC (c_ws cI cL cG cZ ad M) H) (hS : va_S (c_A ad) H0 H locs) (hdg : decode cc pc = .ok (.invokevirtual 103, 3))
    (kk : ∀ (H1 : Heap) (locs1 : List Loc), va_P D vwC (c_ws cI cL cG cZ ad M1) H1 → va_S (c_A ad) H0 H1 locs1 → W p l e R s m args below meth c H1 locs1 cells slots Q (F0 m (pc + 3) ls (.int r :: rest))) : W p l e R s m args below meth c H locs cells slots Q (F0 m pc ls (.int a1 :: .int a0 :: .ref (ad 1) :: rest)) := by
  have hta := X.2.2.2.2
  exact x_afterI (va_runV (As := [.int a0, .int a1]) (rest := rest) X (c_Loaders_addProvider hD hc) ⟨callB_of 2 hta (good_all (L := .code y_Loaders_addProvider prog_6_method_3_code 3 (some .int) :: ALLW) (List.forall_mem_cons.mpr ⟨wm_350, fun _ h => h⟩)) rfl rfl rfl (hta _ wm_2) (hta _ wm_347) (by decide +kernel) hR, hta _ wm_348, hta _ wm_349⟩ ⟨x_blind Kk_w _, va_recv hkk.1 hP (ci := 1) (q0 := 1) rfl c_c1, x_pre Kk_w hkk hP _⟩ rfl rfl hsz rfl (lv_room hrest) hdg hcs) hS kk
set_option maxHeartbeats 4000000 in
set_option maxRecDepth 100000 in
theorem c_LinkAudit_provide {l : Launch} {D : va_G} {cI cL cG cZ : ClassId} {ad : Nat → Nat} {M M' : Mem} {a1 : Int32} {a2 : Int32} {r : Int32} (hD : ∀ M, va_D (c_A ad) (c_ws cI cL cG cZ ad M)) (hf : f_LinkAudit_provide M a1 a2 = some (r, M')) : Mi l y_LinkAudit_provide (.code y_LinkAudit_provide prog_1_method_2_code 3 (some .int) :: ALLW) (rmR 2 41) (Kk D cI cL cG cZ) D vwC (c_A ad) (c_ws cI cL cG cZ ad) [.ref (ad 0), .int a1, .int a2] M M' r := by
  refine Mi_of (by decide) (Nat.le_of_ble_eq_true rfl) ?_
  intro p e s m args below meth c ls Q X hkk hret hP hl
  obtain ⟨hx, hb, hml, hown, hta⟩ := id X
  have hKv := hkk.1
  have hS : va_S (c_A ad) s.heap s.heap [] := va_S.rf
  have hl : lv_has ls 3 [(0, .ref (ad 0)), (1, .int a1), (2, .int a2)] := hl
  unfold f_LinkAudit_provide at hf
  refine lv_iload_n hx hb d_LinkAudit_provide_0 rfl (lv_at hl 1 rfl) ?_
  obtain ⟨r7, hc1, hf⟩ := bd1_e hf
  refine xvc_LinkAudit_85 X hkk hD (Nat.le_of_ble_eq_true rfl) ⟨by dsimp only [rmR]; omega, by dsimp only [rmR]; omega⟩ ⟨Nat.zero_le _, Nat.zero_le _⟩ hc1 hl.1 hP hS d_LinkAudit_provide_1 (fun H locs hP hS => ?_)
  refine lv_if_eq (tgt := 15) hx hb d_LinkAudit_provide_4 (by decide) (fun c2 => ?_) (fun c2 => ?_)
  · have hf := ifp c2 hf
    refine lv_iconst (v := (-1 : Int32)) hx hb d_LinkAudit_provide_15 (by decide) ?_
    exact hret hf hP hS d_LinkAudit_provide_16
  · have hf := ifn c2 hf
    refine lv_iload_n hx hb d_LinkAudit_provide_7 rfl (lv_at hl 2 rfl) ?_
    refine lv_iconst (v := (5 : Int32)) hx hb d_LinkAudit_provide_8 (by decide) ?_
    obtain ⟨r8, hc3, hf⟩ := bd1_e hf
    refine xvc_LinkAudit_89 X hkk hD (Nat.le_of_ble_eq_true rfl) ⟨by dsimp only [rmR]; omega, by dsimp only [rmR]; omega⟩ ⟨Nat.zero_le _, Nat.zero_le _⟩ hc3 hl.1 hP hS d_LinkAudit_provide_9 (fun H locs hP hS => ?_)
    refine lv_if_ne (tgt := 17) hx hb d_LinkAudit_provide_12 (by decide) (fun c4 => ?_) (fun c4 => ?_)
    · have hf := ifn c4 hf
      refine lv_iload_n hx hb d_LinkAudit_provide_17 rfl (lv_at hl 1 rfl) ?_
      refine lv_iload_n hx hb d_LinkAudit_provide_18 rfl (lv_at hl 2 rfl) ?_
      refine lv_icmp_eq (tgt := 34) hx hb d_LinkAudit_provide_19 (by decide) (fun c5 => ?_) (fun c5 => ?_)
      · have hf := ifp c5 hf
        refine lv_iconst (v := (-1 : Int32)) hx hb d_LinkAudit_provide_34 (by decide) ?_
        exact hret hf hP hS d_LinkAudit_provide_35
      · have hf := ifn c5 hf
        refine lv_aload_n hx hb d_LinkAudit_provide_22 rfl (lv_at hl 0 rfl) ?_
        refine xg_LinkAudit_12 hx hb hta hown hKv hP d_LinkAudit_provide_23 ?_
        refine lv_iload_n hx hb d_LinkAudit_provide_26 rfl (lv_at hl 1 rfl) ?_
        refine lv_iload_n hx hb d_LinkAudit_provide_27 rfl (lv_at hl 2 rfl) ?_
        obtain ⟨r9, hc6, hf⟩ := bd1_e hf
        refine xvc_LinkAudit_93 X hkk hD (Nat.le_of_ble_eq_true rfl) ⟨by dsimp only [rmR]; omega, by dsimp only [rmR]; omega⟩ ⟨Nat.zero_le _, Nat.zero_le _⟩ hc6 hl.1 hP hS d_LinkAudit_provide_28 (fun H locs hP hS => ?_)
        refine lv_if_eq (tgt := 36) hx hb d_LinkAudit_provide_31 (by decide) (fun c7 => ?_) (fun c7 => ?_)
        · have hf := ifp c7 hf
          refine lv_aload_n hx hb d_LinkAudit_provide_36 rfl (lv_at hl 0 rfl) ?_
          refine xg_LinkAudit_12 hx hb hta hown hKv hP d_LinkAudit_provide_37 ?_
          refine xg_LinkAudit_96 hx hb hta hown hKv hP d_LinkAudit_provide_40 ?_
          refine lv_iload_n hx hb d_LinkAudit_provide_43 rfl (lv_at hl 1 rfl) ?_
          obtain ⟨g8, hf⟩ := gd_ok hf
          refine x_ild hx hb hKv hP c_c16 g8 d_LinkAudit_provide_44 ?_
          refine lv_iconst (v := (3 : Int32)) hx hb d_LinkAudit_provide_45 (by decide) ?_
          refine lv_icmp_lt (tgt := 52) hx hb d_LinkAudit_provide_46 (by decide) (fun c9 => ?_) (fun c9 => ?_)
          · have hf := ifp c9 hf
            refine lv_aload_n hx hb d_LinkAudit_provide_52 rfl (lv_at hl 0 rfl) ?_
            obtain ⟨M10, hc10, hf⟩ := bd1_e hf
            refine xvc_LinkAudit_100 X hkk hD (Nat.le_of_ble_eq_true rfl) ⟨by dsimp only [rmR]; omega, by dsimp only [rmR]; omega⟩ ⟨Nat.zero_le _, Nat.zero_le _⟩ hc10 hl.1 hP hS d_LinkAudit_provide_53 (fun H locs hP hS => ?_)
            refine lv_aload_n hx hb d_LinkAudit_provide_56 rfl (lv_at hl 0 rfl) ?_
            refine xg_LinkAudit_12 hx hb hta hown hKv hP d_LinkAudit_provide_57 ?_
            refine lv_iload_n hx hb d_LinkAudit_provide_60 rfl (lv_at hl 1 rfl) ?_
            refine lv_iload_n hx hb d_LinkAudit_provide_61 rfl (lv_at hl 2 rfl) ?_
            obtain ⟨r12, M11, hc11, hf⟩ := bd2_e hf
            refine xvc_LinkAudit_103 X hkk hD (Nat.le_of_ble_eq_true rfl) ⟨by dsimp only [rmR]; omega, by dsimp only [rmR]; omega⟩ ⟨Nat.zero_le _, Nat.zero_le _⟩ hc11 hl.1 hP hS d_LinkAudit_provide_62 (fun H locs hP hS => ?_)
            exact hret hf hP hS d_LinkAudit_provide_65
          · have hf := ifn c9 hf
            refine lv_bipush (v := (-2 : Int32)) hx hb d_LinkAudit_provide_49 (by decide) ?_
            exact hret hf hP hS d_LinkAudit_provide_51
        · have hf := ifn c7 hf
          refine lv_iconst (v := (-1 : Int32)) hx hb d_LinkAudit_provide_34 (by decide) ?_
          exact hret hf hP hS d_LinkAudit_provide_35
    · have hf := ifp c4 hf
      refine lv_iconst (v := (-1 : Int32)) hx hb d_LinkAudit_provide_15 (by decide) ?_
      exact hret hf hP hS d_LinkAudit_provide_16
-- LinkAudit$Loaders.setMasked
theorem xg_Loaders_20 {p : Program} {l : Launch} {e : Env} {R : Room} {s : State} {m : MethodId} {args : Array Value} {below : List Frame} {meth : Method} {c : Code} {H : Heap} {locs : List Loc} {cells slots : Nat} {Q : State → Prop} {cc : ByteArray} {pc : Nat} {ls : Array Slot} {rest : List Value} {D : va_G} {cI cL cG cZ : ClassId} {ad : Nat → Nat} {M : Mem} (hx : p.tables.exec = Jvm.exec) (hb : c.code = cc) (hta : ∀ w ∈ ALLW, w.before args s = true) (hown : s.vm.findClass "LinkAudit$Loaders" = some m.cls) (hK : va_K D vwC [(cI, .int), (cL, .long), (cG, .array .int), (cZ, .boolean)] s) (hP : va_P D vwC (c_ws cI cL cG cZ ad M) H) (hdg : decode cc pc = .ok (.getfield 20, 3))
    (kk : W p l e R s m args below meth c H locs cells slots Q (F0 m (pc + 3) ls (.ref (ad 17) :: rest))) : W p l e R s m args below meth c H locs cells slots Q (F0 m pc ls (.ref (ad 1) :: rest)) :=
  va_get (D := D) (ci := 1) (v := .ref (ad 17)) (C := "LinkAudit$Loaders") (T := T_Loaders) (N := 4) hx hb hta i_Loaders hown hK hP 1 c_c1 rfl 2 (by decide) (hta _ wm_34) (fun _ h9 => h9) rfl hdg kk
set_option maxHeartbeats 4000000 in
set_option maxRecDepth 100000 in
theorem c_Loaders_setMasked {l : Launch} {D : va_G} {cI cL cG cZ : ClassId} {ad : Nat → Nat} {M M' : Mem} {a1 : Int32} {a2 : Int32} {a3 : Int32} (hD : ∀ M, va_D (c_A ad) (c_ws cI cL cG cZ ad M)) (hf : f_Loaders_setMasked M a1 a2 a3 = some M') : Mv l y_Loaders_setMasked (.code y_Loaders_setMasked prog_6_method_4_code 4 none :: ALLW) (rmR 0 0) (Kk D cI cL cG cZ) D vwC (c_A ad) (c_ws cI cL cG cZ ad) [.ref (ad 1), .int a1, .int a2, .int a3] M M' := by
  refine Mv_of (by decide) (Nat.le_of_ble_eq_true rfl) ?_
  intro p e s m args below meth c ls Q X hkk hret hP hl
  obtain ⟨hx, hb, hml, hown, hta⟩ := id X
  have hKv := hkk.1
  have hS : va_S (c_A ad) s.heap s.heap [] := va_S.rf
  have hl : lv_has ls 4 [(0, .ref (ad 1)), (1, .int a1), (2, .int a2), (3, .int a3)] := hl
  unfold f_Loaders_setMasked at hf
  refine lv_iload_n hx hb d_Loaders_setMasked_0 rfl (lv_at hl 3 rfl) ?_
  refine lv_if_eq (tgt := 19) hx hb d_Loaders_setMasked_1 (by decide) (fun c1 => ?_) (fun c1 => ?_)
  · have hf := ifp c1 hf
    refine lv_aload_n hx hb d_Loaders_setMasked_19 rfl (lv_at hl 0 rfl) ?_
    refine xg_Loaders_20 hx hb hta hown hKv hP d_Loaders_setMasked_20 ?_
    refine lv_iload_n hx hb d_Loaders_setMasked_23 rfl (lv_at hl 1 rfl) ?_
    refine lv_dup2_11 hx hb d_Loaders_setMasked_24 rfl rfl ?_
    obtain ⟨g2, hf⟩ := gd_ok hf
    refine x_ild hx hb hKv hP c_c17 g2 d_Loaders_setMasked_25 ?_
    refine lv_iconst (v := (1 : Int32)) hx hb d_Loaders_setMasked_26 (by decide) ?_
    refine lv_iload_n hx hb d_Loaders_setMasked_27 rfl (lv_at hl 2 rfl) ?_
    refine lv_ishl hx hb d_Loaders_setMasked_28 ?_
    refine lv_iconst (v := (-1 : Int32)) hx hb d_Loaders_setMasked_29 (by decide) ?_
    refine lv_ixor hx hb d_Loaders_setMasked_30 ?_
    refine lv_iand hx hb d_Loaders_setMasked_31 ?_
    obtain ⟨g3, hf⟩ := gd_ok hf
    obtain ⟨M3, eM3, hf⟩ := sm_e hf
    refine x_ist hx hb hKv hP (hD _) hS c_c17 c_s17 g3 eM3 d_Loaders_setMasked_32 (fun H locs hP hS => ?_)
    exact hret hf hP hS d_Loaders_setMasked_33
  · have hf := ifn c1 hf
    refine lv_aload_n hx hb d_Loaders_setMasked_4 rfl (lv_at hl 0 rfl) ?_
    refine xg_Loaders_20 hx hb hta hown hKv hP d_Loaders_setMasked_5 ?_
    refine lv_iload_n hx hb d_Loaders_setMasked_8 rfl (lv_at hl 1 rfl) ?_
    refine lv_dup2_11 hx hb d_Loaders_setMasked_9 rfl rfl ?_
    obtain ⟨g4, hf⟩ := gd_ok hf
    refine x_ild hx hb hKv hP c_c17 g4 d_Loaders_setMasked_10 ?_
    refine lv_iconst (v := (1 : Int32)) hx hb d_Loaders_setMasked_11 (by decide) ?_
    refine lv_iload_n hx hb d_Loaders_setMasked_12 rfl (lv_at hl 2 rfl) ?_
    refine lv_ishl hx hb d_Loaders_setMasked_13 ?_
    refine lv_ior hx hb d_Loaders_setMasked_14 ?_
    obtain ⟨g5, hf⟩ := gd_ok hf
    obtain ⟨M4, eM4, hf⟩ := sm_e hf
    refine x_ist hx hb hKv hP (hD _) hS c_c17 c_s17 g5 eM4 d_Loaders_setMasked_15 (fun H locs hP hS => ?_)
    refine lv_goto (tgt := 33) hx hb d_Loaders_setMasked_16 (by decide) ?_
    exact hret hf hP hS d_Loaders_setMasked_33
-- LinkAudit.mask
theorem xvc_LinkAudit_107 {p : Program} {l : Launch} {e : Env} {R : Room} {s : State} {m : MethodId} {args : Array Value} {below : List Frame} {meth : Method} {c : Code} {H : Heap} {locs : List Loc} {cells slots : Nat} {Q : State → Prop} {cc : ByteArray} {pc : Nat} {ls : Array Slot} {rest : List Value} {D : va_G} {cI cL cG cZ : ClassId} {ad : Nat → Nat} {M : Mem} {H0 : Heap} {M1 : Mem} {nL : Nat} {a0 : Int32} {a1 : Int32} {a2 : Int32} (X : CallFix p m c cc nL s args ALLW "LinkAudit") (hkk : Kk D cI cL cG cZ s) (hD : ∀ M, va_D (c_A ad) (c_ws cI cL cG cZ ad M)) (hrest : (rest.map fun v => v.category).sum ≤ 8) (hR : 0 + 1 ≤ R.frames ∧ 8 + (4 + 11) + 0 ≤ R.locals) (hcs : cells + 0 ≤ R.cells ∧ slots + 0 ≤ R.slots) (hc : f_Loaders_setMasked M a0 a1 a2 = some M1) (hsz : ls.size = nL) (hP : va_P D vwC (c_ws cI cL cG cZ ad M) H) (hS : va_S (c_A ad) H0 H locs) (hdg : decode cc pc = .ok (.invokevirtual 107, 3))
    (kk : ∀ (H1 : Heap) (locs1 : List Loc), va_P D vwC (c_ws cI cL cG cZ ad M1) H1 → va_S (c_A ad) H0 H1 locs1 → W p l e R s m args below meth c H1 locs1 cells slots Q (F0 m (pc + 3) ls (rest))) : W p l e R s m args below meth c H locs cells slots Q (F0 m pc ls (.int a2 :: .int a1 :: .int a0 :: .ref (ad 1) :: rest)) := by
  have hta := X.2.2.2.2
  exact x_afterV (va_runV (As := [.int a0, .int a1, .int a2]) (rest := rest) X (c_Loaders_setMasked hD hc) ⟨callB_of 3 hta (good_all (L := .code y_Loaders_setMasked prog_6_method_4_code 4 none :: ALLW) (List.forall_mem_cons.mpr ⟨wm_358, fun _ h => h⟩)) rfl rfl rfl (hta _ wm_2) (hta _ wm_355) (by decide +kernel) hR, hta _ wm_356, hta _ wm_357⟩ ⟨x_blind Kk_w _, va_recv hkk.1 hP (ci := 1) (q0 := 1) rfl c_c1, x_pre Kk_w hkk hP _⟩ rfl rfl hsz rfl (lv_room hrest) hdg hcs) hS kk
set_option maxHeartbeats 4000000 in
set_option maxRecDepth 100000 in
theorem c_LinkAudit_mask {l : Launch} {D : va_G} {cI cL cG cZ : ClassId} {ad : Nat → Nat} {M M' : Mem} {a1 : Int32} {a2 : Int32} {a3 : Int32} {r : Int32} (hD : ∀ M, va_D (c_A ad) (c_ws cI cL cG cZ ad M)) (hf : f_LinkAudit_mask M a1 a2 a3 = some (r, M')) : Mi l y_LinkAudit_mask (.code y_LinkAudit_mask prog_1_method_3_code 4 (some .int) :: ALLW) (rmR 2 41) (Kk D cI cL cG cZ) D vwC (c_A ad) (c_ws cI cL cG cZ ad) [.ref (ad 0), .int a1, .int a2, .int a3] M M' r := by
  refine Mi_of (by decide) (Nat.le_of_ble_eq_true rfl) ?_
  intro p e s m args below meth c ls Q X hkk hret hP hl
  obtain ⟨hx, hb, hml, hown, hta⟩ := id X
  have hKv := hkk.1
  have hS : va_S (c_A ad) s.heap s.heap [] := va_S.rf
  have hl : lv_has ls 4 [(0, .ref (ad 0)), (1, .int a1), (2, .int a2), (3, .int a3)] := hl
  unfold f_LinkAudit_mask at hf
  refine lv_iload_n hx hb d_LinkAudit_mask_0 rfl (lv_at hl 1 rfl) ?_
  obtain ⟨r5, hc1, hf⟩ := bd1_e hf
  refine xvc_LinkAudit_85 X hkk hD (Nat.le_of_ble_eq_true rfl) ⟨by dsimp only [rmR]; omega, by dsimp only [rmR]; omega⟩ ⟨Nat.zero_le _, Nat.zero_le _⟩ hc1 hl.1 hP hS d_LinkAudit_mask_1 (fun H locs hP hS => ?_)
  refine lv_if_eq (tgt := 16) hx hb d_LinkAudit_mask_4 (by decide) (fun c2 => ?_) (fun c2 => ?_)
  · have hf := ifp c2 hf
    refine lv_iconst (v := (-1 : Int32)) hx hb d_LinkAudit_mask_16 (by decide) ?_
    exact hret hf hP hS d_LinkAudit_mask_17
  · have hf := ifn c2 hf
    refine lv_iload_n hx hb d_LinkAudit_mask_7 rfl (lv_at hl 2 rfl) ?_
    refine lv_bipush (v := (12 : Int32)) hx hb d_LinkAudit_mask_8 (by decide) ?_
    obtain ⟨r6, hc3, hf⟩ := bd1_e hf
    refine xvc_LinkAudit_89 X hkk hD (Nat.le_of_ble_eq_true rfl) ⟨by dsimp only [rmR]; omega, by dsimp only [rmR]; omega⟩ ⟨Nat.zero_le _, Nat.zero_le _⟩ hc3 hl.1 hP hS d_LinkAudit_mask_10 (fun H locs hP hS => ?_)
    refine lv_if_ne (tgt := 18) hx hb d_LinkAudit_mask_13 (by decide) (fun c4 => ?_) (fun c4 => ?_)
    · have hf := ifn c4 hf
      refine lv_aload_n hx hb d_LinkAudit_mask_18 rfl (lv_at hl 0 rfl) ?_
      obtain ⟨M7, hc5, hf⟩ := bd1_e hf
      refine xvc_LinkAudit_100 X hkk hD (Nat.le_of_ble_eq_true rfl) ⟨by dsimp only [rmR]; omega, by dsimp only [rmR]; omega⟩ ⟨Nat.zero_le _, Nat.zero_le _⟩ hc5 hl.1 hP hS d_LinkAudit_mask_19 (fun H locs hP hS => ?_)
      refine lv_aload_n hx hb d_LinkAudit_mask_22 rfl (lv_at hl 0 rfl) ?_
      refine xg_LinkAudit_12 hx hb hta hown hKv hP d_LinkAudit_mask_23 ?_
      refine lv_iload_n hx hb d_LinkAudit_mask_26 rfl (lv_at hl 1 rfl) ?_
      refine lv_iload_n hx hb d_LinkAudit_mask_27 rfl (lv_at hl 2 rfl) ?_
      refine lv_iload_n hx hb d_LinkAudit_mask_28 rfl (lv_at hl 3 rfl) ?_
      obtain ⟨M8, hc6, hf⟩ := bd1_e hf
      refine xvc_LinkAudit_107 X hkk hD (Nat.le_of_ble_eq_true rfl) ⟨by dsimp only [rmR]; omega, by dsimp only [rmR]; omega⟩ ⟨Nat.zero_le _, Nat.zero_le _⟩ hc6 hl.1 hP hS d_LinkAudit_mask_29 (fun H locs hP hS => ?_)
      refine lv_iconst (v := (0 : Int32)) hx hb d_LinkAudit_mask_32 (by decide) ?_
      exact hret hf hP hS d_LinkAudit_mask_33
    · have hf := ifp c4 hf
      refine lv_iconst (v := (-1 : Int32)) hx hb d_LinkAudit_mask_16 (by decide) ?_
      exact hret hf hP hS d_LinkAudit_mask_17
-- LinkAudit$Classes.add
theorem xg_Classes_27 {p : Program} {l : Launch} {e : Env} {R : Room} {s : State} {m : MethodId} {args : Array Value} {below : List Frame} {meth : Method} {c : Code} {H : Heap} {locs : List Loc} {cells slots : Nat} {Q : State → Prop} {cc : ByteArray} {pc : Nat} {ls : Array Slot} {rest : List Value} {D : va_G} {cI cL cG cZ : ClassId} {ad : Nat → Nat} {M : Mem} (hx : p.tables.exec = Jvm.exec) (hb : c.code = cc) (hta : ∀ w ∈ ALLW, w.before args s = true) (hown : s.vm.findClass "LinkAudit$Classes" = some m.cls) (hK : va_K D vwC [(cI, .int), (cL, .long), (cG, .array .int), (cZ, .boolean)] s) (hP : va_P D vwC (c_ws cI cL cG cZ ad M) H) (hdg : decode cc pc = .ok (.getfield 27, 3))
    (kk : W p l e R s m args below meth c H locs cells slots Q (F0 m (pc + 3) ls (.int (M.1 2 5) :: rest))) : W p l e R s m args below meth c H locs cells slots Q (F0 m pc ls (.ref (ad 2) :: rest)) :=
  va_get (D := D) (ci := 2) (v := .int (M.1 2 5)) (C := "LinkAudit$Classes") (T := T_Classes) (N := 6) hx hb hta i_Classes hown hK hP 2 c_c2 rfl 5 (by decide) (hta _ wm_64) (fun _ h9 => h9) rfl hdg kk
theorem xp_Classes_27 {p : Program} {l : Launch} {e : Env} {R : Room} {s : State} {m : MethodId} {args : Array Value} {below : List Frame} {meth : Method} {c : Code} {H : Heap} {locs : List Loc} {cells slots : Nat} {Q : State → Prop} {cc : ByteArray} {pc : Nat} {ls : Array Slot} {rest : List Value} {D : va_G} {cI cL cG cZ : ClassId} {ad : Nat → Nat} {M : Mem} {H0 : Heap} {M1 : Mem} {x : Int32} (hx : p.tables.exec = Jvm.exec) (hb : c.code = cc) (hta : ∀ w ∈ ALLW, w.before args s = true) (hown : s.vm.findClass "LinkAudit$Classes" = some m.cls) (hK : va_K D vwC [(cI, .int), (cL, .long), (cG, .array .int), (cZ, .boolean)] s) (hP : va_P D vwC (c_ws cI cL cG cZ ad M) H) (hD : va_D (c_A ad) (c_ws cI cL cG cZ ad M)) (hS : va_S (c_A ad) H0 H locs) (eM : M1 = u1 M 2 5 x) (hdg : decode cc pc = .ok (.putfield 27, 3))
    (kk : ∀ (H1 : Heap) (locs1 : List Loc), va_P D vwC (c_ws cI cL cG cZ ad M1) H1 → va_S (c_A ad) H0 H1 locs1 → W p l e R s m args below meth c H1 locs1 cells slots Q (F0 m (pc + 3) ls rest)) : W p l e R s m args below meth c H locs cells slots Q (F0 m pc ls (.int x :: .ref (ad 2) :: rest)) := by
  refine va_put (D := D) (ci := 2) (v := .int x) (ty := .int) (C := "LinkAudit$Classes") (T := T_Classes) (N := 6) hx hb hta i_Classes t_Classes t_Classes_ok n_Classes hown hK hP hD hS 2 c_c2 rfl 5 (by decide) (hta _ wm_64) (fun _ h9 => h9) rfl (by decide +kernel) rfl rfl (Nat.le_of_ble_eq_true rfl) hdg (fun H1 locs1 h1 _ h3 => kk H1 locs1 ?_ h3)
  rw [eM]
  exact h1
theorem xg_Classes_9 {p : Program} {l : Launch} {e : Env} {R : Room} {s : State} {m : MethodId} {args : Array Value} {below : List Frame} {meth : Method} {c : Code} {H : Heap} {locs : List Loc} {cells slots : Nat} {Q : State → Prop} {cc : ByteArray} {pc : Nat} {ls : Array Slot} {rest : List Value} {D : va_G} {cI cL cG cZ : ClassId} {ad : Nat → Nat} {M : Mem} (hx : p.tables.exec = Jvm.exec) (hb : c.code = cc) (hta : ∀ w ∈ ALLW, w.before args s = true) (hown : s.vm.findClass "LinkAudit$Classes" = some m.cls) (hK : va_K D vwC [(cI, .int), (cL, .long), (cG, .array .int), (cZ, .boolean)] s) (hP : va_P D vwC (c_ws cI cL cG cZ ad M) H) (hdg : decode cc pc = .ok (.getfield 9, 3))
    (kk : W p l e R s m args below meth c H locs cells slots Q (F0 m (pc + 3) ls (.ref (ad 24) :: rest))) : W p l e R s m args below meth c H locs cells slots Q (F0 m pc ls (.ref (ad 2) :: rest)) :=
  va_get (D := D) (ci := 2) (v := .ref (ad 24)) (C := "LinkAudit$Classes") (T := T_Classes) (N := 6) hx hb hta i_Classes hown hK hP 2 c_c2 rfl 0 (by decide) (hta _ wm_53) (fun _ h9 => h9) rfl hdg kk
theorem xg_Classes_15 {p : Program} {l : Launch} {e : Env} {R : Room} {s : State} {m : MethodId} {args : Array Value} {below : List Frame} {meth : Method} {c : Code} {H : Heap} {locs : List Loc} {cells slots : Nat} {Q : State → Prop} {cc : ByteArray} {pc : Nat} {ls : Array Slot} {rest : List Value} {D : va_G} {cI cL cG cZ : ClassId} {ad : Nat → Nat} {M : Mem} (hx : p.tables.exec = Jvm.exec) (hb : c.code = cc) (hta : ∀ w ∈ ALLW, w.before args s = true) (hown : s.vm.findClass "LinkAudit$Classes" = some m.cls) (hK : va_K D vwC [(cI, .int), (cL, .long), (cG, .array .int), (cZ, .boolean)] s) (hP : va_P D vwC (c_ws cI cL cG cZ ad M) H) (hdg : decode cc pc = .ok (.getfield 15, 3))
    (kk : W p l e R s m args below meth c H locs cells slots Q (F0 m (pc + 3) ls (.ref (ad 25) :: rest))) : W p l e R s m args below meth c H locs cells slots Q (F0 m pc ls (.ref (ad 2) :: rest)) :=
  va_get (D := D) (ci := 2) (v := .ref (ad 25)) (C := "LinkAudit$Classes") (T := T_Classes) (N := 6) hx hb hta i_Classes hown hK hP 2 c_c2 rfl 1 (by decide) (hta _ wm_57) (fun _ h9 => h9) rfl hdg kk
theorem xg_Classes_18 {p : Program} {l : Launch} {e : Env} {R : Room} {s : State} {m : MethodId} {args : Array Value} {below : List Frame} {meth : Method} {c : Code} {H : Heap} {locs : List Loc} {cells slots : Nat} {Q : State → Prop} {cc : ByteArray} {pc : Nat} {ls : Array Slot} {rest : List Value} {D : va_G} {cI cL cG cZ : ClassId} {ad : Nat → Nat} {M : Mem} (hx : p.tables.exec = Jvm.exec) (hb : c.code = cc) (hta : ∀ w ∈ ALLW, w.before args s = true) (hown : s.vm.findClass "LinkAudit$Classes" = some m.cls) (hK : va_K D vwC [(cI, .int), (cL, .long), (cG, .array .int), (cZ, .boolean)] s) (hP : va_P D vwC (c_ws cI cL cG cZ ad M) H) (hdg : decode cc pc = .ok (.getfield 18, 3))
    (kk : W p l e R s m args below meth c H locs cells slots Q (F0 m (pc + 3) ls (.ref (ad 26) :: rest))) : W p l e R s m args below meth c H locs cells slots Q (F0 m pc ls (.ref (ad 2) :: rest)) :=
  va_get (D := D) (ci := 2) (v := .ref (ad 26)) (C := "LinkAudit$Classes") (T := T_Classes) (N := 6) hx hb hta i_Classes hown hK hP 2 c_c2 rfl 2 (by decide) (hta _ wm_58) (fun _ h9 => h9) rfl hdg kk
theorem xg_Classes_21 {p : Program} {l : Launch} {e : Env} {R : Room} {s : State} {m : MethodId} {args : Array Value} {below : List Frame} {meth : Method} {c : Code} {H : Heap} {locs : List Loc} {cells slots : Nat} {Q : State → Prop} {cc : ByteArray} {pc : Nat} {ls : Array Slot} {rest : List Value} {D : va_G} {cI cL cG cZ : ClassId} {ad : Nat → Nat} {M : Mem} (hx : p.tables.exec = Jvm.exec) (hb : c.code = cc) (hta : ∀ w ∈ ALLW, w.before args s = true) (hown : s.vm.findClass "LinkAudit$Classes" = some m.cls) (hK : va_K D vwC [(cI, .int), (cL, .long), (cG, .array .int), (cZ, .boolean)] s) (hP : va_P D vwC (c_ws cI cL cG cZ ad M) H) (hdg : decode cc pc = .ok (.getfield 21, 3))
    (kk : W p l e R s m args below meth c H locs cells slots Q (F0 m (pc + 3) ls (.ref (ad 27) :: rest))) : W p l e R s m args below meth c H locs cells slots Q (F0 m pc ls (.ref (ad 2) :: rest)) :=
  va_get (D := D) (ci := 2) (v := .ref (ad 27)) (C := "LinkAudit$Classes") (T := T_Classes) (N := 6) hx hb hta i_Classes hown hK hP 2 c_c2 rfl 3 (by decide) (hta _ wm_59) (fun _ h9 => h9) rfl hdg kk
theorem xg_Classes_24 {p : Program} {l : Launch} {e : Env} {R : Room} {s : State} {m : MethodId} {args : Array Value} {below : List Frame} {meth : Method} {c : Code} {H : Heap} {locs : List Loc} {cells slots : Nat} {Q : State → Prop} {cc : ByteArray} {pc : Nat} {ls : Array Slot} {rest : List Value} {D : va_G} {cI cL cG cZ : ClassId} {ad : Nat → Nat} {M : Mem} (hx : p.tables.exec = Jvm.exec) (hb : c.code = cc) (hta : ∀ w ∈ ALLW, w.before args s = true) (hown : s.vm.findClass "LinkAudit$Classes" = some m.cls) (hK : va_K D vwC [(cI, .int), (cL, .long), (cG, .array .int), (cZ, .boolean)] s) (hP : va_P D vwC (c_ws cI cL cG cZ ad M) H) (hdg : decode cc pc = .ok (.getfield 24, 3))
    (kk : W p l e R s m args below meth c H locs cells slots Q (F0 m (pc + 3) ls (.ref (ad 28) :: rest))) : W p l e R s m args below meth c H locs cells slots Q (F0 m pc ls (.ref (ad 2) :: rest)) :=
  va_get (D := D) (ci := 2) (v := .ref (ad 28)) (C := "LinkAudit$Classes") (T := T_Classes) (N := 6) hx hb hta i_Classes hown hK hP 2 c_c2 rfl 4 (by decide) (hta _ wm_61) (fun _ h9 => h9) rfl hdg kk
set_option maxHeartbeats 4000000 in
set_option maxRecDepth 100000 in
theorem c_Classes_add {l : Launch} {D : va_G} {cI cL cG cZ : ClassId} {ad : Nat → Nat} {M M' : Mem} {a1 : Int32} {a2 : Int32} {a3 : Int32} {a4 : Int32} {a5 : Int32} {r : Int32} (hD : ∀ M, va_D (c_A ad) (c_ws cI cL cG cZ ad M)) (hf : f_Classes_add M a1 a2 a3 a4 a5 = some (r, M')) : Mi l y_Classes_add (.code y_Classes_add prog_3_method_2_code 6 (some .int) :: ALLW) (rmR 0 0) (Kk D cI cL cG cZ) D vwC (c_A ad) (c_ws cI cL cG cZ ad) [.ref (ad 2), .int a1, .int a2, .int a3, .int a4, .int a5] M M' r := by
  refine Mi_of (by decide) (Nat.le_of_ble_eq_true rfl) ?_
  intro p e s m args below meth c ls Q X hkk hret hP hl
  obtain ⟨hx, hb, hml, hown, hta⟩ := id X
  have hKv := hkk.1
  have hS : va_S (c_A ad) s.heap s.heap [] := va_S.rf
  have hl : lv_has ls 6 [(0, .ref (ad 2)), (1, .int a1), (2, .int a2), (3, .int a3), (4, .int a4), (5, .int a5)] := hl
  unfold f_Classes_add at hf
  refine lv_aload_n hx hb d_Classes_add_0 rfl (lv_at hl 0 rfl) ?_
  refine lv_dup hx hb d_Classes_add_1 rfl ?_
  refine xg_Classes_27 hx hb hta hown hKv hP d_Classes_add_2 ?_
  refine lv_iconst (v := (1 : Int32)) hx hb d_Classes_add_5 (by decide) ?_
  refine lv_iadd hx hb d_Classes_add_6 ?_
  obtain ⟨M7, eM7, hf⟩ := sm_e hf
  refine xp_Classes_27 hx hb hta hown hKv hP (hD _) hS eM7 d_Classes_add_7 (fun H locs hP hS => ?_)
  refine lv_aload_n hx hb d_Classes_add_10 rfl (lv_at hl 0 rfl) ?_
  refine xg_Classes_9 hx hb hta hown hKv hP d_Classes_add_11 ?_
  refine lv_aload_n hx hb d_Classes_add_14 rfl (lv_at hl 0 rfl) ?_
  refine xg_Classes_27 hx hb hta hown hKv hP d_Classes_add_15 ?_
  refine lv_iload_n hx hb d_Classes_add_18 rfl (lv_at hl 1 rfl) ?_
  obtain ⟨g1, hf⟩ := gd_ok hf
  obtain ⟨M8, eM8, hf⟩ := sm_e hf
  refine x_ist hx hb hKv hP (hD _) hS c_c24 c_s24 g1 eM8 d_Classes_add_19 (fun H locs hP hS => ?_)
  refine lv_aload_n hx hb d_Classes_add_20 rfl (lv_at hl 0 rfl) ?_
  refine xg_Classes_15 hx hb hta hown hKv hP d_Classes_add_21 ?_
  refine lv_aload_n hx hb d_Classes_add_24 rfl (lv_at hl 0 rfl) ?_
  refine xg_Classes_27 hx hb hta hown hKv hP d_Classes_add_25 ?_
  refine lv_iload_n hx hb d_Classes_add_28 rfl (lv_at hl 2 rfl) ?_
  obtain ⟨g2, hf⟩ := gd_ok hf
  obtain ⟨M9, eM9, hf⟩ := sm_e hf
  refine x_ist hx hb hKv hP (hD _) hS c_c25 c_s25 g2 eM9 d_Classes_add_29 (fun H locs hP hS => ?_)
  refine lv_aload_n hx hb d_Classes_add_30 rfl (lv_at hl 0 rfl) ?_
  refine xg_Classes_18 hx hb hta hown hKv hP d_Classes_add_31 ?_
  refine lv_aload_n hx hb d_Classes_add_34 rfl (lv_at hl 0 rfl) ?_
  refine xg_Classes_27 hx hb hta hown hKv hP d_Classes_add_35 ?_
  refine lv_iload_n hx hb d_Classes_add_38 rfl (lv_at hl 3 rfl) ?_
  obtain ⟨g3, hf⟩ := gd_ok hf
  obtain ⟨M10, eM10, hf⟩ := sm_e hf
  refine x_ist hx hb hKv hP (hD _) hS c_c26 c_s26 g3 eM10 d_Classes_add_39 (fun H locs hP hS => ?_)
  refine lv_aload_n hx hb d_Classes_add_40 rfl (lv_at hl 0 rfl) ?_
  refine xg_Classes_21 hx hb hta hown hKv hP d_Classes_add_41 ?_
  refine lv_aload_n hx hb d_Classes_add_44 rfl (lv_at hl 0 rfl) ?_
  refine xg_Classes_27 hx hb hta hown hKv hP d_Classes_add_45 ?_
  refine lv_iload hx hb d_Classes_add_48 (lv_at hl 4 rfl) ?_
  obtain ⟨g4, hf⟩ := gd_ok hf
  obtain ⟨M11, eM11, hf⟩ := sm_e hf
  refine x_ist hx hb hKv hP (hD _) hS c_c27 c_s27 g4 eM11 d_Classes_add_50 (fun H locs hP hS => ?_)
  refine lv_aload_n hx hb d_Classes_add_51 rfl (lv_at hl 0 rfl) ?_
  refine xg_Classes_24 hx hb hta hown hKv hP d_Classes_add_52 ?_
  refine lv_aload_n hx hb d_Classes_add_55 rfl (lv_at hl 0 rfl) ?_
  refine xg_Classes_27 hx hb hta hown hKv hP d_Classes_add_56 ?_
  refine lv_iload hx hb d_Classes_add_59 (lv_at hl 5 rfl) ?_
  obtain ⟨g5, hf⟩ := gd_ok hf
  obtain ⟨M12, eM12, hf⟩ := sm_e hf
  refine x_ist hx hb hKv hP (hD _) hS c_c28 c_s28 g5 eM12 d_Classes_add_61 (fun H locs hP hS => ?_)
  refine lv_aload_n hx hb d_Classes_add_62 rfl (lv_at hl 0 rfl) ?_
  refine xg_Classes_27 hx hb hta hown hKv hP d_Classes_add_63 ?_
  exact hret hf hP hS d_Classes_add_66
-- LinkAudit.define
theorem xg_LinkAudit_111 {p : Program} {l : Launch} {e : Env} {R : Room} {s : State} {m : MethodId} {args : Array Value} {below : List Frame} {meth : Method} {c : Code} {H : Heap} {locs : List Loc} {cells slots : Nat} {Q : State → Prop} {cc : ByteArray} {pc : Nat} {ls : Array Slot} {rest : List Value} {D : va_G} {cI cL cG cZ : ClassId} {ad : Nat → Nat} {M : Mem} (hx : p.tables.exec = Jvm.exec) (hb : c.code = cc) (hta : ∀ w ∈ ALLW, w.before args s = true) (hown : s.vm.findClass "LinkAudit" = some m.cls) (hK : va_K D vwC [(cI, .int), (cL, .long), (cG, .array .int), (cZ, .boolean)] s) (hP : va_P D vwC (c_ws cI cL cG cZ ad M) H) (hdg : decode cc pc = .ok (.getfield 111, 3))
    (kk : W p l e R s m args below meth c H locs cells slots Q (F0 m (pc + 3) ls (.ref (ad 18) :: rest))) : W p l e R s m args below meth c H locs cells slots Q (F0 m pc ls (.ref (ad 1) :: rest)) :=
  va_get (D := D) (ci := 1) (v := .ref (ad 18)) (C := "LinkAudit$Loaders") (T := T_Loaders) (N := 4) hx hb hta i_Loaders hown hK hP 1 c_c1 rfl 3 (by decide) (hta _ wm_36) (fun _ h9 => h9) rfl hdg kk
theorem xg_LinkAudit_19 {p : Program} {l : Launch} {e : Env} {R : Room} {s : State} {m : MethodId} {args : Array Value} {below : List Frame} {meth : Method} {c : Code} {H : Heap} {locs : List Loc} {cells slots : Nat} {Q : State → Prop} {cc : ByteArray} {pc : Nat} {ls : Array Slot} {rest : List Value} {D : va_G} {cI cL cG cZ : ClassId} {ad : Nat → Nat} {M : Mem} (hx : p.tables.exec = Jvm.exec) (hb : c.code = cc) (hta : ∀ w ∈ ALLW, w.before args s = true) (hown : s.vm.findClass "LinkAudit" = some m.cls) (hK : va_K D vwC [(cI, .int), (cL, .long), (cG, .array .int), (cZ, .boolean)] s) (hP : va_P D vwC (c_ws cI cL cG cZ ad M) H) (hdg : decode cc pc = .ok (.getfield 19, 3))
    (kk : W p l e R s m args below meth c H locs cells slots Q (F0 m (pc + 3) ls (.ref (ad 2) :: rest))) : W p l e R s m args below meth c H locs cells slots Q (F0 m pc ls (.ref (ad 0) :: rest)) :=
  va_get (D := D) (ci := 0) (v := .ref (ad 2)) (C := "LinkAudit") (T := T_LinkAudit) (N := 10) hx hb hta i_LinkAudit hown hK hP 0 c_c0 rfl 1 (by decide) (hta _ wm_299) (fun _ h9 => h9) rfl hdg kk
theorem xg_LinkAudit_115 {p : Program} {l : Launch} {e : Env} {R : Room} {s : State} {m : MethodId} {args : Array Value} {below : List Frame} {meth : Method} {c : Code} {H : Heap} {locs : List Loc} {cells slots : Nat} {Q : State → Prop} {cc : ByteArray} {pc : Nat} {ls : Array Slot} {rest : List Value} {D : va_G} {cI cL cG cZ : ClassId} {ad : Nat → Nat} {M : Mem} (hx : p.tables.exec = Jvm.exec) (hb : c.code = cc) (hta : ∀ w ∈ ALLW, w.before args s = true) (hown : s.vm.findClass "LinkAudit" = some m.cls) (hK : va_K D vwC [(cI, .int), (cL, .long), (cG, .array .int), (cZ, .boolean)] s) (hP : va_P D vwC (c_ws cI cL cG cZ ad M) H) (hdg : decode cc pc = .ok (.getfield 115, 3))
    (kk : W p l e R s m args below meth c H locs cells slots Q (F0 m (pc + 3) ls (.int (M.1 2 5) :: rest))) : W p l e R s m args below meth c H locs cells slots Q (F0 m pc ls (.ref (ad 2) :: rest)) :=
  va_get (D := D) (ci := 2) (v := .int (M.1 2 5)) (C := "LinkAudit$Classes") (T := T_Classes) (N := 6) hx hb hta i_Classes hown hK hP 2 c_c2 rfl 5 (by decide) (hta _ wm_67) (fun _ h9 => h9) rfl hdg kk
theorem xvc_LinkAudit_119 {p : Program} {l : Launch} {e : Env} {R : Room} {s : State} {m : MethodId} {args : Array Value} {below : List Frame} {meth : Method} {c : Code} {H : Heap} {locs : List Loc} {cells slots : Nat} {Q : State → Prop} {cc : ByteArray} {pc : Nat} {ls : Array Slot} {rest : List Value} {D : va_G} {cI cL cG cZ : ClassId} {ad : Nat → Nat} {M : Mem} {H0 : Heap} {M1 : Mem} {nL : Nat} {a0 : Int32} {a1 : Int32} {a2 : Int32} {a3 : Int32} {a4 : Int32} {r : Int32} (X : CallFix p m c cc nL s args ALLW "LinkAudit") (hkk : Kk D cI cL cG cZ s) (hD : ∀ M, va_D (c_A ad) (c_ws cI cL cG cZ ad M)) (hrest : (rest.map fun v => v.category).sum ≤ 8) (hR : 0 + 1 ≤ R.frames ∧ 8 + (6 + 11) + 0 ≤ R.locals) (hcs : cells + 0 ≤ R.cells ∧ slots + 0 ≤ R.slots) (hc : f_Classes_add M a0 a1 a2 a3 a4 = some (r, M1)) (hsz : ls.size = nL) (hP : va_P D vwC (c_ws cI cL cG cZ ad M) H) (hS : va_S (c_A ad) H0 H locs) (hdg : decode cc pc = .ok (.invokevirtual 119, 3))
    (kk : ∀ (H1 : Heap) (locs1 : List Loc), va_P D vwC (c_ws cI cL cG cZ ad M1) H1 → va_S (c_A ad) H0 H1 locs1 → W p l e R s m args below meth c H1 locs1 cells slots Q (F0 m (pc + 3) ls (.int r :: rest))) : W p l e R s m args below meth c H locs cells slots Q (F0 m pc ls (.int a4 :: .int a3 :: .int a2 :: .int a1 :: .int a0 :: .ref (ad 2) :: rest)) := by
  have hta := X.2.2.2.2
  exact x_afterI (va_runV (As := [.int a0, .int a1, .int a2, .int a3, .int a4]) (rest := rest) X (c_Classes_add hD hc) ⟨callB_of 5 hta (good_all (L := .code y_Classes_add prog_3_method_2_code 6 (some .int) :: ALLW) (List.forall_mem_cons.mpr ⟨wm_366, fun _ h => h⟩)) rfl rfl rfl (hta _ wm_3) (hta _ wm_363) (by decide +kernel) hR, hta _ wm_364, hta _ wm_365⟩ ⟨x_blind Kk_w _, va_recv hkk.1 hP (ci := 2) (q0 := 2) rfl c_c2, x_pre Kk_w hkk hP _⟩ rfl rfl hsz rfl (lv_room hrest) hdg hcs) hS kk
set_option maxHeartbeats 4000000 in
set_option maxRecDepth 100000 in
theorem c_LinkAudit_define {l : Launch} {D : va_G} {cI cL cG cZ : ClassId} {ad : Nat → Nat} {M M' : Mem} {a1 : Int32} {a2 : Int32} {a3 : Int32} {a4 : Int32} {a5 : Int32} {r : Int32} (hD : ∀ M, va_D (c_A ad) (c_ws cI cL cG cZ ad M)) (hf : f_LinkAudit_define M a1 a2 a3 a4 a5 = some (r, M')) : Mi l y_LinkAudit_define (.code y_LinkAudit_define prog_1_method_4_code 8 (some .int) :: ALLW) (rmR 1 25) (Kk D cI cL cG cZ) D vwC (c_A ad) (c_ws cI cL cG cZ ad) [.ref (ad 0), .int a1, .int a2, .int a3, .int a4, .int a5] M M' r := by
  refine Mi_of (by decide) (Nat.le_of_ble_eq_true rfl) ?_
  intro p e s m args below meth c ls Q X hkk hret hP hl
  obtain ⟨hx, hb, hml, hown, hta⟩ := id X
  have hKv := hkk.1
  have hS : va_S (c_A ad) s.heap s.heap [] := va_S.rf
  have hl : lv_has ls 8 [(0, .ref (ad 0)), (1, .int a1), (2, .int a2), (3, .int a3), (4, .int a4), (5, .int a5)] := hl
  have b85 : ∀ (M : Mem) (x1 : Int32) (x2 : Int32) (x3 : Int32) (x4 : Int32) (x5 : Int32) (H : Heap) (locs : List Loc) (ls : Array Slot), f_LinkAudit_define_b85 M x1 x2 x3 x4 x5 = some (r, M') → va_P D vwC (c_ws cI cL cG cZ ad M) H → va_S (c_A ad) s.heap H locs → lv_has ls 8 [(0, .ref (ad 0)), (1, .int x1), (2, .int x2), (3, .int x3), (4, .int x4), (5, .int x5)] → W p l e (rmR 1 25) s m args below meth c H locs 0 0 Q (F0 m 85 ls []) := by
    intro M x1 x2 x3 x4 x5 H locs ls hf hP hS hl
    unfold f_LinkAudit_define_b85 at hf
    refine lv_aload_n hx hb d_LinkAudit_define_85 rfl (lv_at hl 0 rfl) ?_
    refine xg_LinkAudit_12 hx hb hta hown hKv hP d_LinkAudit_define_86 ?_
    refine xg_LinkAudit_111 hx hb hta hown hKv hP d_LinkAudit_define_89 ?_
    refine lv_iload_n hx hb d_LinkAudit_define_92 rfl (lv_at hl 1 rfl) ?_
    obtain ⟨g1, hf⟩ := gd_ok hf
    refine x_ald (k0 := 18) (base := 19) (n := 5) hx hb hKv hP c_c18 g1 d_LinkAudit_define_93 ?_
    refine lv_iload_n hx hb d_LinkAudit_define_94 rfl (lv_at hl 2 rfl) ?_
    obtain ⟨g2, hf⟩ := gd_ok hf
    refine x_ild hx hb hKv hP (c_c19 g1) g2 d_LinkAudit_define_95 ?_
    refine lv_if_eq (tgt := 101) hx hb d_LinkAudit_define_96 (by decide) (fun c3 => ?_) (fun c3 => ?_)
    · have hf := ifp c3 hf
      refine lv_aload_n hx hb d_LinkAudit_define_101 rfl (lv_at hl 0 rfl) ?_
      refine xg_LinkAudit_19 hx hb hta hown hKv hP d_LinkAudit_define_102 ?_
      refine xg_LinkAudit_115 hx hb hta hown hKv hP d_LinkAudit_define_105 ?_
      refine lv_bipush (v := (16 : Int32)) hx hb d_LinkAudit_define_108 (by decide) ?_
      refine lv_icmp_lt (tgt := 116) hx hb d_LinkAudit_define_110 (by decide) (fun c4 => ?_) (fun c4 => ?_)
      · have hf := ifp c4 hf
        refine lv_aload_n hx hb d_LinkAudit_define_116 rfl (lv_at hl 0 rfl) ?_
        obtain ⟨M10, hc5, hf⟩ := bd1_e hf
        refine xvc_LinkAudit_100 X hkk hD (Nat.le_of_ble_eq_true rfl) ⟨by dsimp only [rmR]; omega, by dsimp only [rmR]; omega⟩ ⟨Nat.zero_le _, Nat.zero_le _⟩ hc5 hl.1 hP hS d_LinkAudit_define_117 (fun H locs hP hS => ?_)
        refine lv_aload_n hx hb d_LinkAudit_define_120 rfl (lv_at hl 0 rfl) ?_
        refine xg_LinkAudit_19 hx hb hta hown hKv hP d_LinkAudit_define_121 ?_
        refine lv_iload_n hx hb d_LinkAudit_define_124 rfl (lv_at hl 1 rfl) ?_
        refine lv_iload_n hx hb d_LinkAudit_define_125 rfl (lv_at hl 2 rfl) ?_
        refine lv_iload_n hx hb d_LinkAudit_define_126 rfl (lv_at hl 3 rfl) ?_
        refine lv_iload hx hb d_LinkAudit_define_127 (lv_at hl 4 rfl) ?_
        refine lv_iload hx hb d_LinkAudit_define_129 (lv_at hl 5 rfl) ?_
        obtain ⟨r12, M11, hc6, hf⟩ := bd2_e hf
        refine xvc_LinkAudit_119 X hkk hD (Nat.le_of_ble_eq_true rfl) ⟨by dsimp only [rmR]; omega, by dsimp only [rmR]; omega⟩ ⟨Nat.zero_le _, Nat.zero_le _⟩ hc6 hl.1 hP hS d_LinkAudit_define_131 (fun H locs hP hS => ?_)
        refine lv_istore (lv' := [(7, .int r12), (0, .ref (ad 0)), (1, .int x1), (2, .int x2), (3, .int x3), (4, .int x4), (5, .int x5)]) hx hb d_LinkAudit_define_134 hl (by decide) rfl (fun ls hl => ?_)
        refine lv_aload_n hx hb d_LinkAudit_define_136 rfl (lv_at hl 1 rfl) ?_
        refine xg_LinkAudit_12 hx hb hta hown hKv hP d_LinkAudit_define_137 ?_
        refine xg_LinkAudit_111 hx hb hta hown hKv hP d_LinkAudit_define_140 ?_
        refine lv_iload_n hx hb d_LinkAudit_define_143 rfl (lv_at hl 2 rfl) ?_
        obtain ⟨g7, hf⟩ := gd_ok hf
        refine x_ald (k0 := 18) (base := 19) (n := 5) hx hb hKv hP c_c18 g7 d_LinkAudit_define_144 ?_
        refine lv_iload_n hx hb d_LinkAudit_define_145 rfl (lv_at hl 3 rfl) ?_
        refine lv_iload hx hb d_LinkAudit_define_146 (lv_at hl 0 rfl) ?_
        obtain ⟨g8, hf⟩ := gd_ok hf
        obtain ⟨M13, eM13, hf⟩ := sm_e hf
        refine x_ist hx hb hKv hP (hD _) hS (c_c19 g7) (c_s19 g7) g8 eM13 d_LinkAudit_define_148 (fun H locs hP hS => ?_)
        refine lv_iload hx hb d_LinkAudit_define_149 (lv_at hl 0 rfl) ?_
        exact hret hf hP hS d_LinkAudit_define_151
      · have hf := ifn c4 hf
        refine lv_bipush (v := (-2 : Int32)) hx hb d_LinkAudit_define_113 (by decide) ?_
        exact hret hf hP hS d_LinkAudit_define_115
    · have hf := ifn c3 hf
      refine lv_iconst (v := (-1 : Int32)) hx hb d_LinkAudit_define_99 (by decide) ?_
      exact hret hf hP hS d_LinkAudit_define_100
  have b63 : ∀ (M : Mem) (x1 : Int32) (x2 : Int32) (x3 : Int32) (x4 : Int32) (x5 : Int32) (t0 : Int32) (H : Heap) (locs : List Loc) (ls : Array Slot), f_LinkAudit_define_b63 M x1 x2 x3 x4 x5 t0 = some (r, M') → va_P D vwC (c_ws cI cL cG cZ ad M) H → va_S (c_A ad) s.heap H locs → lv_has ls 8 [(0, .ref (ad 0)), (1, .int x1), (2, .int x2), (3, .int x3), (4, .int x4), (5, .int x5)] → W p l e (rmR 1 25) s m args below meth c H locs 0 0 Q (F0 m 63 ls [.int t0]) := by
    intro M x1 x2 x3 x4 x5 t0 H locs ls hf hP hS hl
    unfold f_LinkAudit_define_b63 at hf
    refine lv_istore (lv' := [(6, .int t0), (0, .ref (ad 0)), (1, .int x1), (2, .int x2), (3, .int x3), (4, .int x4), (5, .int x5)]) hx hb d_LinkAudit_define_63 hl (by decide) rfl (fun ls hl => ?_)
    refine lv_iload hx hb d_LinkAudit_define_65 (lv_at hl 0 rfl) ?_
    refine lv_if_eq (tgt := 85) hx hb d_LinkAudit_define_67 (by decide) (fun c9 => ?_) (fun c9 => ?_)
    · have hf := ifp c9 hf
      exact b85 M x1 x2 x3 x4 x5 _ _ _ hf hP hS (lv_sub hl [1, 2, 3, 4, 5, 6] rfl)
    · have hf := ifn c9 hf
      refine lv_iload hx hb d_LinkAudit_define_70 (lv_at hl 5 rfl) ?_
      refine lv_bipush (v := (12 : Int32)) hx hb d_LinkAudit_define_72 (by decide) ?_
      refine lv_icmp_ne (tgt := 83) hx hb d_LinkAudit_define_74 (by decide) (fun c10 => ?_) (fun c10 => ?_)
      · have hf := ifn c10 hf
        refine lv_iconst (v := (-1 : Int32)) hx hb d_LinkAudit_define_83 (by decide) ?_
        exact hret hf hP hS d_LinkAudit_define_84
      · have hf := ifp c10 hf
        refine lv_iload_n hx hb d_LinkAudit_define_77 rfl (lv_at hl 4 rfl) ?_
        refine lv_iconst (v := (2 : Int32)) hx hb d_LinkAudit_define_78 (by decide) ?_
        refine lv_iand hx hb d_LinkAudit_define_79 ?_
        refine lv_if_eq (tgt := 85) hx hb d_LinkAudit_define_80 (by decide) (fun c11 => ?_) (fun c11 => ?_)
        · have hf := ifp c11 hf
          exact b85 M x1 x2 x3 x4 x5 _ _ _ hf hP hS (lv_sub hl [1, 2, 3, 4, 5, 6] rfl)
        · have hf := ifn c11 hf
          refine lv_iconst (v := (-1 : Int32)) hx hb d_LinkAudit_define_83 (by decide) ?_
          exact hret hf hP hS d_LinkAudit_define_84
  unfold f_LinkAudit_define at hf
  refine lv_iload_n hx hb d_LinkAudit_define_0 rfl (lv_at hl 1 rfl) ?_
  refine lv_iconst (v := (5 : Int32)) hx hb d_LinkAudit_define_1 (by decide) ?_
  obtain ⟨r14, hc12, hf⟩ := bd1_e hf
  refine xvc_LinkAudit_89 X hkk hD (Nat.le_of_ble_eq_true rfl) ⟨by dsimp only [rmR]; omega, by dsimp only [rmR]; omega⟩ ⟨Nat.zero_le _, Nat.zero_le _⟩ hc12 hl.1 hP hS d_LinkAudit_define_2 (fun H locs hP hS => ?_)
  refine lv_if_eq (tgt := 26) hx hb d_LinkAudit_define_5 (by decide) (fun c13 => ?_) (fun c13 => ?_)
  · have hf := ifp c13 hf
    refine lv_iconst (v := (-1 : Int32)) hx hb d_LinkAudit_define_26 (by decide) ?_
    exact hret hf hP hS d_LinkAudit_define_27
  · have hf := ifn c13 hf
    refine lv_iload_n hx hb d_LinkAudit_define_8 rfl (lv_at hl 2 rfl) ?_
    refine lv_bipush (v := (12 : Int32)) hx hb d_LinkAudit_define_9 (by decide) ?_
    obtain ⟨r15, hc14, hf⟩ := bd1_e hf
    refine xvc_LinkAudit_89 X hkk hD (Nat.le_of_ble_eq_true rfl) ⟨by dsimp only [rmR]; omega, by dsimp only [rmR]; omega⟩ ⟨Nat.zero_le _, Nat.zero_le _⟩ hc14 hl.1 hP hS d_LinkAudit_define_11 (fun H locs hP hS => ?_)
    refine lv_if_eq (tgt := 26) hx hb d_LinkAudit_define_14 (by decide) (fun c15 => ?_) (fun c15 => ?_)
    · have hf := ifp c15 hf
      refine lv_iconst (v := (-1 : Int32)) hx hb d_LinkAudit_define_26 (by decide) ?_
      exact hret hf hP hS d_LinkAudit_define_27
    · have hf := ifn c15 hf
      refine lv_iload_n hx hb d_LinkAudit_define_17 rfl (lv_at hl 3 rfl) ?_
      refine lv_bipush (v := (16 : Int32)) hx hb d_LinkAudit_define_18 (by decide) ?_
      obtain ⟨r16, hc16, hf⟩ := bd1_e hf
      refine xvc_LinkAudit_89 X hkk hD (Nat.le_of_ble_eq_true rfl) ⟨by dsimp only [rmR]; omega, by dsimp only [rmR]; omega⟩ ⟨Nat.zero_le _, Nat.zero_le _⟩ hc16 hl.1 hP hS d_LinkAudit_define_20 (fun H locs hP hS => ?_)
      refine lv_if_ne (tgt := 28) hx hb d_LinkAudit_define_23 (by decide) (fun c17 => ?_) (fun c17 => ?_)
      · have hf := ifn c17 hf
        refine lv_iload hx hb d_LinkAudit_define_28 (lv_at hl 4 rfl) ?_
        refine lv_bipush (v := (13 : Int32)) hx hb d_LinkAudit_define_30 (by decide) ?_
        obtain ⟨r17, hc18, hf⟩ := bd1_e hf
        refine xvc_LinkAudit_89 X hkk hD (Nat.le_of_ble_eq_true rfl) ⟨by dsimp only [rmR]; omega, by dsimp only [rmR]; omega⟩ ⟨Nat.zero_le _, Nat.zero_le _⟩ hc18 hl.1 hP hS d_LinkAudit_define_32 (fun H locs hP hS => ?_)
        refine lv_if_eq (tgt := 49) hx hb d_LinkAudit_define_35 (by decide) (fun c19 => ?_) (fun c19 => ?_)
        · have hf := ifp c19 hf
          refine lv_iconst (v := (-1 : Int32)) hx hb d_LinkAudit_define_49 (by decide) ?_
          exact hret hf hP hS d_LinkAudit_define_50
        · have hf := ifn c19 hf
          refine lv_iload hx hb d_LinkAudit_define_38 (lv_at hl 5 rfl) ?_
          refine lv_sipush (v := (4096 : Int32)) hx hb d_LinkAudit_define_40 (by decide) ?_
          obtain ⟨r18, hc20, hf⟩ := bd1_e hf
          refine xvc_LinkAudit_89 X hkk hD (Nat.le_of_ble_eq_true rfl) ⟨by dsimp only [rmR]; omega, by dsimp only [rmR]; omega⟩ ⟨Nat.zero_le _, Nat.zero_le _⟩ hc20 hl.1 hP hS d_LinkAudit_define_43 (fun H locs hP hS => ?_)
          refine lv_if_ne (tgt := 51) hx hb d_LinkAudit_define_46 (by decide) (fun c21 => ?_) (fun c21 => ?_)
          · have hf := ifn c21 hf
            refine lv_iload_n hx hb d_LinkAudit_define_51 rfl (lv_at hl 3 rfl) ?_
            refine lv_bipush (v := (8 : Int32)) hx hb d_LinkAudit_define_52 (by decide) ?_
            refine lv_iand hx hb d_LinkAudit_define_54 ?_
            refine lv_if_eq (tgt := 62) hx hb d_LinkAudit_define_55 (by decide) (fun c22 => ?_) (fun c22 => ?_)
            · have hf := ifp c22 hf
              refine lv_iconst (v := (0 : Int32)) hx hb d_LinkAudit_define_62 (by decide) ?_
              exact b63 M a1 a2 a3 a4 a5 (0 : Int32) _ _ _ hf hP hS (lv_sub hl [0, 1, 2, 3, 4, 5] rfl)
            · have hf := ifn c22 hf
              refine lv_iconst (v := (1 : Int32)) hx hb d_LinkAudit_define_58 (by decide) ?_
              refine lv_goto (tgt := 63) hx hb d_LinkAudit_define_59 (by decide) ?_
              exact b63 M a1 a2 a3 a4 a5 (1 : Int32) _ _ _ hf hP hS (lv_sub hl [0, 1, 2, 3, 4, 5] rfl)
          · have hf := ifp c21 hf
            refine lv_iconst (v := (-1 : Int32)) hx hb d_LinkAudit_define_49 (by decide) ?_
            exact hret hf hP hS d_LinkAudit_define_50
      · have hf := ifp c17 hf
        refine lv_iconst (v := (-1 : Int32)) hx hb d_LinkAudit_define_26 (by decide) ?_
        exact hret hf hP hS d_LinkAudit_define_27
-- LinkAudit.isClass
set_option maxHeartbeats 4000000 in
set_option maxRecDepth 100000 in
theorem c_LinkAudit_isClass {l : Launch} {D : va_G} {cI cL cG cZ : ClassId} {ad : Nat → Nat} {M : Mem} {a1 : Int32} {r : Int32} (hD : ∀ M, va_D (c_A ad) (c_ws cI cL cG cZ ad M)) (hf : f_LinkAudit_isClass M a1 = some r) : Mi l y_LinkAudit_isClass (.code y_LinkAudit_isClass prog_1_method_20_code 2 (some .boolean) :: ALLW) (rmR 0 0) (Kk D cI cL cG cZ) D vwC (c_A ad) (c_ws cI cL cG cZ ad) [.ref (ad 0), .int a1] M M r := by
  refine Mz_ofR (by decide) (Nat.le_of_ble_eq_true rfl) ?_
  intro p e s m args below meth c ls Q X hkk hret hP hl
  obtain ⟨hx, hb, hml, hown, hta⟩ := id X
  have hKv := hkk.1
  have hS : va_S (c_A ad) s.heap s.heap [] := va_S.rf
  have hl : lv_has ls 2 [(0, .ref (ad 0)), (1, .int a1)] := hl
  unfold f_LinkAudit_isClass at hf
  refine lv_iload_n hx hb d_LinkAudit_isClass_0 rfl (lv_at hl 1 rfl) ?_
  refine lv_iconst (v := (1 : Int32)) hx hb d_LinkAudit_isClass_1 (by decide) ?_
  refine lv_icmp_lt (tgt := 20) hx hb d_LinkAudit_isClass_2 (by decide) (fun c1 => ?_) (fun c1 => ?_)
  · have hf := ifp c1 hf
    refine lv_iconst (v := (0 : Int32)) hx hb d_LinkAudit_isClass_20 (by decide) ?_
    exact hret (Or.inl rfl) hf hP hS d_LinkAudit_isClass_21
  · have hf := ifn c1 hf
    refine lv_iload_n hx hb d_LinkAudit_isClass_5 rfl (lv_at hl 1 rfl) ?_
    refine lv_aload_n hx hb d_LinkAudit_isClass_6 rfl (lv_at hl 0 rfl) ?_
    refine xg_LinkAudit_19 hx hb hta hown hKv hP d_LinkAudit_isClass_7 ?_
    refine xg_LinkAudit_115 hx hb hta hown hKv hP d_LinkAudit_isClass_10 ?_
    refine lv_icmp_gt (tgt := 20) hx hb d_LinkAudit_isClass_13 (by decide) (fun c2 => ?_) (fun c2 => ?_)
    · have hf := ifp c2 hf
      refine lv_iconst (v := (0 : Int32)) hx hb d_LinkAudit_isClass_20 (by decide) ?_
      exact hret (Or.inl rfl) hf hP hS d_LinkAudit_isClass_21
    · have hf := ifn c2 hf
      refine lv_iconst (v := (1 : Int32)) hx hb d_LinkAudit_isClass_16 (by decide) ?_
      refine lv_goto (tgt := 21) hx hb d_LinkAudit_isClass_17 (by decide) ?_
      exact hret (Or.inr rfl) hf hP hS d_LinkAudit_isClass_21
-- LinkAudit$Members.fieldSignature
set_option maxHeartbeats 4000000 in
set_option maxRecDepth 100000 in
theorem c_Members_fieldSignature {l : Launch} {D : va_G} {cI cL cG cZ : ClassId} {ad : Nat → Nat} {M : Mem} {a0 : Int32} {a1 : Int32} {r : Int32} (hD : ∀ M, va_D (e_A ad) (e_ws cI cL cG cZ ad M)) (hf : f_Members_fieldSignature a0 a1 = some r) : Mi l y_Members_fieldSignature (.code y_Members_fieldSignature prog_7_method_3_code 2 (some .int) :: ALLW) (rmR 0 0) (Kk D cI cL cG cZ) D vwC (e_A ad) (e_ws cI cL cG cZ ad) [.int a0, .int a1] M M r := by
  refine Mi_ofR (by decide) (Nat.le_of_ble_eq_true rfl) ?_
  intro p e s m args below meth c ls Q X hkk hret hP hl
  obtain ⟨hx, hb, hml, hown, hta⟩ := id X
  have hKv := hkk.1
  have hS : va_S (e_A ad) s.heap s.heap [] := va_S.rf
  have hl : lv_has ls 2 [(0, .int a0), (1, .int a1)] := hl
  unfold f_Members_fieldSignature at hf
  refine lv_iload_n hx hb d_Members_fieldSignature_0 rfl (lv_at hl 0 rfl) ?_
  refine lv_bipush (v := (13 : Int32)) hx hb d_Members_fieldSignature_1 (by decide) ?_
  refine lv_imul hx hb d_Members_fieldSignature_3 ?_
  refine lv_iload_n hx hb d_Members_fieldSignature_4 rfl (lv_at hl 1 rfl) ?_
  refine lv_iadd hx hb d_Members_fieldSignature_5 ?_
  refine lv_bipush (v := (13 : Int32)) hx hb d_Members_fieldSignature_6 (by decide) ?_
  refine lv_imul hx hb d_Members_fieldSignature_8 ?_
  refine lv_bipush (v := (12 : Int32)) hx hb d_Members_fieldSignature_9 (by decide) ?_
  refine lv_iadd hx hb d_Members_fieldSignature_11 ?_
  exact hret hf hP hS d_Members_fieldSignature_12
-- LinkAudit$Members.withSignature
theorem xg_Members_32 {p : Program} {l : Launch} {e : Env} {R : Room} {s : State} {m : MethodId} {args : Array Value} {below : List Frame} {meth : Method} {c : Code} {H : Heap} {locs : List Loc} {cells slots : Nat} {Q : State → Prop} {cc : ByteArray} {pc : Nat} {ls : Array Slot} {rest : List Value} {D : va_G} {cI cL cG cZ : ClassId} {ad : Nat → Nat} {M : Mem} (hx : p.tables.exec = Jvm.exec) (hb : c.code = cc) (hta : ∀ w ∈ ALLW, w.before args s = true) (hown : s.vm.findClass "LinkAudit$Members" = some m.cls) (hK : va_K D vwC [(cI, .int), (cL, .long), (cG, .array .int), (cZ, .boolean)] s) (hP : va_P D vwC (c_ws cI cL cG cZ ad M) H) (hdg : decode cc pc = .ok (.getfield 32, 3))
    (kk : W p l e R s m args below meth c H locs cells slots Q (F0 m (pc + 3) ls (.int (M.1 3 6) :: rest))) : W p l e R s m args below meth c H locs cells slots Q (F0 m pc ls (.ref (ad 3) :: rest)) :=
  va_get (D := D) (ci := 3) (v := .int (M.1 3 6)) (C := "LinkAudit$Members") (T := T_Members) (N := 7) hx hb hta i_Members hown hK hP 3 c_c3 rfl 6 (by decide) (hta _ wm_107) (fun _ h9 => h9) rfl hdg kk
theorem xg_Members_15 {p : Program} {l : Launch} {e : Env} {R : Room} {s : State} {m : MethodId} {args : Array Value} {below : List Frame} {meth : Method} {c : Code} {H : Heap} {locs : List Loc} {cells slots : Nat} {Q : State → Prop} {cc : ByteArray} {pc : Nat} {ls : Array Slot} {rest : List Value} {D : va_G} {cI cL cG cZ : ClassId} {ad : Nat → Nat} {M : Mem} (hx : p.tables.exec = Jvm.exec) (hb : c.code = cc) (hta : ∀ w ∈ ALLW, w.before args s = true) (hown : s.vm.findClass "LinkAudit$Members" = some m.cls) (hK : va_K D vwC [(cI, .int), (cL, .long), (cG, .array .int), (cZ, .boolean)] s) (hP : va_P D vwC (c_ws cI cL cG cZ ad M) H) (hdg : decode cc pc = .ok (.getfield 15, 3))
    (kk : W p l e R s m args below meth c H locs cells slots Q (F0 m (pc + 3) ls (.ref (ad 30) :: rest))) : W p l e R s m args below meth c H locs cells slots Q (F0 m pc ls (.ref (ad 3) :: rest)) :=
  va_get (D := D) (ci := 3) (v := .ref (ad 30)) (C := "LinkAudit$Members") (T := T_Members) (N := 7) hx hb hta i_Members hown hK hP 3 c_c3 rfl 1 (by decide) (hta _ wm_93) (fun _ h9 => h9) rfl hdg kk
set_option maxHeartbeats 4000000 in
set_option maxRecDepth 100000 in
theorem c_Members_withSignature {l : Launch} {D : va_G} {cI cL cG cZ : ClassId} {ad : Nat → Nat} {M : Mem} {a1 : Int32} {r : Int64} (hD : ∀ M, va_D (c_A ad) (c_ws cI cL cG cZ ad M)) (hf : f_Members_withSignature M a1 = some r) : Ml l y_Members_withSignature (.code y_Members_withSignature prog_7_method_10_code 5 (some .long) :: ALLW) (rmR 0 0) (Kk D cI cL cG cZ) D vwC (c_A ad) (c_ws cI cL cG cZ ad) [.ref (ad 3), .int a1] M M r := by
  refine Ml_ofR (by decide) (Nat.le_of_ble_eq_true rfl) ?_
  intro p e s m args below meth c ls Q X hkk hret hP hl
  obtain ⟨hx, hb, hml, hown, hta⟩ := id X
  have hKv := hkk.1
  have hS : va_S (c_A ad) s.heap s.heap [] := va_S.rf
  have hl : lv_has ls 5 [(0, .ref (ad 3)), (1, .int a1)] := hl
  have L5 : ∀ (x1 : Int32), ∀ (ke38 : Int64 → Option Int64), ke38 = (fun y2 => some (y2)) → ∀ (n5 : Nat) (x2 : Int64) (x4 : Int32) (H : Heap) (locs : List Loc) (ls : Array Slot), f_Members_withSignature_L5 M x1 ke38 n5 x2 x4 = some r → va_P D vwC (c_ws cI cL cG cZ ad M) H → va_S (c_A ad) s.heap H locs → lv_has ls 5 [(0, .ref (ad 3)), (1, .int x1), (2, .long x2), (4, .int x4)] → W p l e (rmR 0 0) s m args below meth c H locs 0 0 Q (F0 m 5 ls []) := by
    intro x1 ke38 hke38 n5
    induction n5 with
    | zero => intro x2 x4 H locs ls hf; exact absurd (show (none : Option _) = some _ from hf) (fun q => by cases q)
    | succ n5 ih5 =>
      intro x2 x4 H locs ls hf hP hS hl
      rw [f_Members_withSignature_L5] at hf
      refine lv_iload hx hb d_Members_withSignature_5 (lv_at hl 3 rfl) ?_
      refine lv_aload_n hx hb d_Members_withSignature_7 rfl (lv_at hl 0 rfl) ?_
      refine xg_Members_32 hx hb hta hown hKv hP d_Members_withSignature_8 ?_
      refine lv_icmp_gt (tgt := 38) hx hb d_Members_withSignature_11 (by decide) (fun c1 => ?_) (fun c1 => ?_)
      · have hf := ifp c1 hf
        rw [hke38] at hf
        refine lv_lload_n hx hb d_Members_withSignature_38 rfl (lv_at hl 2 rfl) ?_
        exact hret hf hP hS d_Members_withSignature_39
      · have hf := ifn c1 hf
        refine lv_aload_n hx hb d_Members_withSignature_14 rfl (lv_at hl 0 rfl) ?_
        refine xg_Members_15 hx hb hta hown hKv hP d_Members_withSignature_15 ?_
        refine lv_iload hx hb d_Members_withSignature_18 (lv_at hl 3 rfl) ?_
        obtain ⟨g2, hf⟩ := gd_ok hf
        refine x_ild hx hb hKv hP c_c30 g2 d_Members_withSignature_20 ?_
        refine lv_iload_n hx hb d_Members_withSignature_21 rfl (lv_at hl 1 rfl) ?_
        refine lv_icmp_ne (tgt := 32) hx hb d_Members_withSignature_22 (by decide) (fun c3 => ?_) (fun c3 => ?_)
        · have hf := ifn c3 hf
          refine lv_iinc (v := (x4 + (1 : Int32))) (lv' := [(4, .int (x4 + (1 : Int32))), (0, .ref (ad 3)), (1, .int x1), (2, .long x2)]) hx hb d_Members_withSignature_32 hl (k := 3) rfl rfl (by decide) rfl (fun ls hl => ?_)
          refine lv_goto (tgt := 5) hx hb d_Members_withSignature_35 (by decide) ?_
          exact ih5 x2 (x4 + (1 : Int32)) _ _ _ hf hP hS (lv_sub hl [1, 2, 3, 0] rfl)
        · have hf := ifp c3 hf
          refine lv_lload_n hx hb d_Members_withSignature_25 rfl (lv_at hl 2 rfl) ?_
          refine lv_lconst (v := (1 : Int64)) hx hb d_Members_withSignature_26 (by decide) ?_
          refine lv_iload hx hb d_Members_withSignature_27 (lv_at hl 3 rfl) ?_
          refine lv_lshl hx hb d_Members_withSignature_29 rfl ?_
          refine lv_lor hx hb d_Members_withSignature_30 ?_
          refine lv_lstore_n (lv' := [(2, .long ((x2 ||| ((1 : Int64) <<< (x4.toInt64 &&& 63))))), (0, .ref (ad 3)), (1, .int x1), (4, .int x4)]) hx hb d_Members_withSignature_31 rfl hl (by decide) rfl (fun ls hl => ?_)
          refine lv_iinc (v := (x4 + (1 : Int32))) (lv' := [(4, .int (x4 + (1 : Int32))), (2, .long ((x2 ||| ((1 : Int64) <<< (x4.toInt64 &&& 63))))), (0, .ref (ad 3)), (1, .int x1)]) hx hb d_Members_withSignature_32 hl (k := 3) rfl rfl (by decide) rfl (fun ls hl => ?_)
          refine lv_goto (tgt := 5) hx hb d_Members_withSignature_35 (by decide) ?_
          exact ih5 (x2 ||| ((1 : Int64) <<< (x4.toInt64 &&& 63))) (x4 + (1 : Int32)) _ _ _ hf hP hS (lv_sub hl [2, 3, 1, 0] rfl)
  unfold f_Members_withSignature at hf
  refine lv_lconst (v := (0 : Int64)) hx hb d_Members_withSignature_0 (by decide) ?_
  refine lv_lstore_n (lv' := [(2, .long ((0 : Int64))), (0, .ref (ad 3)), (1, .int a1)]) hx hb d_Members_withSignature_1 rfl hl (by decide) rfl (fun ls hl => ?_)
  refine lv_iconst (v := (1 : Int32)) hx hb d_Members_withSignature_2 (by decide) ?_
  refine lv_istore (lv' := [(4, .int (1 : Int32)), (2, .long ((0 : Int64))), (0, .ref (ad 3)), (1, .int a1)]) hx hb d_Members_withSignature_3 hl (by decide) rfl (fun ls hl => ?_)
  exact L5 a1 _ rfl FU (0 : Int64) (1 : Int32) _ _ _ hf hP hS (lv_sub hl [2, 3, 1, 0] rfl)
-- LinkAudit$Members.isMethod
set_option maxHeartbeats 4000000 in
set_option maxRecDepth 100000 in
theorem c_Members_isMethod {l : Launch} {D : va_G} {cI cL cG cZ : ClassId} {ad : Nat → Nat} {M : Mem} {a1 : Int32} {r : Int32} (hD : ∀ M, va_D (c_A ad) (c_ws cI cL cG cZ ad M)) (hf : f_Members_isMethod M a1 = some r) : Mi l y_Members_isMethod (.code y_Members_isMethod prog_7_method_5_code 2 (some .boolean) :: ALLW) (rmR 0 0) (Kk D cI cL cG cZ) D vwC (c_A ad) (c_ws cI cL cG cZ ad) [.ref (ad 3), .int a1] M M r := by
  refine Mz_ofR (by decide) (Nat.le_of_ble_eq_true rfl) ?_
  intro p e s m args below meth c ls Q X hkk hret hP hl
  obtain ⟨hx, hb, hml, hown, hta⟩ := id X
  have hKv := hkk.1
  have hS : va_S (c_A ad) s.heap s.heap [] := va_S.rf
  have hl : lv_has ls 2 [(0, .ref (ad 3)), (1, .int a1)] := hl
  unfold f_Members_isMethod at hf
  refine lv_aload_n hx hb d_Members_isMethod_0 rfl (lv_at hl 0 rfl) ?_
  refine xg_Members_15 hx hb hta hown hKv hP d_Members_isMethod_1 ?_
  refine lv_iload_n hx hb d_Members_isMethod_4 rfl (lv_at hl 1 rfl) ?_
  obtain ⟨g1, hf⟩ := gd_ok hf
  refine x_ild hx hb hKv hP c_c30 g1 d_Members_isMethod_5 ?_
  refine lv_sipush (v := (169 : Int32)) hx hb d_Members_isMethod_6 (by decide) ?_
  refine lv_idiv hx hb d_Members_isMethod_9 (by decide) ?_
  refine lv_iconst (v := (4 : Int32)) hx hb d_Members_isMethod_10 (by decide) ?_
  refine lv_icmp_lt (tgt := 18) hx hb d_Members_isMethod_11 (by decide) (fun c2 => ?_) (fun c2 => ?_)
  · have hf := ifp c2 hf
    refine lv_iconst (v := (0 : Int32)) hx hb d_Members_isMethod_18 (by decide) ?_
    exact hret (Or.inl rfl) hf hP hS d_Members_isMethod_19
  · have hf := ifn c2 hf
    refine lv_iconst (v := (1 : Int32)) hx hb d_Members_isMethod_14 (by decide) ?_
    refine lv_goto (tgt := 19) hx hb d_Members_isMethod_15 (by decide) ?_
    exact hret (Or.inr rfl) hf hP hS d_Members_isMethod_19
-- LinkAudit$Members.isStatic
theorem xg_Members_18 {p : Program} {l : Launch} {e : Env} {R : Room} {s : State} {m : MethodId} {args : Array Value} {below : List Frame} {meth : Method} {c : Code} {H : Heap} {locs : List Loc} {cells slots : Nat} {Q : State → Prop} {cc : ByteArray} {pc : Nat} {ls : Array Slot} {rest : List Value} {D : va_G} {cI cL cG cZ : ClassId} {ad : Nat → Nat} {M : Mem} (hx : p.tables.exec = Jvm.exec) (hb : c.code = cc) (hta : ∀ w ∈ ALLW, w.before args s = true) (hown : s.vm.findClass "LinkAudit$Members" = some m.cls) (hK : va_K D vwC [(cI, .int), (cL, .long), (cG, .array .int), (cZ, .boolean)] s) (hP : va_P D vwC (c_ws cI cL cG cZ ad M) H) (hdg : decode cc pc = .ok (.getfield 18, 3))
    (kk : W p l e R s m args below meth c H locs cells slots Q (F0 m (pc + 3) ls (.ref (ad 31) :: rest))) : W p l e R s m args below meth c H locs cells slots Q (F0 m pc ls (.ref (ad 3) :: rest)) :=
  va_get (D := D) (ci := 3) (v := .ref (ad 31)) (C := "LinkAudit$Members") (T := T_Members) (N := 7) hx hb hta i_Members hown hK hP 3 c_c3 rfl 2 (by decide) (hta _ wm_95) (fun _ h9 => h9) rfl hdg kk
set_option maxHeartbeats 4000000 in
set_option maxRecDepth 100000 in
theorem c_Members_isStatic {l : Launch} {D : va_G} {cI cL cG cZ : ClassId} {ad : Nat → Nat} {M : Mem} {a1 : Int32} {r : Int32} (hD : ∀ M, va_D (c_A ad) (c_ws cI cL cG cZ ad M)) (hf : f_Members_isStatic M a1 = some r) : Mi l y_Members_isStatic (.code y_Members_isStatic prog_7_method_9_code 2 (some .boolean) :: ALLW) (rmR 0 0) (Kk D cI cL cG cZ) D vwC (c_A ad) (c_ws cI cL cG cZ ad) [.ref (ad 3), .int a1] M M r := by
  refine Mz_ofR (by decide) (Nat.le_of_ble_eq_true rfl) ?_
  intro p e s m args below meth c ls Q X hkk hret hP hl
  obtain ⟨hx, hb, hml, hown, hta⟩ := id X
  have hKv := hkk.1
  have hS : va_S (c_A ad) s.heap s.heap [] := va_S.rf
  have hl : lv_has ls 2 [(0, .ref (ad 3)), (1, .int a1)] := hl
  unfold f_Members_isStatic at hf
  refine lv_aload_n hx hb d_Members_isStatic_0 rfl (lv_at hl 0 rfl) ?_
  refine xg_Members_18 hx hb hta hown hKv hP d_Members_isStatic_1 ?_
  refine lv_iload_n hx hb d_Members_isStatic_4 rfl (lv_at hl 1 rfl) ?_
  obtain ⟨g1, hf⟩ := gd_ok hf
  refine x_ild hx hb hKv hP c_c31 g1 d_Members_isStatic_5 ?_
  refine lv_iconst (v := (4 : Int32)) hx hb d_Members_isStatic_6 (by decide) ?_
  refine lv_iand hx hb d_Members_isStatic_7 ?_
  refine lv_if_eq (tgt := 15) hx hb d_Members_isStatic_8 (by decide) (fun c2 => ?_) (fun c2 => ?_)
  · have hf := ifp c2 hf
    refine lv_iconst (v := (0 : Int32)) hx hb d_Members_isStatic_15 (by decide) ?_
    exact hret (Or.inl rfl) hf hP hS d_Members_isStatic_16
  · have hf := ifn c2 hf
    refine lv_iconst (v := (1 : Int32)) hx hb d_Members_isStatic_11 (by decide) ?_
    refine lv_goto (tgt := 16) hx hb d_Members_isStatic_12 (by decide) ?_
    exact hret (Or.inr rfl) hf hP hS d_Members_isStatic_16
-- LinkAudit$Members.access
set_option maxHeartbeats 4000000 in
set_option maxRecDepth 100000 in
theorem c_Members_access {l : Launch} {D : va_G} {cI cL cG cZ : ClassId} {ad : Nat → Nat} {M : Mem} {a1 : Int32} {r : Int32} (hD : ∀ M, va_D (c_A ad) (c_ws cI cL cG cZ ad M)) (hf : f_Members_access M a1 = some r) : Mi l y_Members_access (.code y_Members_access prog_7_method_8_code 2 (some .int) :: ALLW) (rmR 0 0) (Kk D cI cL cG cZ) D vwC (c_A ad) (c_ws cI cL cG cZ ad) [.ref (ad 3), .int a1] M M r := by
  refine Mi_ofR (by decide) (Nat.le_of_ble_eq_true rfl) ?_
  intro p e s m args below meth c ls Q X hkk hret hP hl
  obtain ⟨hx, hb, hml, hown, hta⟩ := id X
  have hKv := hkk.1
  have hS : va_S (c_A ad) s.heap s.heap [] := va_S.rf
  have hl : lv_has ls 2 [(0, .ref (ad 3)), (1, .int a1)] := hl
  unfold f_Members_access at hf
  refine lv_aload_n hx hb d_Members_access_0 rfl (lv_at hl 0 rfl) ?_
  refine xg_Members_18 hx hb hta hown hKv hP d_Members_access_1 ?_
  refine lv_iload_n hx hb d_Members_access_4 rfl (lv_at hl 1 rfl) ?_
  obtain ⟨g1, hf⟩ := gd_ok hf
  refine x_ild hx hb hKv hP c_c31 g1 d_Members_access_5 ?_
  refine lv_iconst (v := (3 : Int32)) hx hb d_Members_access_6 (by decide) ?_
  refine lv_iand hx hb d_Members_access_7 ?_
  exact hret hf hP hS d_Members_access_8
