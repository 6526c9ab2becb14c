-- LinkAudit$Resolver.verdictOf
theorem xg_Resolver_51 {p : Program} {l : Launch} {e : Env} {R : Room} {s : State} {m : MethodId} {args : Array Value} {below : List Frame} {meth : Method} {c : Code} {H : Heap} {locs : List Loc} {cells slots : Nat} {Q : State → Prop} {cc : ByteArray} {pc : Nat} {ls : Array Slot} {rest : List Value} {D : va_G} {cI cL cG cZ : ClassId} {ad : Nat → Nat} {M : Mem} (hx : p.tables.exec = Jvm.exec) (hb : c.code = cc) (hta : ∀ w ∈ ALLW, w.before args s = true) (hown : s.vm.findClass "LinkAudit$Resolver" = some m.cls) (hK : va_K D vwC [(cI, .int), (cL, .long), (cG, .array .int), (cZ, .boolean)] s) (hP : va_P D vwC (c_ws cI cL cG cZ ad M) H) (hdg : decode cc pc = .ok (.getfield 51, 3))
    (kk : W p l e R s m args below meth c H locs cells slots Q (F0 m (pc + 3) ls (.ref (ad 33) :: rest))) : W p l e R s m args below meth c H locs cells slots Q (F0 m pc ls (.ref (ad 4) :: rest)) :=
  va_get (D := D) (ci := 4) (v := .ref (ad 33)) (C := "LinkAudit$References") (T := T_References) (N := 5) hx hb hta i_References hown hK hP 4 c_c4 rfl 0 (by decide) (hta _ wm_134) (fun _ h9 => h9) rfl hdg kk
theorem xvc_Resolver_55 {p : Program} {l : Launch} {e : Env} {R : Room} {s : State} {m : MethodId} {args : Array Value} {below : List Frame} {meth : Method} {c : Code} {H : Heap} {locs : List Loc} {cells slots : Nat} {Q : State → Prop} {cc : ByteArray} {pc : Nat} {ls : Array Slot} {rest : List Value} {D : va_G} {cI cL cG cZ : ClassId} {ad : Nat → Nat} {M : Mem} {H0 : Heap} {nL : Nat} {a0 : Int32} {r : Int32} (X : CallFix p m c cc nL s args ALLW "LinkAudit$Resolver") (hkk : Kk D cI cL cG cZ s) (hD : ∀ M, va_D (c_A ad) (c_ws cI cL cG cZ ad M)) (hrest : (rest.map fun v => v.category).sum ≤ 8) (hR : 0 + 1 ≤ R.frames ∧ 8 + (2 + 11) + 0 ≤ R.locals) (hcs : cells + 0 ≤ R.cells ∧ slots + 0 ≤ R.slots) (hc : f_Links_isLoadable M a0 = some r) (hsz : ls.size = nL) (hP : va_P D vwC (c_ws cI cL cG cZ ad M) H) (hS : va_S (c_A ad) H0 H locs) (hdg : decode cc pc = .ok (.invokevirtual 55, 3))
    (kk : ∀ (H1 : Heap) (locs1 : List Loc), va_P D vwC (c_ws cI cL cG cZ ad M) H1 → va_S (c_A ad) H0 H1 locs1 → W p l e R s m args below meth c H1 locs1 cells slots Q (F0 m (pc + 3) ls (.int r :: rest))) : W p l e R s m args below meth c H locs cells slots Q (F0 m pc ls (.int a0 :: .ref (ad 5) :: rest)) := by
  have hta := X.2.2.2.2
  exact x_afterI (va_runV (As := [.int a0]) (rest := rest) X (c_Links_isLoadable hD hc) ⟨callB_of 1 hta (good_all (L := .code y_Links_isLoadable prog_5_method_3_code 2 (some .boolean) :: ALLW) (List.forall_mem_cons.mpr ⟨wm_457, fun _ h => h⟩)) rfl rfl rfl (hta _ wm_6) (hta _ wm_524) (by decide +kernel) hR, hta _ wm_455, hta _ wm_456⟩ ⟨x_blind Kk_w _, va_recv hkk.1 hP (ci := 5) (q0 := 5) rfl c_c5, x_pre Kk_w hkk hP _⟩ rfl rfl hsz rfl (lv_room hrest) hdg hcs) hS kk
theorem xg_Resolver_59 {p : Program} {l : Launch} {e : Env} {R : Room} {s : State} {m : MethodId} {args : Array Value} {below : List Frame} {meth : Method} {c : Code} {H : Heap} {locs : List Loc} {cells slots : Nat} {Q : State → Prop} {cc : ByteArray} {pc : Nat} {ls : Array Slot} {rest : List Value} {D : va_G} {cI cL cG cZ : ClassId} {ad : Nat → Nat} {M : Mem} (hx : p.tables.exec = Jvm.exec) (hb : c.code = cc) (hta : ∀ w ∈ ALLW, w.before args s = true) (hown : s.vm.findClass "LinkAudit$Resolver" = some m.cls) (hK : va_K D vwC [(cI, .int), (cL, .long), (cG, .array .int), (cZ, .boolean)] s) (hP : va_P D vwC (c_ws cI cL cG cZ ad M) H) (hdg : decode cc pc = .ok (.getfield 59, 3))
    (kk : W p l e R s m args below meth c H locs cells slots Q (F0 m (pc + 3) ls (.ref (ad 35) :: rest))) : W p l e R s m args below meth c H locs cells slots Q (F0 m pc ls (.ref (ad 4) :: rest)) :=
  va_get (D := D) (ci := 4) (v := .ref (ad 35)) (C := "LinkAudit$References") (T := T_References) (N := 5) hx hb hta i_References hown hK hP 4 c_c4 rfl 2 (by decide) (hta _ wm_140) (fun _ h9 => h9) rfl hdg kk
theorem xvc_Resolver_62 {p : Program} {l : Launch} {e : Env} {R : Room} {s : State} {m : MethodId} {args : Array Value} {below : List Frame} {meth : Method} {c : Code} {H : Heap} {locs : List Loc} {cells slots : Nat} {Q : State → Prop} {cc : ByteArray} {pc : Nat} {ls : Array Slot} {rest : List Value} {D : va_G} {cI cL cG cZ : ClassId} {ad : Nat → Nat} {M : Mem} {H0 : Heap} {nL : Nat} {a0 : Int32} {a1 : Int32} {r : Int32} (X : CallFix p m c cc nL s args ALLW "LinkAudit$Resolver") (hkk : Kk D cI cL cG cZ s) (hD : ∀ M, va_D (c_A ad) (c_ws cI cL cG cZ ad M)) (hrest : (rest.map fun v => v.category).sum ≤ 8) (hR : 2 + 1 ≤ R.frames ∧ 8 + (4 + 11) + 46 ≤ R.locals) (hcs : cells + 0 ≤ R.cells ∧ slots + 0 ≤ R.slots) (hc : f_Links_resolved M a0 a1 = some r) (hsz : ls.size = nL) (hP : va_P D vwC (c_ws cI cL cG cZ ad M) H) (hS : va_S (c_A ad) H0 H locs) (hdg : decode cc pc = .ok (.invokevirtual 62, 3))
    (kk : ∀ (H1 : Heap) (locs1 : List Loc), va_P D vwC (c_ws cI cL cG cZ ad M) H1 → va_S (c_A ad) H0 H1 locs1 → W p l e R s m args below meth c H1 locs1 cells slots Q (F0 m (pc + 3) ls (.int r :: rest))) : W p l e R s m args below meth c H locs cells slots Q (F0 m pc ls (.int a1 :: .int a0 :: .ref (ad 5) :: rest)) := by
  have hta := X.2.2.2.2
  exact x_afterI (va_runV (As := [.int a0, .int a1]) (rest := rest) X (c_Links_resolved hD hc) ⟨callB_of 2 hta (good_all (L := .code y_Links_resolved prog_5_method_6_code 4 (some .int) :: ALLW) (List.forall_mem_cons.mpr ⟨wm_528, fun _ h => h⟩)) rfl rfl rfl (hta _ wm_6) (hta _ wm_525) (by decide +kernel) hR, hta _ wm_526, hta _ wm_527⟩ ⟨x_blind Kk_w _, va_recv hkk.1 hP (ci := 5) (q0 := 5) rfl c_c5, x_pre Kk_w hkk hP _⟩ rfl rfl hsz rfl (lv_room hrest) hdg hcs) hS kk
theorem xg_Resolver_66 {p : Program} {l : Launch} {e : Env} {R : Room} {s : State} {m : MethodId} {args : Array Value} {below : List Frame} {meth : Method} {c : Code} {H : Heap} {locs : List Loc} {cells slots : Nat} {Q : State → Prop} {cc : ByteArray} {pc : Nat} {ls : Array Slot} {rest : List Value} {D : va_G} {cI cL cG cZ : ClassId} {ad : Nat → Nat} {M : Mem} (hx : p.tables.exec = Jvm.exec) (hb : c.code = cc) (hta : ∀ w ∈ ALLW, w.before args s = true) (hown : s.vm.findClass "LinkAudit$Resolver" = some m.cls) (hK : va_K D vwC [(cI, .int), (cL, .long), (cG, .array .int), (cZ, .boolean)] s) (hP : va_P D vwC (c_ws cI cL cG cZ ad M) H) (hdg : decode cc pc = .ok (.getfield 66, 3))
    (kk : W p l e R s m args below meth c H locs cells slots Q (F0 m (pc + 3) ls (.ref (ad 34) :: rest))) : W p l e R s m args below meth c H locs cells slots Q (F0 m pc ls (.ref (ad 4) :: rest)) :=
  va_get (D := D) (ci := 4) (v := .ref (ad 34)) (C := "LinkAudit$References") (T := T_References) (N := 5) hx hb hta i_References hown hK hP 4 c_c4 rfl 1 (by decide) (hta _ wm_137) (fun _ h9 => h9) rfl hdg kk
theorem xvc_Resolver_74 {p : Program} {l : Launch} {e : Env} {R : Room} {s : State} {m : MethodId} {args : Array Value} {below : List Frame} {meth : Method} {c : Code} {H : Heap} {locs : List Loc} {cells slots : Nat} {Q : State → Prop} {cc : ByteArray} {pc : Nat} {ls : Array Slot} {rest : List Value} {D : va_G} {cI cL cG cZ : ClassId} {ad : Nat → Nat} {M : Mem} {H0 : Heap} {nL : Nat} {a0 : Int32} {a1 : Int32} {r : Int32} (X : CallFix p m c cc nL s args ALLW "LinkAudit$Resolver") (hkk : Kk D cI cL cG cZ s) (hD : ∀ M, va_D (c_A ad) (c_ws cI cL cG cZ ad M)) (hrest : (rest.map fun v => v.category).sum ≤ 8) (hR : 1 + 1 ≤ R.frames ∧ 8 + (3 + 11) + 21 ≤ R.locals) (hcs : cells + 0 ≤ R.cells ∧ slots + 0 ≤ R.slots) (hc : f_Resolver_isKindOfClass M a0 a1 = some r) (hsz : ls.size = nL) (hP : va_P D vwC (c_ws cI cL cG cZ ad M) H) (hS : va_S (c_A ad) H0 H locs) (hdg : decode cc pc = .ok (.invokevirtual 74, 3))
    (kk : ∀ (H1 : Heap) (locs1 : List Loc), va_P D vwC (c_ws cI cL cG cZ ad M) H1 → va_S (c_A ad) H0 H1 locs1 → W p l e R s m args below meth c H1 locs1 cells slots Q (F0 m (pc + 3) ls (.int r :: rest))) : W p l e R s m args below meth c H locs cells slots Q (F0 m pc ls (.int a1 :: .int a0 :: .ref (ad 7) :: rest)) := by
  have hta := X.2.2.2.2
  exact x_afterI (va_runV (As := [.int a0, .int a1]) (rest := rest) X (c_Resolver_isKindOfClass hD hc) ⟨callB_of 2 hta (good_all (L := .code y_Resolver_isKindOfClass prog_9_method_4_code 3 (some .boolean) :: ALLW) (List.forall_mem_cons.mpr ⟨wm_536, fun _ h => h⟩)) rfl rfl rfl (hta _ wm_8) (hta _ wm_533) (by decide +kernel) hR, hta _ wm_535, hta _ wp_11⟩ ⟨x_blind Kk_w _, va_recv hkk.1 hP (ci := 7) (q0 := 7) rfl c_c7, x_pre Kk_w hkk hP _⟩ rfl rfl hsz rfl (lv_room hrest) hdg hcs) hS kk
theorem xvc_Resolver_78 {p : Program} {l : Launch} {e : Env} {R : Room} {s : State} {m : MethodId} {args : Array Value} {below : List Frame} {meth : Method} {c : Code} {H : Heap} {locs : List Loc} {cells slots : Nat} {Q : State → Prop} {cc : ByteArray} {pc : Nat} {ls : Array Slot} {rest : List Value} {D : va_G} {cI cL cG cZ : ClassId} {ad : Nat → Nat} {M : Mem} {H0 : Heap} {M1 : Mem} {nL : Nat} {a0 : Int32} {a1 : Int32} {a2 : Int32} {r : Int32} (X : CallFix p m c cc nL s args ALLW "LinkAudit$Resolver") (hkk : Kk D cI cL cG cZ s) (hD : ∀ M, va_D (c_A ad) (c_ws cI cL cG cZ ad M)) (hrest : (rest.map fun v => v.category).sum ≤ 8) (hR : 43 + 1 ≤ R.frames ∧ 8 + (7 + 11) + 1153 ≤ R.locals) (hcs : cells + 0 ≤ R.cells ∧ slots + 0 ≤ R.slots) (hc : f_Resolver_memberVerdict M a0 a1 a2 = some (r, M1)) (hsz : ls.size = nL) (hP : va_P D vwC (c_ws cI cL cG cZ ad M) H) (hS : va_S (c_A ad) H0 H locs) (hdg : decode cc pc = .ok (.invokevirtual 78, 3))
    (kk : ∀ (H1 : Heap) (locs1 : List Loc), va_P D vwC (c_ws cI cL cG cZ ad M1) H1 → va_S (c_A ad) H0 H1 locs1 → W p l e R s m args below meth c H1 locs1 cells slots Q (F0 m (pc + 3) ls (.int r :: rest))) : W p l e R s m args below meth c H locs cells slots Q (F0 m pc ls (.int a2 :: .int a1 :: .int a0 :: .ref (ad 7) :: rest)) := by
  have hta := X.2.2.2.2
  exact x_afterI (va_runV (As := [.int a0, .int a1, .int a2]) (rest := rest) X (c_Resolver_memberVerdict hD hc) ⟨callB_of 3 hta (good_all (L := .code y_Resolver_memberVerdict prog_9_method_5_code 7 (some .int) :: ALLW) (List.forall_mem_cons.mpr ⟨wm_541, fun _ h => h⟩)) rfl rfl rfl (hta _ wm_8) (hta _ wm_538) (by decide +kernel) hR, hta _ wm_540, hta _ wp_12⟩ ⟨x_blind Kk_w _, va_recv hkk.1 hP (ci := 7) (q0 := 7) rfl c_c7, x_pre Kk_w hkk hP _⟩ rfl rfl hsz rfl (lv_room hrest) hdg hcs) hS kk
theorem xvc_Resolver_69 {p : Program} {l : Launch} {e : Env} {R : Room} {s : State} {m : MethodId} {args : Array Value} {below : List Frame} {meth : Method} {c : Code} {H : Heap} {locs : List Loc} {cells slots : Nat} {Q : State → Prop} {cc : ByteArray} {pc : Nat} {ls : Array Slot} {rest : List Value} {D : va_G} {cI cL cG cZ : ClassId} {ad : Nat → Nat} {M : Mem} {H0 : Heap} {nL : Nat} {a0 : Int32} {r : Int32} (X : CallFix p m c cc nL s args ALLW "LinkAudit$Resolver") (hkk : Kk D cI cL cG cZ s) (hD : ∀ M, va_D (c_A ad) (c_ws cI cL cG cZ ad M)) (hrest : (rest.map fun v => v.category).sum ≤ 8) (hR : 0 + 1 ≤ R.frames ∧ 8 + (2 + 11) + 0 ≤ R.locals) (hcs : cells + 0 ≤ R.cells ∧ slots + 0 ≤ R.slots) (hc : f_Classes_isAbstract M a0 = some r) (hsz : ls.size = nL) (hP : va_P D vwC (c_ws cI cL cG cZ ad M) H) (hS : va_S (c_A ad) H0 H locs) (hdg : decode cc pc = .ok (.invokevirtual 69, 3))
    (kk : ∀ (H1 : Heap) (locs1 : List Loc), va_P D vwC (c_ws cI cL cG cZ ad M) H1 → va_S (c_A ad) H0 H1 locs1 → W p l e R s m args below meth c H1 locs1 cells slots Q (F0 m (pc + 3) ls (.int r :: rest))) : W p l e R s m args below meth c H locs cells slots Q (F0 m pc ls (.int a0 :: .ref (ad 2) :: rest)) := by
  have hta := X.2.2.2.2
  exact x_afterI (va_runV (As := [.int a0]) (rest := rest) X (c_Classes_isAbstract hD hc) ⟨callB_of 1 hta (good_all (L := .code y_Classes_isAbstract prog_3_method_4_code 2 (some .boolean) :: ALLW) (List.forall_mem_cons.mpr ⟨wm_532, fun _ h => h⟩)) rfl rfl rfl (hta _ wm_3) (hta _ wm_529) (by decide +kernel) hR, hta _ wm_530, hta _ wm_531⟩ ⟨x_blind Kk_w _, va_recv hkk.1 hP (ci := 2) (q0 := 2) rfl c_c2, x_pre Kk_w hkk hP _⟩ rfl rfl hsz rfl (lv_room hrest) hdg hcs) hS kk
set_option maxHeartbeats 4000000 in
set_option maxRecDepth 100000 in
theorem c_Resolver_verdictOf {l : Launch} {D : va_G} {cI cL cG cZ : ClassId} {ad : Nat → Nat} {M M' : Mem} {a1 : Int32} {r : Int32} (hD : ∀ M, va_D (c_A ad) (c_ws cI cL cG cZ ad M)) (hf : f_Resolver_verdictOf M a1 = some (r, M')) : Mi l y_Resolver_verdictOf (.code y_Resolver_verdictOf prog_9_method_3_code 4 (some .int) :: ALLW) (rmR 44 1179) (Kk D cI cL cG cZ) D vwC (c_A ad) (c_ws cI cL cG cZ ad) [.ref (ad 7), .int a1] M M' r := by
  refine Mi_of (by decide) (Nat.le_of_ble_eq_true rfl) ?_
  intro p e s m args below meth c ls Q X hkk hret hP hl
  obtain ⟨hx, hb, hml, hown, hta⟩ := id X
  have hKv := hkk.1
  have hS : va_S (c_A ad) s.heap s.heap [] := va_S.rf
  have hl : lv_has ls 4 [(0, .ref (ad 7)), (1, .int a1)] := hl
  unfold f_Resolver_verdictOf at hf
  refine lv_aload_n hx hb d_Resolver_verdictOf_0 rfl (lv_at hl 0 rfl) ?_
  refine xg_Resolver_34 hx hb hta hown hKv hP d_Resolver_verdictOf_1 ?_
  refine xg_Resolver_51 hx hb hta hown hKv hP d_Resolver_verdictOf_4 ?_
  refine lv_iload_n hx hb d_Resolver_verdictOf_7 rfl (lv_at hl 1 rfl) ?_
  obtain ⟨g1, hf⟩ := gd_ok hf
  refine x_ild hx hb hKv hP c_c33 g1 d_Resolver_verdictOf_8 ?_
  refine lv_istore_n (lv' := [(2, .int (M.1 33 a1.toNatClampNeg)), (0, .ref (ad 7)), (1, .int a1)]) hx hb d_Resolver_verdictOf_9 rfl hl (by decide) rfl (fun ls hl => ?_)
  refine lv_aload_n hx hb d_Resolver_verdictOf_10 rfl (lv_at hl 1 rfl) ?_
  refine xg_Resolver_21 hx hb hta hown hKv hP d_Resolver_verdictOf_11 ?_
  refine lv_iload_n hx hb d_Resolver_verdictOf_14 rfl (lv_at hl 0 rfl) ?_
  obtain ⟨r7, hc2, hf⟩ := bd1_e hf
  refine xvc_Resolver_55 X hkk hD (Nat.le_of_ble_eq_true rfl) ⟨by dsimp only [rmR]; omega, by dsimp only [rmR]; omega⟩ ⟨Nat.zero_le _, Nat.zero_le _⟩ hc2 hl.1 hP hS d_Resolver_verdictOf_15 (fun H locs hP hS => ?_)
  refine lv_if_ne (tgt := 24) hx hb d_Resolver_verdictOf_18 (by decide) (fun c3 => ?_) (fun c3 => ?_)
  · have hf := ifn c3 hf
    refine lv_aload_n hx hb d_Resolver_verdictOf_24 rfl (lv_at hl 1 rfl) ?_
    refine xg_Resolver_21 hx hb hta hown hKv hP d_Resolver_verdictOf_25 ?_
    refine lv_iload_n hx hb d_Resolver_verdictOf_28 rfl (lv_at hl 0 rfl) ?_
    refine lv_aload_n hx hb d_Resolver_verdictOf_29 rfl (lv_at hl 1 rfl) ?_
    refine xg_Resolver_34 hx hb hta hown hKv hP d_Resolver_verdictOf_30 ?_
    refine xg_Resolver_59 hx hb hta hown hKv hP d_Resolver_verdictOf_33 ?_
    refine lv_iload_n hx hb d_Resolver_verdictOf_36 rfl (lv_at hl 2 rfl) ?_
    obtain ⟨g4, hf⟩ := gd_ok hf
    refine x_ild hx hb hKv hP c_c35 g4 d_Resolver_verdictOf_37 ?_
    obtain ⟨r8, hc5, hf⟩ := bd1_e hf
    refine xvc_Resolver_62 X hkk hD (Nat.le_of_ble_eq_true rfl) ⟨by dsimp only [rmR]; omega, by dsimp only [rmR]; omega⟩ ⟨Nat.zero_le _, Nat.zero_le _⟩ hc5 hl.1 hP hS d_Resolver_verdictOf_38 (fun H locs hP hS => ?_)
    refine lv_istore_n (lv' := [(3, .int r8), (2, .int (M.1 33 a1.toNatClampNeg)), (0, .ref (ad 7)), (1, .int a1)]) hx hb d_Resolver_verdictOf_41 rfl hl (by decide) rfl (fun ls hl => ?_)
    refine lv_iload_n hx hb d_Resolver_verdictOf_42 rfl (lv_at hl 0 rfl) ?_
    refine lv_if_ge (tgt := 48) hx hb d_Resolver_verdictOf_43 (by decide) (fun c6 => ?_) (fun c6 => ?_)
    · have hf := ifp c6 hf
      refine lv_aload_n hx hb d_Resolver_verdictOf_48 rfl (lv_at hl 2 rfl) ?_
      refine xg_Resolver_34 hx hb hta hown hKv hP d_Resolver_verdictOf_49 ?_
      refine xg_Resolver_66 hx hb hta hown hKv hP d_Resolver_verdictOf_52 ?_
      refine lv_iload_n hx hb d_Resolver_verdictOf_55 rfl (lv_at hl 3 rfl) ?_
      obtain ⟨g7, hf⟩ := gd_ok hf
      refine x_ild hx hb hKv hP c_c34 g7 d_Resolver_verdictOf_56 ?_
      refine lv_if_ne (tgt := 78) hx hb d_Resolver_verdictOf_57 (by decide) (fun c8 => ?_) (fun c8 => ?_)
      · have hf := ifn c8 hf
        refine lv_aload_n hx hb d_Resolver_verdictOf_78 rfl (lv_at hl 2 rfl) ?_
        refine lv_aload_n hx hb d_Resolver_verdictOf_79 rfl (lv_at hl 2 rfl) ?_
        refine xg_Resolver_34 hx hb hta hown hKv hP d_Resolver_verdictOf_80 ?_
        refine xg_Resolver_66 hx hb hta hown hKv hP d_Resolver_verdictOf_83 ?_
        refine lv_iload_n hx hb d_Resolver_verdictOf_86 rfl (lv_at hl 3 rfl) ?_
        obtain ⟨g9, hf⟩ := gd_ok hf
        refine x_ild hx hb hKv hP c_c34 g9 d_Resolver_verdictOf_87 ?_
        refine lv_iload_n hx hb d_Resolver_verdictOf_88 rfl (lv_at hl 0 rfl) ?_
        obtain ⟨r9, hc10, hf⟩ := bd1_e hf
        refine xvc_Resolver_74 X hkk hD (Nat.le_of_ble_eq_true rfl) ⟨by dsimp only [rmR]; omega, by dsimp only [rmR]; omega⟩ ⟨Nat.zero_le _, Nat.zero_le _⟩ hc10 hl.1 hP hS d_Resolver_verdictOf_89 (fun H locs hP hS => ?_)
        refine lv_if_ne (tgt := 98) hx hb d_Resolver_verdictOf_92 (by decide) (fun c11 => ?_) (fun c11 => ?_)
        · have hf := ifn c11 hf
          refine lv_aload_n hx hb d_Resolver_verdictOf_98 rfl (lv_at hl 2 rfl) ?_
          refine lv_iload_n hx hb d_Resolver_verdictOf_99 rfl (lv_at hl 3 rfl) ?_
          refine lv_iload_n hx hb d_Resolver_verdictOf_100 rfl (lv_at hl 1 rfl) ?_
          refine lv_iload_n hx hb d_Resolver_verdictOf_101 rfl (lv_at hl 0 rfl) ?_
          obtain ⟨r11, M10, hc12, hf⟩ := bd2_e hf
          refine xvc_Resolver_78 X hkk hD (Nat.le_of_ble_eq_true rfl) ⟨by dsimp only [rmR]; omega, by dsimp only [rmR]; omega⟩ ⟨Nat.zero_le _, Nat.zero_le _⟩ hc12 hl.1 hP hS d_Resolver_verdictOf_102 (fun H locs hP hS => ?_)
          exact hret hf hP hS d_Resolver_verdictOf_105
        · have hf := ifp c11 hf
          refine lv_bipush (v := (-5 : Int32)) hx hb d_Resolver_verdictOf_95 (by decide) ?_
          exact hret hf hP hS d_Resolver_verdictOf_97
      · have hf := ifp c8 hf
        refine lv_aload_n hx hb d_Resolver_verdictOf_60 rfl (lv_at hl 2 rfl) ?_
        refine xg_Resolver_28 hx hb hta hown hKv hP d_Resolver_verdictOf_61 ?_
        refine lv_iload_n hx hb d_Resolver_verdictOf_64 rfl (lv_at hl 0 rfl) ?_
        obtain ⟨r12, hc13, hf⟩ := bd1_e hf
        refine xvc_Resolver_69 X hkk hD (Nat.le_of_ble_eq_true rfl) ⟨by dsimp only [rmR]; omega, by dsimp only [rmR]; omega⟩ ⟨Nat.zero_le _, Nat.zero_le _⟩ hc13 hl.1 hP hS d_Resolver_verdictOf_65 (fun H locs hP hS => ?_)
        refine lv_if_eq (tgt := 76) hx hb d_Resolver_verdictOf_68 (by decide) (fun c14 => ?_) (fun c14 => ?_)
        · have hf := ifp c14 hf
          refine lv_iload_n hx hb d_Resolver_verdictOf_76 rfl (lv_at hl 0 rfl) ?_
          exact hret hf hP hS d_Resolver_verdictOf_77
        · have hf := ifn c14 hf
          refine lv_bipush (v := (-8 : Int32)) hx hb d_Resolver_verdictOf_71 (by decide) ?_
          refine lv_goto (tgt := 77) hx hb d_Resolver_verdictOf_73 (by decide) ?_
          exact hret hf hP hS d_Resolver_verdictOf_77
    · have hf := ifn c6 hf
      refine lv_iload_n hx hb d_Resolver_verdictOf_46 rfl (lv_at hl 0 rfl) ?_
      exact hret hf hP hS d_Resolver_verdictOf_47
  · have hf := ifp c3 hf
    refine lv_bipush (v := (-10 : Int32)) hx hb d_Resolver_verdictOf_21 (by decide) ?_
    exact hret hf hP hS d_Resolver_verdictOf_23
-- LinkAudit.verdict
theorem xg_LinkAudit_56 {p : Program} {l : Launch} {e : Env} {R : Room} {s : State} {m : MethodId} {args : Array Value} {below : List Frame} {meth : Method} {c : Code} {H : Heap} {locs : List Loc} {cells slots : Nat} {Q : State → Prop} {cc : ByteArray} {pc : Nat} {ls : Array Slot} {rest : List Value} {D : va_G} {cI cL cG cZ : ClassId} {ad : Nat → Nat} {M : Mem} (hx : p.tables.exec = Jvm.exec) (hb : c.code = cc) (hta : ∀ w ∈ ALLW, w.before args s = true) (hown : s.vm.findClass "LinkAudit" = some m.cls) (hK : va_K D vwC [(cI, .int), (cL, .long), (cG, .array .int), (cZ, .boolean)] s) (hP : va_P D vwC (c_ws cI cL cG cZ ad M) H) (hdg : decode cc pc = .ok (.getfield 56, 3))
    (kk : W p l e R s m args below meth c H locs cells slots Q (F0 m (pc + 3) ls (.ref (ad 7) :: rest))) : W p l e R s m args below meth c H locs cells slots Q (F0 m pc ls (.ref (ad 0) :: rest)) :=
  va_get (D := D) (ci := 0) (v := .ref (ad 7)) (C := "LinkAudit") (T := T_LinkAudit) (N := 10) hx hb hta i_LinkAudit hown hK hP 0 c_c0 rfl 5 (by decide) (hta _ wm_303) (fun _ h9 => h9) rfl hdg kk
theorem xvc_LinkAudit_150 {p : Program} {l : Launch} {e : Env} {R : Room} {s : State} {m : MethodId} {args : Array Value} {below : List Frame} {meth : Method} {c : Code} {H : Heap} {locs : List Loc} {cells slots : Nat} {Q : State → Prop} {cc : ByteArray} {pc : Nat} {ls : Array Slot} {rest : List Value} {D : va_G} {cI cL cG cZ : ClassId} {ad : Nat → Nat} {M : Mem} {H0 : Heap} {M1 : Mem} {nL : Nat} {a0 : Int32} {r : Int32} (X : CallFix p m c cc nL s args ALLW "LinkAudit") (hkk : Kk D cI cL cG cZ s) (hD : ∀ M, va_D (c_A ad) (c_ws cI cL cG cZ ad M)) (hrest : (rest.map fun v => v.category).sum ≤ 8) (hR : 44 + 1 ≤ R.frames ∧ 8 + (4 + 11) + 1179 ≤ R.locals) (hcs : cells + 0 ≤ R.cells ∧ slots + 0 ≤ R.slots) (hc : f_Resolver_verdictOf M a0 = some (r, M1)) (hsz : ls.size = nL) (hP : va_P D vwC (c_ws cI cL cG cZ ad M) H) (hS : va_S (c_A ad) H0 H locs) (hdg : decode cc pc = .ok (.invokevirtual 150, 3))
    (kk : ∀ (H1 : Heap) (locs1 : List Loc), va_P D vwC (c_ws cI cL cG cZ ad M1) H1 → va_S (c_A ad) H0 H1 locs1 → W p l e R s m args below meth c H1 locs1 cells slots Q (F0 m (pc + 3) ls (.int r :: rest))) : W p l e R s m args below meth c H locs cells slots Q (F0 m pc ls (.int a0 :: .ref (ad 7) :: rest)) := by
  have hta := X.2.2.2.2
  exact x_afterI (va_runV (As := [.int a0]) (rest := rest) X (c_Resolver_verdictOf hD hc) ⟨callB_of 1 hta (good_all (L := .code y_Resolver_verdictOf prog_9_method_3_code 4 (some .int) :: ALLW) (List.forall_mem_cons.mpr ⟨wm_523, fun _ h => h⟩)) rfl rfl rfl (hta _ wm_8) (hta _ wm_520) (by decide +kernel) hR, hta _ wm_521, hta _ wm_522⟩ ⟨x_blind Kk_w _, va_recv hkk.1 hP (ci := 7) (q0 := 7) rfl c_c7, x_pre Kk_w hkk hP _⟩ rfl rfl hsz rfl (lv_room hrest) hdg hcs) hS kk
set_option maxHeartbeats 4000000 in
set_option maxRecDepth 100000 in
theorem c_LinkAudit_verdict {l : Launch} {D : va_G} {cI cL cG cZ : ClassId} {ad : Nat → Nat} {M M' : Mem} {a1 : Int32} {r : Int32} (hD : ∀ M, va_D (c_A ad) (c_ws cI cL cG cZ ad M)) (hf : f_LinkAudit_verdict M a1 = some (r, M')) : Mi l y_LinkAudit_verdict (.code y_LinkAudit_verdict prog_1_method_10_code 2 (some .int) :: ALLW) (rmR 86 2292) (Kk D cI cL cG cZ) D vwC (c_A ad) (c_ws cI cL cG cZ ad) [.ref (ad 0), .int a1] M M' r := by
  refine Mi_of (by decide) (Nat.le_of_ble_eq_true rfl) ?_
  intro p e s m args below meth c ls Q X hkk hret hP hl
  obtain ⟨hx, hb, hml, hown, hta⟩ := id X
  have hKv := hkk.1
  have hS : va_S (c_A ad) s.heap s.heap [] := va_S.rf
  have hl : lv_has ls 2 [(0, .ref (ad 0)), (1, .int a1)] := hl
  unfold f_LinkAudit_verdict at hf
  refine lv_iload_n hx hb d_LinkAudit_verdict_0 rfl (lv_at hl 1 rfl) ?_
  refine lv_aload_n hx hb d_LinkAudit_verdict_1 rfl (lv_at hl 0 rfl) ?_
  refine xg_LinkAudit_33 hx hb hta hown hKv hP d_LinkAudit_verdict_2 ?_
  refine xg_LinkAudit_139 hx hb hta hown hKv hP d_LinkAudit_verdict_5 ?_
  obtain ⟨r5, hc1, hf⟩ := bd1_e hf
  refine xvc_LinkAudit_89 X hkk hD (Nat.le_of_ble_eq_true rfl) ⟨by dsimp only [rmR]; omega, by dsimp only [rmR]; omega⟩ ⟨Nat.zero_le _, Nat.zero_le _⟩ hc1 hl.1 hP hS d_LinkAudit_verdict_8 (fun H locs hP hS => ?_)
  refine lv_if_ne (tgt := 16) hx hb d_LinkAudit_verdict_11 (by decide) (fun c2 => ?_) (fun c2 => ?_)
  · have hf := ifn c2 hf
    refine lv_aload_n hx hb d_LinkAudit_verdict_16 rfl (lv_at hl 0 rfl) ?_
    obtain ⟨M6, hc3, hf⟩ := bd1_e hf
    refine xvc_LinkAudit_144 X hkk hD (Nat.le_of_ble_eq_true rfl) ⟨by dsimp only [rmR]; omega, by dsimp only [rmR]; omega⟩ ⟨Nat.zero_le _, Nat.zero_le _⟩ hc3 hl.1 hP hS d_LinkAudit_verdict_17 (fun H locs hP hS => ?_)
    refine lv_aload_n hx hb d_LinkAudit_verdict_20 rfl (lv_at hl 0 rfl) ?_
    refine xg_LinkAudit_56 hx hb hta hown hKv hP d_LinkAudit_verdict_21 ?_
    refine lv_iload_n hx hb d_LinkAudit_verdict_24 rfl (lv_at hl 1 rfl) ?_
    obtain ⟨r8, M7, hc4, hf⟩ := bd2_e hf
    refine xvc_LinkAudit_150 X hkk hD (Nat.le_of_ble_eq_true rfl) ⟨by dsimp only [rmR]; omega, by dsimp only [rmR]; omega⟩ ⟨Nat.zero_le _, Nat.zero_le _⟩ hc4 hl.1 hP hS d_LinkAudit_verdict_25 (fun H locs hP hS => ?_)
    exact hret hf hP hS d_LinkAudit_verdict_28
  · have hf := ifp c2 hf
    refine lv_iconst (v := (-1 : Int32)) hx hb d_LinkAudit_verdict_14 (by decide) ?_
    exact hret hf hP hS d_LinkAudit_verdict_15
-- LinkAudit.isMethod
theorem xvc_LinkAudit_187 {p : Program} {l : Launch} {e : Env} {R : Room} {s : State} {m : MethodId} {args : Array Value} {below : List Frame} {meth : Method} {c : Code} {H : Heap} {locs : List Loc} {cells slots : Nat} {Q : State → Prop} {cc : ByteArray} {pc : Nat} {ls : Array Slot} {rest : List Value} {D : va_G} {cI cL cG cZ : ClassId} {ad : Nat → Nat} {M : Mem} {H0 : Heap} {nL : Nat} {a0 : Int32} {r : Int32} (X : CallFix p m c cc nL s args ALLW "LinkAudit") (hkk : Kk D cI cL cG cZ s) (hD : ∀ M, va_D (c_A ad) (c_ws cI cL cG cZ ad M)) (hrest : (rest.map fun v => v.category).sum ≤ 8) (hR : 0 + 1 ≤ R.frames ∧ 8 + (2 + 11) + 0 ≤ R.locals) (hcs : cells + 0 ≤ R.cells ∧ slots + 0 ≤ R.slots) (hc : f_Members_isMethod M a0 = some r) (hsz : ls.size = nL) (hP : va_P D vwC (c_ws cI cL cG cZ ad M) H) (hS : va_S (c_A ad) H0 H locs) (hdg : decode cc pc = .ok (.invokevirtual 187, 3))
    (kk : ∀ (H1 : Heap) (locs1 : List Loc), va_P D vwC (c_ws cI cL cG cZ ad M) H1 → va_S (c_A ad) H0 H1 locs1 → W p l e R s m args below meth c H1 locs1 cells slots Q (F0 m (pc + 3) ls (.int r :: rest))) : W p l e R s m args below meth c H locs cells slots Q (F0 m pc ls (.int a0 :: .ref (ad 3) :: rest)) := by
  have hta := X.2.2.2.2
  exact x_afterI (va_runV (As := [.int a0]) (rest := rest) X (c_Members_isMethod hD hc) ⟨callB_of 1 hta (good_all (L := .code y_Members_isMethod prog_7_method_5_code 2 (some .boolean) :: ALLW) (List.forall_mem_cons.mpr ⟨wm_393, fun _ h => h⟩)) rfl rfl rfl (hta _ wm_4) (hta _ wm_592) (by decide +kernel) hR, hta _ wm_391, hta _ wm_392⟩ ⟨x_blind Kk_w _, va_recv hkk.1 hP (ci := 3) (q0 := 3) rfl c_c3, x_pre Kk_w hkk hP _⟩ rfl rfl hsz rfl (lv_room hrest) hdg hcs) hS kk
set_option maxHeartbeats 4000000 in
set_option maxRecDepth 100000 in
theorem c_LinkAudit_isMethod {l : Launch} {D : va_G} {cI cL cG cZ : ClassId} {ad : Nat → Nat} {M : Mem} {a1 : Int32} {r : Int32} (hD : ∀ M, va_D (c_A ad) (c_ws cI cL cG cZ ad M)) (hf : f_LinkAudit_isMethod M a1 = some r) : Mi l y_LinkAudit_isMethod (.code y_LinkAudit_isMethod prog_1_method_21_code 2 (some .boolean) :: ALLW) (rmR 1 21) (Kk D cI cL cG cZ) D vwC (c_A ad) (c_ws cI cL cG cZ ad) [.ref (ad 0), .int a1] M M r := by
  refine Mz_ofR (by decide) (Nat.le_of_ble_eq_true rfl) ?_
  intro p e s m args below meth c ls Q X hkk hret hP hl
  obtain ⟨hx, hb, hml, hown, hta⟩ := id X
  have hKv := hkk.1
  have hS : va_S (c_A ad) s.heap s.heap [] := va_S.rf
  have hl : lv_has ls 2 [(0, .ref (ad 0)), (1, .int a1)] := hl
  unfold f_LinkAudit_isMethod at hf
  refine lv_iload_n hx hb d_LinkAudit_isMethod_0 rfl (lv_at hl 1 rfl) ?_
  refine lv_iconst (v := (1 : Int32)) hx hb d_LinkAudit_isMethod_1 (by decide) ?_
  refine lv_icmp_lt (tgt := 31) hx hb d_LinkAudit_isMethod_2 (by decide) (fun c1 => ?_) (fun c1 => ?_)
  · have hf := ifp c1 hf
    refine lv_iconst (v := (0 : Int32)) hx hb d_LinkAudit_isMethod_31 (by decide) ?_
    exact hret (Or.inl rfl) hf hP hS d_LinkAudit_isMethod_32
  · have hf := ifn c1 hf
    refine lv_iload_n hx hb d_LinkAudit_isMethod_5 rfl (lv_at hl 1 rfl) ?_
    refine lv_aload_n hx hb d_LinkAudit_isMethod_6 rfl (lv_at hl 0 rfl) ?_
    refine xg_LinkAudit_26 hx hb hta hown hKv hP d_LinkAudit_isMethod_7 ?_
    refine xg_LinkAudit_186 hx hb hta hown hKv hP d_LinkAudit_isMethod_10 ?_
    refine lv_icmp_gt (tgt := 31) hx hb d_LinkAudit_isMethod_13 (by decide) (fun c2 => ?_) (fun c2 => ?_)
    · have hf := ifp c2 hf
      refine lv_iconst (v := (0 : Int32)) hx hb d_LinkAudit_isMethod_31 (by decide) ?_
      exact hret (Or.inl rfl) hf hP hS d_LinkAudit_isMethod_32
    · have hf := ifn c2 hf
      refine lv_aload_n hx hb d_LinkAudit_isMethod_16 rfl (lv_at hl 0 rfl) ?_
      refine xg_LinkAudit_26 hx hb hta hown hKv hP d_LinkAudit_isMethod_17 ?_
      refine lv_iload_n hx hb d_LinkAudit_isMethod_20 rfl (lv_at hl 1 rfl) ?_
      obtain ⟨r2, hc3, hf⟩ := bd1_e hf
      refine xvc_LinkAudit_187 X hkk hD (Nat.le_of_ble_eq_true rfl) ⟨by dsimp only [rmR]; omega, by dsimp only [rmR]; omega⟩ ⟨Nat.zero_le _, Nat.zero_le _⟩ hc3 hl.1 hP hS d_LinkAudit_isMethod_21 (fun H locs hP hS => ?_)
      refine lv_if_eq (tgt := 31) hx hb d_LinkAudit_isMethod_24 (by decide) (fun c4 => ?_) (fun c4 => ?_)
      · have hf := ifp c4 hf
        refine lv_iconst (v := (0 : Int32)) hx hb d_LinkAudit_isMethod_31 (by decide) ?_
        exact hret (Or.inl rfl) hf hP hS d_LinkAudit_isMethod_32
      · have hf := ifn c4 hf
        refine lv_iconst (v := (1 : Int32)) hx hb d_LinkAudit_isMethod_27 (by decide) ?_
        refine lv_goto (tgt := 32) hx hb d_LinkAudit_isMethod_28 (by decide) ?_
        exact hret (Or.inr rfl) hf hP hS d_LinkAudit_isMethod_32
-- LinkAudit$Links.isProperSuper
set_option maxHeartbeats 4000000 in
set_option maxRecDepth 100000 in
theorem c_Links_isProperSuper {l : Launch} {D : va_G} {cI cL cG cZ : ClassId} {ad : Nat → Nat} {M : Mem} {a1 : Int32} {a2 : Int32} {r : Int32} (hD : ∀ M, va_D (c_A ad) (c_ws cI cL cG cZ ad M)) (hf : f_Links_isProperSuper M a1 a2 = some r) : Mi l y_Links_isProperSuper (.code y_Links_isProperSuper prog_5_method_5_code 3 (some .boolean) :: ALLW) (rmR 1 22) (Kk D cI cL cG cZ) D vwC (c_A ad) (c_ws cI cL cG cZ ad) [.ref (ad 5), .int a1, .int a2] M M r := by
  refine Mz_ofR (by decide) (Nat.le_of_ble_eq_true rfl) ?_
  intro p e s m args below meth c ls Q X hkk hret hP hl
  obtain ⟨hx, hb, hml, hown, hta⟩ := id X
  have hKv := hkk.1
  have hS : va_S (c_A ad) s.heap s.heap [] := va_S.rf
  have hl : lv_has ls 3 [(0, .ref (ad 5)), (1, .int a1), (2, .int a2)] := hl
  unfold f_Links_isProperSuper at hf
  refine lv_aload_n hx hb d_Links_isProperSuper_0 rfl (lv_at hl 0 rfl) ?_
  refine xg_Links_23 hx hb hta hown hKv hP d_Links_isProperSuper_1 ?_
  refine lv_iload_n hx hb d_Links_isProperSuper_4 rfl (lv_at hl 1 rfl) ?_
  obtain ⟨g1, hf⟩ := gd_ok hf
  refine x_ild hx hb hKv hP c_c57 g1 d_Links_isProperSuper_5 ?_
  refine lv_aload_n hx hb d_Links_isProperSuper_6 rfl (lv_at hl 0 rfl) ?_
  refine xg_Links_26 hx hb hta hown hKv hP d_Links_isProperSuper_7 ?_
  refine lv_iload_n hx hb d_Links_isProperSuper_10 rfl (lv_at hl 1 rfl) ?_
  obtain ⟨g2, hf⟩ := gd_ok hf
  refine x_ild hx hb hKv hP c_c58 g2 d_Links_isProperSuper_11 ?_
  refine lv_ior hx hb d_Links_isProperSuper_12 ?_
  refine lv_i2l hx hb d_Links_isProperSuper_13 rfl ?_
  refine lv_iload_n hx hb d_Links_isProperSuper_14 rfl (lv_at hl 2 rfl) ?_
  obtain ⟨r2, hc3, hf⟩ := bd1_e hf
  refine xvc_Links_59 X hkk hD (Nat.le_of_ble_eq_true rfl) ⟨by dsimp only [rmR]; omega, by dsimp only [rmR]; omega⟩ ⟨Nat.zero_le _, Nat.zero_le _⟩ hc3 hl.1 hP hS d_Links_isProperSuper_15 (fun H locs hP hS => ?_)
  obtain ⟨g4, hf⟩ := gd_d hf
  exact hret g4 hf hP hS d_Links_isProperSuper_18
-- LinkAudit$Selector.isSelectable
theorem xvc_Selector_103 {p : Program} {l : Launch} {e : Env} {R : Room} {s : State} {m : MethodId} {args : Array Value} {below : List Frame} {meth : Method} {c : Code} {H : Heap} {locs : List Loc} {cells slots : Nat} {Q : State → Prop} {cc : ByteArray} {pc : Nat} {ls : Array Slot} {rest : List Value} {D : va_G} {cI cL cG cZ : ClassId} {ad : Nat → Nat} {M : Mem} {H0 : Heap} {nL : Nat} {a0 : Int32} {r : Int32} (X : CallFix p m c cc nL s args ALLW "LinkAudit$Selector") (hkk : Kk D cI cL cG cZ s) (hD : ∀ M, va_D (c_A ad) (c_ws cI cL cG cZ ad M)) (hrest : (rest.map fun v => v.category).sum ≤ 8) (hR : 0 + 1 ≤ R.frames ∧ 8 + (2 + 11) + 0 ≤ R.locals) (hcs : cells + 0 ≤ R.cells ∧ slots + 0 ≤ R.slots) (hc : f_Links_isLoadable M a0 = some r) (hsz : ls.size = nL) (hP : va_P D vwC (c_ws cI cL cG cZ ad M) H) (hS : va_S (c_A ad) H0 H locs) (hdg : decode cc pc = .ok (.invokevirtual 103, 3))
    (kk : ∀ (H1 : Heap) (locs1 : List Loc), va_P D vwC (c_ws cI cL cG cZ ad M) H1 → va_S (c_A ad) H0 H1 locs1 → W p l e R s m args below meth c H1 locs1 cells slots Q (F0 m (pc + 3) ls (.int r :: rest))) : W p l e R s m args below meth c H locs cells slots Q (F0 m pc ls (.int a0 :: .ref (ad 5) :: rest)) := by
  have hta := X.2.2.2.2
  exact x_afterI (va_runV (As := [.int a0]) (rest := rest) X (c_Links_isLoadable hD hc) ⟨callB_of 1 hta (good_all (L := .code y_Links_isLoadable prog_5_method_3_code 2 (some .boolean) :: ALLW) (List.forall_mem_cons.mpr ⟨wm_457, fun _ h => h⟩)) rfl rfl rfl (hta _ wm_6) (hta _ wm_597) (by decide +kernel) hR, hta _ wm_455, hta _ wm_456⟩ ⟨x_blind Kk_w _, va_recv hkk.1 hP (ci := 5) (q0 := 5) rfl c_c5, x_pre Kk_w hkk hP _⟩ rfl rfl hsz rfl (lv_room hrest) hdg hcs) hS kk
theorem xvc_Selector_113 {p : Program} {l : Launch} {e : Env} {R : Room} {s : State} {m : MethodId} {args : Array Value} {below : List Frame} {meth : Method} {c : Code} {H : Heap} {locs : List Loc} {cells slots : Nat} {Q : State → Prop} {cc : ByteArray} {pc : Nat} {ls : Array Slot} {rest : List Value} {D : va_G} {cI cL cG cZ : ClassId} {ad : Nat → Nat} {M : Mem} {H0 : Heap} {nL : Nat} {a0 : Int32} {r : Int32} (X : CallFix p m c cc nL s args ALLW "LinkAudit$Selector") (hkk : Kk D cI cL cG cZ s) (hD : ∀ M, va_D (c_A ad) (c_ws cI cL cG cZ ad M)) (hrest : (rest.map fun v => v.category).sum ≤ 8) (hR : 0 + 1 ≤ R.frames ∧ 8 + (2 + 11) + 0 ≤ R.locals) (hcs : cells + 0 ≤ R.cells ∧ slots + 0 ≤ R.slots) (hc : f_Classes_isInterface M a0 = some r) (hsz : ls.size = nL) (hP : va_P D vwC (c_ws cI cL cG cZ ad M) H) (hS : va_S (c_A ad) H0 H locs) (hdg : decode cc pc = .ok (.invokevirtual 113, 3))
    (kk : ∀ (H1 : Heap) (locs1 : List Loc), va_P D vwC (c_ws cI cL cG cZ ad M) H1 → va_S (c_A ad) H0 H1 locs1 → W p l e R s m args below meth c H1 locs1 cells slots Q (F0 m (pc + 3) ls (.int r :: rest))) : W p l e R s m args below meth c H locs cells slots Q (F0 m pc ls (.int a0 :: .ref (ad 2) :: rest)) := by
  have hta := X.2.2.2.2
  exact x_afterI (va_runV (As := [.int a0]) (rest := rest) X (c_Classes_isInterface hD hc) ⟨callB_of 1 hta (good_all (L := .code y_Classes_isInterface prog_3_method_3_code 2 (some .boolean) :: ALLW) (List.forall_mem_cons.mpr ⟨wm_409, fun _ h => h⟩)) rfl rfl rfl (hta _ wm_3) (hta _ wm_598) (by decide +kernel) hR, hta _ wm_407, hta _ wm_408⟩ ⟨x_blind Kk_w _, va_recv hkk.1 hP (ci := 2) (q0 := 2) rfl c_c2, x_pre Kk_w hkk hP _⟩ rfl rfl hsz rfl (lv_room hrest) hdg hcs) hS kk
theorem xvc_Selector_116 {p : Program} {l : Launch} {e : Env} {R : Room} {s : State} {m : MethodId} {args : Array Value} {below : List Frame} {meth : Method} {c : Code} {H : Heap} {locs : List Loc} {cells slots : Nat} {Q : State → Prop} {cc : ByteArray} {pc : Nat} {ls : Array Slot} {rest : List Value} {D : va_G} {cI cL cG cZ : ClassId} {ad : Nat → Nat} {M : Mem} {H0 : Heap} {nL : Nat} {a0 : Int32} {r : Int32} (X : CallFix p m c cc nL s args ALLW "LinkAudit$Selector") (hkk : Kk D cI cL cG cZ s) (hD : ∀ M, va_D (c_A ad) (c_ws cI cL cG cZ ad M)) (hrest : (rest.map fun v => v.category).sum ≤ 8) (hR : 0 + 1 ≤ R.frames ∧ 8 + (2 + 11) + 0 ≤ R.locals) (hcs : cells + 0 ≤ R.cells ∧ slots + 0 ≤ R.slots) (hc : f_Members_isStatic M a0 = some r) (hsz : ls.size = nL) (hP : va_P D vwC (c_ws cI cL cG cZ ad M) H) (hS : va_S (c_A ad) H0 H locs) (hdg : decode cc pc = .ok (.invokevirtual 116, 3))
    (kk : ∀ (H1 : Heap) (locs1 : List Loc), va_P D vwC (c_ws cI cL cG cZ ad M) H1 → va_S (c_A ad) H0 H1 locs1 → W p l e R s m args below meth c H1 locs1 cells slots Q (F0 m (pc + 3) ls (.int r :: rest))) : W p l e R s m args below meth c H locs cells slots Q (F0 m pc ls (.int a0 :: .ref (ad 3) :: rest)) := by
  have hta := X.2.2.2.2
  exact x_afterI (va_runV (As := [.int a0]) (rest := rest) X (c_Members_isStatic hD hc) ⟨callB_of 1 hta (good_all (L := .code y_Members_isStatic prog_7_method_9_code 2 (some .boolean) :: ALLW) (List.forall_mem_cons.mpr ⟨wm_397, fun _ h => h⟩)) rfl rfl rfl (hta _ wm_4) (hta _ wm_599) (by decide +kernel) hR, hta _ wm_395, hta _ wm_396⟩ ⟨x_blind Kk_w _, va_recv hkk.1 hP (ci := 3) (q0 := 3) rfl c_c3, x_pre Kk_w hkk hP _⟩ rfl rfl hsz rfl (lv_room hrest) hdg hcs) hS kk
theorem xvc_Selector_107 {p : Program} {l : Launch} {e : Env} {R : Room} {s : State} {m : MethodId} {args : Array Value} {below : List Frame} {meth : Method} {c : Code} {H : Heap} {locs : List Loc} {cells slots : Nat} {Q : State → Prop} {cc : ByteArray} {pc : Nat} {ls : Array Slot} {rest : List Value} {D : va_G} {cI cL cG cZ : ClassId} {ad : Nat → Nat} {M : Mem} {H0 : Heap} {nL : Nat} {a0 : Int32} {a1 : Int32} {r : Int32} (X : CallFix p m c cc nL s args ALLW "LinkAudit$Selector") (hkk : Kk D cI cL cG cZ s) (hD : ∀ M, va_D (c_A ad) (c_ws cI cL cG cZ ad M)) (hrest : (rest.map fun v => v.category).sum ≤ 8) (hR : 1 + 1 ≤ R.frames ∧ 8 + (3 + 11) + 22 ≤ R.locals) (hcs : cells + 0 ≤ R.cells ∧ slots + 0 ≤ R.slots) (hc : f_Links_isProperSuper M a0 a1 = some r) (hsz : ls.size = nL) (hP : va_P D vwC (c_ws cI cL cG cZ ad M) H) (hS : va_S (c_A ad) H0 H locs) (hdg : decode cc pc = .ok (.invokevirtual 107, 3))
    (kk : ∀ (H1 : Heap) (locs1 : List Loc), va_P D vwC (c_ws cI cL cG cZ ad M) H1 → va_S (c_A ad) H0 H1 locs1 → W p l e R s m args below meth c H1 locs1 cells slots Q (F0 m (pc + 3) ls (.int r :: rest))) : W p l e R s m args below meth c H locs cells slots Q (F0 m pc ls (.int a1 :: .int a0 :: .ref (ad 5) :: rest)) := by
  have hta := X.2.2.2.2
  exact x_afterI (va_runV (As := [.int a0, .int a1]) (rest := rest) X (c_Links_isProperSuper hD hc) ⟨callB_of 2 hta (good_all (L := .code y_Links_isProperSuper prog_5_method_5_code 3 (some .boolean) :: ALLW) (List.forall_mem_cons.mpr ⟨wm_603, fun _ h => h⟩)) rfl rfl rfl (hta _ wm_6) (hta _ wm_600) (by decide +kernel) hR, hta _ wm_601, hta _ wm_602⟩ ⟨x_blind Kk_w _, va_recv hkk.1 hP (ci := 5) (q0 := 5) rfl c_c5, x_pre Kk_w hkk hP _⟩ rfl rfl hsz rfl (lv_room hrest) hdg hcs) hS kk
set_option maxHeartbeats 4000000 in
set_option maxRecDepth 100000 in
theorem c_Selector_isSelectable {l : Launch} {D : va_G} {cI cL cG cZ : ClassId} {ad : Nat → Nat} {M : Mem} {a1 : Int32} {a2 : Int32} {r : Int32} (hD : ∀ M, va_D (c_A ad) (c_ws cI cL cG cZ ad M)) (hf : f_Selector_isSelectable M a1 a2 = some r) : Mi l y_Selector_isSelectable (.code y_Selector_isSelectable prog_10_method_8_code 4 (some .boolean) :: ALLW) (rmR 2 44) (Kk D cI cL cG cZ) D vwC (c_A ad) (c_ws cI cL cG cZ ad) [.ref (ad 8), .int a1, .int a2] M M r := by
  refine Mz_ofR (by decide) (Nat.le_of_ble_eq_true rfl) ?_
  intro p e s m args below meth c ls Q X hkk hret hP hl
  obtain ⟨hx, hb, hml, hown, hta⟩ := id X
  have hKv := hkk.1
  have hS : va_S (c_A ad) s.heap s.heap [] := va_S.rf
  have hl : lv_has ls 4 [(0, .ref (ad 8)), (1, .int a1), (2, .int a2)] := hl
  unfold f_Selector_isSelectable at hf
  refine lv_aload_n hx hb d_Selector_isSelectable_0 rfl (lv_at hl 0 rfl) ?_
  refine xg_Selector_33 hx hb hta hown hKv hP d_Selector_isSelectable_1 ?_
  refine xg_Selector_51 hx hb hta hown hKv hP d_Selector_isSelectable_4 ?_
  refine lv_iload_n hx hb d_Selector_isSelectable_7 rfl (lv_at hl 2 rfl) ?_
  obtain ⟨g1, hf⟩ := gd_ok hf
  refine x_ild hx hb hKv hP c_c29 g1 d_Selector_isSelectable_8 ?_
  refine lv_istore_n (lv' := [(3, .int (M.1 29 a2.toNatClampNeg)), (0, .ref (ad 8)), (1, .int a1), (2, .int a2)]) hx hb d_Selector_isSelectable_9 rfl hl (by decide) rfl (fun ls hl => ?_)
  refine lv_aload_n hx hb d_Selector_isSelectable_10 rfl (lv_at hl 1 rfl) ?_
  refine xg_Selector_21 hx hb hta hown hKv hP d_Selector_isSelectable_11 ?_
  refine lv_iload_n hx hb d_Selector_isSelectable_14 rfl (lv_at hl 2 rfl) ?_
  obtain ⟨r5, hc2, hf⟩ := bd1_e hf
  refine xvc_Selector_103 X hkk hD (Nat.le_of_ble_eq_true rfl) ⟨by dsimp only [rmR]; omega, by dsimp only [rmR]; omega⟩ ⟨Nat.zero_le _, Nat.zero_le _⟩ hc2 hl.1 hP hS d_Selector_isSelectable_15 (fun H locs hP hS => ?_)
  refine lv_if_eq (tgt := 64) hx hb d_Selector_isSelectable_18 (by decide) (fun c3 => ?_) (fun c3 => ?_)
  · have hf := ifp c3 hf
    refine lv_iconst (v := (0 : Int32)) hx hb d_Selector_isSelectable_64 (by decide) ?_
    exact hret (Or.inl rfl) hf hP hS d_Selector_isSelectable_65
  · have hf := ifn c3 hf
    refine lv_aload_n hx hb d_Selector_isSelectable_21 rfl (lv_at hl 1 rfl) ?_
    refine xg_Selector_28 hx hb hta hown hKv hP d_Selector_isSelectable_22 ?_
    refine lv_iload_n hx hb d_Selector_isSelectable_25 rfl (lv_at hl 2 rfl) ?_
    obtain ⟨r6, hc4, hf⟩ := bd1_e hf
    refine xvc_Selector_113 X hkk hD (Nat.le_of_ble_eq_true rfl) ⟨by dsimp only [rmR]; omega, by dsimp only [rmR]; omega⟩ ⟨Nat.zero_le _, Nat.zero_le _⟩ hc4 hl.1 hP hS d_Selector_isSelectable_26 (fun H locs hP hS => ?_)
    refine lv_if_ne (tgt := 64) hx hb d_Selector_isSelectable_29 (by decide) (fun c5 => ?_) (fun c5 => ?_)
    · have hf := ifn c5 hf
      refine lv_iconst (v := (0 : Int32)) hx hb d_Selector_isSelectable_64 (by decide) ?_
      exact hret (Or.inl rfl) hf hP hS d_Selector_isSelectable_65
    · have hf := ifp c5 hf
      refine lv_aload_n hx hb d_Selector_isSelectable_32 rfl (lv_at hl 1 rfl) ?_
      refine xg_Selector_33 hx hb hta hown hKv hP d_Selector_isSelectable_33 ?_
      refine lv_iload_n hx hb d_Selector_isSelectable_36 rfl (lv_at hl 3 rfl) ?_
      obtain ⟨r7, hc6, hf⟩ := bd1_e hf
      refine xvc_Selector_116 X hkk hD (Nat.le_of_ble_eq_true rfl) ⟨by dsimp only [rmR]; omega, by dsimp only [rmR]; omega⟩ ⟨Nat.zero_le _, Nat.zero_le _⟩ hc6 hl.1 hP hS d_Selector_isSelectable_37 (fun H locs hP hS => ?_)
      refine lv_if_ne (tgt := 64) hx hb d_Selector_isSelectable_40 (by decide) (fun c7 => ?_) (fun c7 => ?_)
      · have hf := ifn c7 hf
        refine lv_iconst (v := (0 : Int32)) hx hb d_Selector_isSelectable_64 (by decide) ?_
        exact hret (Or.inl rfl) hf hP hS d_Selector_isSelectable_65
      · have hf := ifp c7 hf
        refine lv_iload_n hx hb d_Selector_isSelectable_43 rfl (lv_at hl 2 rfl) ?_
        refine lv_iload_n hx hb d_Selector_isSelectable_44 rfl (lv_at hl 0 rfl) ?_
        refine lv_icmp_eq (tgt := 60) hx hb d_Selector_isSelectable_45 (by decide) (fun c8 => ?_) (fun c8 => ?_)
        · have hf := ifp c8 hf
          refine lv_iconst (v := (1 : Int32)) hx hb d_Selector_isSelectable_60 (by decide) ?_
          refine lv_goto (tgt := 65) hx hb d_Selector_isSelectable_61 (by decide) ?_
          exact hret (Or.inr rfl) hf hP hS d_Selector_isSelectable_65
        · have hf := ifn c8 hf
          refine lv_aload_n hx hb d_Selector_isSelectable_48 rfl (lv_at hl 1 rfl) ?_
          refine xg_Selector_21 hx hb hta hown hKv hP d_Selector_isSelectable_49 ?_
          refine lv_iload_n hx hb d_Selector_isSelectable_52 rfl (lv_at hl 2 rfl) ?_
          refine lv_iload_n hx hb d_Selector_isSelectable_53 rfl (lv_at hl 0 rfl) ?_
          obtain ⟨r8, hc9, hf⟩ := bd1_e hf
          refine xvc_Selector_107 X hkk hD (Nat.le_of_ble_eq_true rfl) ⟨by dsimp only [rmR]; omega, by dsimp only [rmR]; omega⟩ ⟨Nat.zero_le _, Nat.zero_le _⟩ hc9 hl.1 hP hS d_Selector_isSelectable_54 (fun H locs hP hS => ?_)
          refine lv_if_eq (tgt := 64) hx hb d_Selector_isSelectable_57 (by decide) (fun c10 => ?_) (fun c10 => ?_)
          · have hf := ifp c10 hf
            refine lv_iconst (v := (0 : Int32)) hx hb d_Selector_isSelectable_64 (by decide) ?_
            exact hret (Or.inl rfl) hf hP hS d_Selector_isSelectable_65
          · have hf := ifn c10 hf
            refine lv_iconst (v := (1 : Int32)) hx hb d_Selector_isSelectable_60 (by decide) ?_
            refine lv_goto (tgt := 65) hx hb d_Selector_isSelectable_61 (by decide) ?_
            exact hret (Or.inr rfl) hf hP hS d_Selector_isSelectable_65
-- LinkAudit$Selector.isCovering
set_option maxHeartbeats 4000000 in
set_option maxRecDepth 100000 in
theorem c_Selector_isCovering {l : Launch} {D : va_G} {cI cL cG cZ : ClassId} {ad : Nat → Nat} {M : Mem} {a1 : Int32} {a2 : Int32} {r : Int32} (hD : ∀ M, va_D (c_A ad) (c_ws cI cL cG cZ ad M)) (hf : f_Selector_isCovering M a1 a2 = some r) : Mi l y_Selector_isCovering (.code y_Selector_isCovering prog_10_method_6_code 3 (some .boolean) :: ALLW) (rmR 2 44) (Kk D cI cL cG cZ) D vwC (c_A ad) (c_ws cI cL cG cZ ad) [.ref (ad 8), .int a1, .int a2] M M r := by
  refine Mz_ofR (by decide) (Nat.le_of_ble_eq_true rfl) ?_
  intro p e s m args below meth c ls Q X hkk hret hP hl
  obtain ⟨hx, hb, hml, hown, hta⟩ := id X
  have hKv := hkk.1
  have hS : va_S (c_A ad) s.heap s.heap [] := va_S.rf
  have hl : lv_has ls 3 [(0, .ref (ad 8)), (1, .int a1), (2, .int a2)] := hl
  unfold f_Selector_isCovering at hf
  refine lv_iload_n hx hb d_Selector_isCovering_0 rfl (lv_at hl 1 rfl) ?_
  refine lv_iload_n hx hb d_Selector_isCovering_1 rfl (lv_at hl 2 rfl) ?_
  refine lv_icmp_eq (tgt := 26) hx hb d_Selector_isCovering_2 (by decide) (fun c1 => ?_) (fun c1 => ?_)
  · have hf := ifp c1 hf
    refine lv_iconst (v := (0 : Int32)) hx hb d_Selector_isCovering_26 (by decide) ?_
    exact hret (Or.inl rfl) hf hP hS d_Selector_isCovering_27
  · have hf := ifn c1 hf
    refine lv_aload_n hx hb d_Selector_isCovering_5 rfl (lv_at hl 0 rfl) ?_
    refine xg_Selector_33 hx hb hta hown hKv hP d_Selector_isCovering_6 ?_
    refine xg_Selector_88 hx hb hta hown hKv hP d_Selector_isCovering_9 ?_
    refine lv_iload_n hx hb d_Selector_isCovering_12 rfl (lv_at hl 1 rfl) ?_
    obtain ⟨g2, hf⟩ := gd_ok hf
    refine x_ild hx hb hKv hP c_c30 g2 d_Selector_isCovering_13 ?_
    refine lv_aload_n hx hb d_Selector_isCovering_14 rfl (lv_at hl 0 rfl) ?_
    refine xg_Selector_33 hx hb hta hown hKv hP d_Selector_isCovering_15 ?_
    refine xg_Selector_88 hx hb hta hown hKv hP d_Selector_isCovering_18 ?_
    refine lv_iload_n hx hb d_Selector_isCovering_21 rfl (lv_at hl 2 rfl) ?_
    obtain ⟨g3, hf⟩ := gd_ok hf
    refine x_ild hx hb hKv hP c_c30 g3 d_Selector_isCovering_22 ?_
    refine lv_icmp_eq (tgt := 28) hx hb d_Selector_isCovering_23 (by decide) (fun c4 => ?_) (fun c4 => ?_)
    · have hf := ifp c4 hf
      refine lv_aload_n hx hb d_Selector_isCovering_28 rfl (lv_at hl 0 rfl) ?_
      refine xg_Selector_33 hx hb hta hown hKv hP d_Selector_isCovering_29 ?_
      refine xg_Selector_54 hx hb hta hown hKv hP d_Selector_isCovering_32 ?_
      refine lv_iload_n hx hb d_Selector_isCovering_35 rfl (lv_at hl 1 rfl) ?_
      obtain ⟨r5, hc5, hf⟩ := bd1_e hf
      refine xvc_Selector_58 X hkk hD (Nat.le_of_ble_eq_true rfl) ⟨by dsimp only [rmR]; omega, by dsimp only [rmR]; omega⟩ ⟨Nat.zero_le _, Nat.zero_le _⟩ hc5 hl.1 hP hS d_Selector_isCovering_36 (fun H locs hP hS => ?_)
      refine lv_if_eq (tgt := 56) hx hb d_Selector_isCovering_39 (by decide) (fun c6 => ?_) (fun c6 => ?_)
      · have hf := ifp c6 hf
        refine lv_iconst (v := (0 : Int32)) hx hb d_Selector_isCovering_56 (by decide) ?_
        exact hret (Or.inl rfl) hf hP hS d_Selector_isCovering_57
      · have hf := ifn c6 hf
        refine lv_aload_n hx hb d_Selector_isCovering_42 rfl (lv_at hl 0 rfl) ?_
        refine xg_Selector_33 hx hb hta hown hKv hP d_Selector_isCovering_43 ?_
        refine xg_Selector_54 hx hb hta hown hKv hP d_Selector_isCovering_46 ?_
        refine lv_iload_n hx hb d_Selector_isCovering_49 rfl (lv_at hl 2 rfl) ?_
        obtain ⟨r6, hc7, hf⟩ := bd1_e hf
        refine xvc_Selector_58 X hkk hD (Nat.le_of_ble_eq_true rfl) ⟨by dsimp only [rmR]; omega, by dsimp only [rmR]; omega⟩ ⟨Nat.zero_le _, Nat.zero_le _⟩ hc7 hl.1 hP hS d_Selector_isCovering_50 (fun H locs hP hS => ?_)
        refine lv_if_ne (tgt := 58) hx hb d_Selector_isCovering_53 (by decide) (fun c8 => ?_) (fun c8 => ?_)
        · have hf := ifn c8 hf
          refine lv_aload_n hx hb d_Selector_isCovering_58 rfl (lv_at hl 0 rfl) ?_
          refine lv_iload_n hx hb d_Selector_isCovering_59 rfl (lv_at hl 1 rfl) ?_
          refine lv_iload_n hx hb d_Selector_isCovering_60 rfl (lv_at hl 2 rfl) ?_
          obtain ⟨r7, hc9, hf⟩ := bd1_e hf
          refine xvc_Selector_84 X hkk hD (Nat.le_of_ble_eq_true rfl) ⟨by dsimp only [rmR]; omega, by dsimp only [rmR]; omega⟩ ⟨Nat.zero_le _, Nat.zero_le _⟩ hc9 hl.1 hP hS d_Selector_isCovering_61 (fun H locs hP hS => ?_)
          refine lv_if_ne (tgt := 80) hx hb d_Selector_isCovering_64 (by decide) (fun c10 => ?_) (fun c10 => ?_)
          · have hf := ifn c10 hf
            refine lv_iconst (v := (1 : Int32)) hx hb d_Selector_isCovering_80 (by decide) ?_
            refine lv_goto (tgt := 85) hx hb d_Selector_isCovering_81 (by decide) ?_
            exact hret (Or.inr rfl) hf hP hS d_Selector_isCovering_85
          · have hf := ifp c10 hf
            refine lv_aload_n hx hb d_Selector_isCovering_67 rfl (lv_at hl 0 rfl) ?_
            refine xg_Selector_9 hx hb hta hown hKv hP d_Selector_isCovering_68 ?_
            refine lv_iload_n hx hb d_Selector_isCovering_71 rfl (lv_at hl 1 rfl) ?_
            obtain ⟨g11, hf⟩ := gd_ok hf
            refine x_lld hx hb hKv hP c_c60 g11 d_Selector_isCovering_72 ?_
            refine lv_iload_n hx hb d_Selector_isCovering_73 rfl (lv_at hl 2 rfl) ?_
            obtain ⟨r8, hc12, hf⟩ := bd1_e hf
            refine xvc_Selector_58 X hkk hD (Nat.le_of_ble_eq_true rfl) ⟨by dsimp only [rmR]; omega, by dsimp only [rmR]; omega⟩ ⟨Nat.zero_le _, Nat.zero_le _⟩ hc12 hl.1 hP hS d_Selector_isCovering_74 (fun H locs hP hS => ?_)
            refine lv_if_eq (tgt := 84) hx hb d_Selector_isCovering_77 (by decide) (fun c13 => ?_) (fun c13 => ?_)
            · have hf := ifp c13 hf
              refine lv_iconst (v := (0 : Int32)) hx hb d_Selector_isCovering_84 (by decide) ?_
              exact hret (Or.inl rfl) hf hP hS d_Selector_isCovering_85
            · have hf := ifn c13 hf
              refine lv_iconst (v := (1 : Int32)) hx hb d_Selector_isCovering_80 (by decide) ?_
              refine lv_goto (tgt := 85) hx hb d_Selector_isCovering_81 (by decide) ?_
              exact hret (Or.inr rfl) hf hP hS d_Selector_isCovering_85
        · have hf := ifp c8 hf
          refine lv_iconst (v := (0 : Int32)) hx hb d_Selector_isCovering_56 (by decide) ?_
          exact hret (Or.inl rfl) hf hP hS d_Selector_isCovering_57
    · have hf := ifn c4 hf
      refine lv_iconst (v := (0 : Int32)) hx hb d_Selector_isCovering_26 (by decide) ?_
      exact hret (Or.inl rfl) hf hP hS d_Selector_isCovering_27
-- LinkAudit$Selector.candidate
theorem xg_Selector_34 {p : Program} {l : Launch} {e : Env} {R : Room} {s : State} {m : MethodId} {args : Array Value} {below : List Frame} {meth : Method} {c : Code} {H : Heap} {locs : List Loc} {cells slots : Nat} {Q : State → Prop} {cc : ByteArray} {pc : Nat} {ls : Array Slot} {rest : List Value} {D : va_G} {cI cL cG cZ : ClassId} {ad : Nat → Nat} {M : Mem} (hx : p.tables.exec = Jvm.exec) (hb : c.code = cc) (hta : ∀ w ∈ ALLW, w.before args s = true) (hown : s.vm.findClass "LinkAudit$Selector" = some m.cls) (hK : va_K D vwC [(cI, .int), (cL, .long), (cG, .array .int), (cZ, .boolean)] s) (hP : va_P D vwC (c_ws cI cL cG cZ ad M) H) (hdg : decode cc pc = .ok (.getfield 34, 3))
    (kk : W p l e R s m args below meth c H locs cells slots Q (F0 m (pc + 3) ls (.ref (ad 6) :: rest))) : W p l e R s m args below meth c H locs cells slots Q (F0 m pc ls (.ref (ad 8) :: rest)) :=
  va_get (D := D) (ci := 8) (v := .ref (ad 6)) (C := "LinkAudit$Selector") (T := T_Selector) (N := 5) hx hb hta i_Selector hown hK hP 8 c_c8 rfl 3 (by decide) (hta _ wm_255) (fun _ h9 => h9) rfl hdg kk
theorem xvc_Selector_126 {p : Program} {l : Launch} {e : Env} {R : Room} {s : State} {m : MethodId} {args : Array Value} {below : List Frame} {meth : Method} {c : Code} {H : Heap} {locs : List Loc} {cells slots : Nat} {Q : State → Prop} {cc : ByteArray} {pc : Nat} {ls : Array Slot} {rest : List Value} {D : va_G} {cI cL cG cZ : ClassId} {ad : Nat → Nat} {M : Mem} {H0 : Heap} {nL : Nat} {a0 : Int32} {a1 : Int64} {r : Int64} (X : CallFix p m c cc nL s args ALLW "LinkAudit$Selector") (hkk : Kk D cI cL cG cZ s) (hD : ∀ M, va_D (c_A ad) (c_ws cI cL cG cZ ad M)) (hrest : (rest.map fun v => v.category).sum ≤ 8) (hR : 1 + 1 ≤ R.frames ∧ 8 + (7 + 11) + 22 ≤ R.locals) (hcs : cells + 0 ≤ R.cells ∧ slots + 0 ≤ R.slots) (hc : f_Inheritance_offered M a0 a1 = some r) (hsz : ls.size = nL) (hP : va_P D vwC (c_ws cI cL cG cZ ad M) H) (hS : va_S (c_A ad) H0 H locs) (hdg : decode cc pc = .ok (.invokevirtual 126, 3))
    (kk : ∀ (H1 : Heap) (locs1 : List Loc), va_P D vwC (c_ws cI cL cG cZ ad M) H1 → va_S (c_A ad) H0 H1 locs1 → W p l e R s m args below meth c H1 locs1 cells slots Q (F0 m (pc + 3) ls (.long r :: rest))) : W p l e R s m args below meth c H locs cells slots Q (F0 m pc ls (.long a1 :: .int a0 :: .ref (ad 6) :: rest)) := by
  have hta := X.2.2.2.2
  exact x_afterL (va_runV (As := [.int a0, .long a1]) (rest := rest) X (c_Inheritance_offered hD hc) ⟨callB_of 2 hta (good_all (L := .code y_Inheritance_offered prog_4_method_2_code 7 (some .long) :: ALLW) (List.forall_mem_cons.mpr ⟨wm_561, fun _ h => h⟩)) rfl rfl rfl (hta _ wm_7) (hta _ wm_616) (by decide +kernel) hR, hta _ wm_559, hta _ wm_560⟩ ⟨x_blind Kk_w _, va_recv hkk.1 hP (ci := 6) (q0 := 6) rfl c_c6, x_pre Kk_w hkk hP _⟩ rfl rfl hsz rfl (lv_room hrest) hdg hcs) hS kk
theorem xvc_Selector_130 {p : Program} {l : Launch} {e : Env} {R : Room} {s : State} {m : MethodId} {args : Array Value} {below : List Frame} {meth : Method} {c : Code} {H : Heap} {locs : List Loc} {cells slots : Nat} {Q : State → Prop} {cc : ByteArray} {pc : Nat} {ls : Array Slot} {rest : List Value} {D : va_G} {cI cL cG cZ : ClassId} {ad : Nat → Nat} {M : Mem} {H0 : Heap} {nL : Nat} {a0 : Int64} {r : Int64} (X : CallFix p m c cc nL s args ALLW "LinkAudit$Selector") (hkk : Kk D cI cL cG cZ s) (hD : ∀ M, va_D (c_A ad) (c_ws cI cL cG cZ ad M)) (hrest : (rest.map fun v => v.category).sum ≤ 8) (hR : 1 + 1 ≤ R.frames ∧ 8 + (7 + 11) + 22 ≤ R.locals) (hcs : cells + 0 ≤ R.cells ∧ slots + 0 ≤ R.slots) (hc : f_Inheritance_mostSpecificWithCode M a0 = some r) (hsz : ls.size = nL) (hP : va_P D vwC (c_ws cI cL cG cZ ad M) H) (hS : va_S (c_A ad) H0 H locs) (hdg : decode cc pc = .ok (.invokevirtual 130, 3))
    (kk : ∀ (H1 : Heap) (locs1 : List Loc), va_P D vwC (c_ws cI cL cG cZ ad M) H1 → va_S (c_A ad) H0 H1 locs1 → W p l e R s m args below meth c H1 locs1 cells slots Q (F0 m (pc + 3) ls (.long r :: rest))) : W p l e R s m args below meth c H locs cells slots Q (F0 m pc ls (.long a0 :: .ref (ad 6) :: rest)) := by
  have hta := X.2.2.2.2
  exact x_afterL (va_runV (As := [.long a0]) (rest := rest) X (c_Inheritance_mostSpecificWithCode hD hc) ⟨callB_of 1 hta (good_all (L := .code y_Inheritance_mostSpecificWithCode prog_4_method_3_code 7 (some .long) :: ALLW) (List.forall_mem_cons.mpr ⟨wm_566, fun _ h => h⟩)) rfl rfl rfl (hta _ wm_7) (hta _ wm_617) (by decide +kernel) hR, hta _ wm_564, hta _ wm_565⟩ ⟨x_blind Kk_w _, va_recv hkk.1 hP (ci := 6) (q0 := 6) rfl c_c6, x_pre Kk_w hkk hP _⟩ rfl rfl hsz rfl (lv_room hrest) hdg hcs) hS kk
theorem xvc_Selector_134 {p : Program} {l : Launch} {e : Env} {R : Room} {s : State} {m : MethodId} {args : Array Value} {below : List Frame} {meth : Method} {c : Code} {H : Heap} {locs : List Loc} {cells slots : Nat} {Q : State → Prop} {cc : ByteArray} {pc : Nat} {ls : Array Slot} {rest : List Value} {D : va_G} {cI cL cG cZ : ClassId} {ad : Nat → Nat} {M : Mem} {H0 : Heap} {nL : Nat} {a0 : Int64} {r : Int32} (X : CallFix p m c cc nL s args ALLW "LinkAudit$Selector") (hkk : Kk D cI cL cG cZ s) (hD : ∀ M, va_D (c_A ad) (c_ws cI cL cG cZ ad M)) (hrest : (rest.map fun v => v.category).sum ≤ 8) (hR : 0 + 1 ≤ R.frames ∧ 8 + (2 + 11) + 0 ≤ R.locals) (hcs : cells + 0 ≤ R.cells ∧ slots + 0 ≤ R.slots) (hc : f_Long_bitCount a0 = some r) (hsz : ls.size = nL) (hP : va_P D vwC (c_ws cI cL cG cZ ad M) H) (hS : va_S (c_A ad) H0 H locs) (hdg : decode cc pc = .ok (.invokestatic 134, 3))
    (kk : ∀ (H1 : Heap) (locs1 : List Loc), va_P D vwC (c_ws cI cL cG cZ ad M) H1 → va_S (c_A ad) H0 H1 locs1 → W p l e R s m args below meth c H1 locs1 cells slots Q (F0 m (pc + 3) ls (.int r :: rest))) : W p l e R s m args below meth c H locs cells slots Q (F0 m pc ls (.long a0 :: rest)) := by
  have hta := X.2.2.2.2
  exact x_after0I e_no (va_runS (As := [.long a0]) (rest := rest) X (c_Long_bitCount (ad := ad) (M := M) e_D hc) ⟨callB_of 1 hta (good_all (L := .code y_Long_bitCount prog_13_method_50_code 2 (some .int) :: ALLW) (List.forall_mem_cons.mpr ⟨wm_506, fun _ h => h⟩)) rfl rfl rfl (hta _ wm_14) (hta _ wm_618) (by decide +kernel) hR, hta _ wm_505⟩ ⟨x_blind Kk_w _, x_pre Kk_w hkk e_P _⟩ rfl rfl hsz rfl (lv_room hrest) hdg hcs) hP hS kk
theorem xvc_Selector_110 {p : Program} {l : Launch} {e : Env} {R : Room} {s : State} {m : MethodId} {args : Array Value} {below : List Frame} {meth : Method} {c : Code} {H : Heap} {locs : List Loc} {cells slots : Nat} {Q : State → Prop} {cc : ByteArray} {pc : Nat} {ls : Array Slot} {rest : List Value} {D : va_G} {cI cL cG cZ : ClassId} {ad : Nat → Nat} {M : Mem} {H0 : Heap} {nL : Nat} {a0 : Int32} {a1 : Int32} {r : Int32} (X : CallFix p m c cc nL s args ALLW "LinkAudit$Selector") (hkk : Kk D cI cL cG cZ s) (hD : ∀ M, va_D (c_A ad) (c_ws cI cL cG cZ ad M)) (hrest : (rest.map fun v => v.category).sum ≤ 8) (hR : 2 + 1 ≤ R.frames ∧ 8 + (3 + 11) + 44 ≤ R.locals) (hcs : cells + 0 ≤ R.cells ∧ slots + 0 ≤ R.slots) (hc : f_Selector_isCovering M a0 a1 = some r) (hsz : ls.size = nL) (hP : va_P D vwC (c_ws cI cL cG cZ ad M) H) (hS : va_S (c_A ad) H0 H locs) (hdg : decode cc pc = .ok (.invokevirtual 110, 3))
    (kk : ∀ (H1 : Heap) (locs1 : List Loc), va_P D vwC (c_ws cI cL cG cZ ad M) H1 → va_S (c_A ad) H0 H1 locs1 → W p l e R s m args below meth c H1 locs1 cells slots Q (F0 m (pc + 3) ls (.int r :: rest))) : W p l e R s m args below meth c H locs cells slots Q (F0 m pc ls (.int a1 :: .int a0 :: .ref (ad 8) :: rest)) := by
  have hta := X.2.2.2.2
  exact x_afterI (va_runV (As := [.int a0, .int a1]) (rest := rest) X (c_Selector_isCovering hD hc) ⟨callB_of 2 hta (good_all (L := .code y_Selector_isCovering prog_10_method_6_code 3 (some .boolean) :: ALLW) (List.forall_mem_cons.mpr ⟨wm_615, fun _ h => h⟩)) rfl rfl rfl (hta _ wm_9) (hta _ wm_612) (by decide +kernel) hR, hta _ wm_614, hta _ wp_18⟩ ⟨x_blind Kk_w _, va_recv hkk.1 hP (ci := 8) (q0 := 8) rfl c_c8, x_pre Kk_w hkk hP _⟩ rfl rfl hsz rfl (lv_room hrest) hdg hcs) hS kk
set_option maxHeartbeats 4000000 in
set_option maxRecDepth 100000 in
theorem c_Selector_candidate {l : Launch} {D : va_G} {cI cL cG cZ : ClassId} {ad : Nat → Nat} {M : Mem} {a1 : Int32} {a2 : Int32} {r : Int32} (hD : ∀ M, va_D (c_A ad) (c_ws cI cL cG cZ ad M)) (hf : f_Selector_candidate M a1 a2 = some r) : Mi l y_Selector_candidate (.code y_Selector_candidate prog_10_method_10_code 9 (some .int) :: ALLW) (rmR 3 66) (Kk D cI cL cG cZ) D vwC (c_A ad) (c_ws cI cL cG cZ ad) [.ref (ad 8), .int a1, .int a2] M M r := by
  refine Mi_ofR (by decide) (Nat.le_of_ble_eq_true rfl) ?_
  intro p e s m args below meth c ls Q X hkk hret hP hl
  obtain ⟨hx, hb, hml, hown, hta⟩ := id X
  have hKv := hkk.1
  have hS : va_S (c_A ad) s.heap s.heap [] := va_S.rf
  have hl : lv_has ls 9 [(0, .ref (ad 8)), (1, .int a1), (2, .int a2)] := hl
  have L9 : ∀ (x1 : Int32) (x2 : Int32) (x3 : Int64), ∀ (ke77 : Int32 → Option Int32), ke77 = (fun y8 => some (y8)) → ∀ (ke86 : Option Int32), ke86 = (bd1 (f_Inheritance_offered M x1 x3) (fun r8 => bd1 (f_Inheritance_mostSpecificWithCode M r8) (fun r9 => if (lg_cmp r9 (0 : Int64)) = 0 then some ((-9 : Int32)) else bd1 (f_Long_bitCount r9) (fun r10 => if r10 = (1 : Int32) then bd1 (f_LinkAudit_lowestBit r9) (fun r11 => some (r11)) else some ((-5 : Int32)))))) → ∀ (n9 : Nat) (x5 : Int32) (H : Heap) (locs : List Loc) (ls : Array Slot), f_Selector_candidate_L9 M x1 x2 x3 ke77 ke86 n9 x5 = some r → va_P D vwC (c_ws cI cL cG cZ ad M) H → va_S (c_A ad) s.heap H locs → lv_has ls 9 [(0, .ref (ad 8)), (1, .int x1), (2, .int x2), (3, .long x3), (5, .int x5)] → W p l e (rmR 3 66) s m args below meth c H locs 0 0 Q (F0 m 9 ls []) := by
    intro x1 x2 x3 ke77 hke77 ke86 hke86 n9
    induction n9 with
    | zero => intro x5 H locs ls hf; exact absurd (show (none : Option _) = some _ from hf) (fun q => by cases q)
    | succ n9 ih9 =>
      intro x5 H locs ls hf hP hS hl
      rw [f_Selector_candidate_L9] at hf
      refine lv_iload hx hb d_Selector_candidate_9 (lv_at hl 4 rfl) ?_
      refine lv_aload_n hx hb d_Selector_candidate_11 rfl (lv_at hl 0 rfl) ?_
      refine xg_Selector_21 hx hb hta hown hKv hP d_Selector_candidate_12 ?_
      refine xg_Selector_70 hx hb hta hown hKv hP d_Selector_candidate_15 ?_
      refine lv_iload_n hx hb d_Selector_candidate_18 rfl (lv_at hl 1 rfl) ?_
      obtain ⟨g1, hf⟩ := gd_ok hf
      refine x_ild hx hb hKv hP c_c56 g1 d_Selector_candidate_19 ?_
      refine lv_icmp_ge (tgt := 86) hx hb d_Selector_candidate_20 (by decide) (fun c2 => ?_) (fun c2 => ?_)
      · have hf := ifp c2 hf
        rw [hke86] at hf
        refine lv_aload_n hx hb d_Selector_candidate_86 rfl (lv_at hl 0 rfl) ?_
        refine xg_Selector_34 hx hb hta hown hKv hP d_Selector_candidate_87 ?_
        refine lv_aload_n hx hb d_Selector_candidate_90 rfl (lv_at hl 0 rfl) ?_
        refine xg_Selector_34 hx hb hta hown hKv hP d_Selector_candidate_91 ?_
        refine lv_iload_n hx hb d_Selector_candidate_94 rfl (lv_at hl 1 rfl) ?_
        refine lv_lload_n hx hb d_Selector_candidate_95 rfl (lv_at hl 3 rfl) ?_
        obtain ⟨r12, hc3, hf⟩ := bd1_e hf
        refine xvc_Selector_126 X hkk hD (Nat.le_of_ble_eq_true rfl) ⟨by dsimp only [rmR]; omega, by dsimp only [rmR]; omega⟩ ⟨Nat.zero_le _, Nat.zero_le _⟩ hc3 hl.1 hP hS d_Selector_candidate_96 (fun H locs hP hS => ?_)
        obtain ⟨r13, hc4, hf⟩ := bd1_e hf
        refine xvc_Selector_130 X hkk hD (Nat.le_of_ble_eq_true rfl) ⟨by dsimp only [rmR]; omega, by dsimp only [rmR]; omega⟩ ⟨Nat.zero_le _, Nat.zero_le _⟩ hc4 hl.1 hP hS d_Selector_candidate_99 (fun H locs hP hS => ?_)
        refine lv_lstore (lv' := [(5, .long r13), (0, .ref (ad 8)), (1, .int x1), (2, .int x2), (3, .long x3)]) hx hb d_Selector_candidate_102 hl (by decide) rfl (fun ls hl => ?_)
        refine lv_lload hx hb d_Selector_candidate_104 (lv_at hl 0 rfl) ?_
        refine lv_lconst (v := (0 : Int64)) hx hb d_Selector_candidate_106 (by decide) ?_
        refine W.lcmp hx hb d_Selector_candidate_107 ?_
        refine lv_if_ne (tgt := 114) hx hb d_Selector_candidate_108 (by decide) (fun c5 => ?_) (fun c5 => ?_)
        · have hf := ifn c5 hf
          refine lv_lload hx hb d_Selector_candidate_114 (lv_at hl 0 rfl) ?_
          obtain ⟨r14, hc6, hf⟩ := bd1_e hf
          refine xvc_Selector_134 X hkk hD (Nat.le_of_ble_eq_true rfl) ⟨by dsimp only [rmR]; omega, by dsimp only [rmR]; omega⟩ ⟨Nat.zero_le _, Nat.zero_le _⟩ hc6 hl.1 hP hS d_Selector_candidate_116 (fun H locs hP hS => ?_)
          refine lv_iconst (v := (1 : Int32)) hx hb d_Selector_candidate_119 (by decide) ?_
          refine lv_icmp_ne (tgt := 131) hx hb d_Selector_candidate_120 (by decide) (fun c7 => ?_) (fun c7 => ?_)
          · have hf := ifn c7 hf
            refine lv_bipush (v := (-5 : Int32)) hx hb d_Selector_candidate_131 (by decide) ?_
            exact hret hf hP hS d_Selector_candidate_133
          · have hf := ifp c7 hf
            refine lv_lload hx hb d_Selector_candidate_123 (lv_at hl 0 rfl) ?_
            obtain ⟨r15, hc8, hf⟩ := bd1_e hf
            refine xvc_Selector_80 X hkk hD (Nat.le_of_ble_eq_true rfl) ⟨by dsimp only [rmR]; omega, by dsimp only [rmR]; omega⟩ ⟨Nat.zero_le _, Nat.zero_le _⟩ hc8 hl.1 hP hS d_Selector_candidate_125 (fun H locs hP hS => ?_)
            refine lv_goto (tgt := 133) hx hb d_Selector_candidate_128 (by decide) ?_
            exact hret hf hP hS d_Selector_candidate_133
        · have hf := ifp c5 hf
          refine lv_bipush (v := (-9 : Int32)) hx hb d_Selector_candidate_111 (by decide) ?_
          exact hret hf hP hS d_Selector_candidate_113
      · have hf := ifn c2 hf
        refine lv_aload_n hx hb d_Selector_candidate_23 rfl (lv_at hl 0 rfl) ?_
        refine xg_Selector_33 hx hb hta hown hKv hP d_Selector_candidate_24 ?_
        refine xg_Selector_73 hx hb hta hown hKv hP d_Selector_candidate_27 ?_
        refine lv_aload_n hx hb d_Selector_candidate_30 rfl (lv_at hl 0 rfl) ?_
        refine xg_Selector_21 hx hb hta hown hKv hP d_Selector_candidate_31 ?_
        refine xg_Selector_76 hx hb hta hown hKv hP d_Selector_candidate_34 ?_
        refine lv_iload_n hx hb d_Selector_candidate_37 rfl (lv_at hl 1 rfl) ?_
        obtain ⟨g9, hf⟩ := gd_ok hf
        refine x_ald (k0 := 38) (base := 39) (n := 17) hx hb hKv hP c_c38 g9 d_Selector_candidate_38 ?_
        refine lv_iload hx hb d_Selector_candidate_39 (lv_at hl 4 rfl) ?_
        obtain ⟨g10, hf⟩ := gd_ok hf
        refine x_ild hx hb hKv hP (c_c39 g9) g10 d_Selector_candidate_41 ?_
        obtain ⟨g11, hf⟩ := gd_ok hf
        refine x_lld hx hb hKv hP c_c32 g11 d_Selector_candidate_42 ?_
        refine lv_lload_n hx hb d_Selector_candidate_43 rfl (lv_at hl 3 rfl) ?_
        refine lv_land hx hb d_Selector_candidate_44 ?_
        refine lv_lstore (lv' := [(6, .long (((M.2 32 ((M.1 (39 + x1.toNatClampNeg) x5.toNatClampNeg)).toNatClampNeg) &&& x3))), (0, .ref (ad 8)), (1, .int x1), (2, .int x2), (3, .long x3), (5, .int x5)]) hx hb d_Selector_candidate_45 hl (by decide) rfl (fun ls hl => ?_)
        refine lv_lload hx hb d_Selector_candidate_47 (lv_at hl 0 rfl) ?_
        refine lv_lconst (v := (0 : Int64)) hx hb d_Selector_candidate_49 (by decide) ?_
        refine W.lcmp hx hb d_Selector_candidate_50 ?_
        refine lv_if_eq (tgt := 80) hx hb d_Selector_candidate_51 (by decide) (fun c12 => ?_) (fun c12 => ?_)
        · have hf := ifp c12 hf
          refine lv_iinc (v := (x5 + (1 : Int32))) (lv' := [(5, .int (x5 + (1 : Int32))), (6, .long (((M.2 32 ((M.1 (39 + x1.toNatClampNeg) x5.toNatClampNeg)).toNatClampNeg) &&& x3))), (0, .ref (ad 8)), (1, .int x1), (2, .int x2), (3, .long x3)]) hx hb d_Selector_candidate_80 hl (k := 5) rfl rfl (by decide) rfl (fun ls hl => ?_)
          refine lv_goto (tgt := 9) hx hb d_Selector_candidate_83 (by decide) ?_
          exact ih9 (x5 + (1 : Int32)) _ _ _ hf hP hS (lv_sub hl [2, 3, 4, 5, 0] rfl)
        · have hf := ifn c12 hf
          refine lv_lload hx hb d_Selector_candidate_54 (lv_at hl 0 rfl) ?_
          obtain ⟨r16, hc13, hf⟩ := bd1_e hf
          refine xvc_Selector_80 X hkk hD (Nat.le_of_ble_eq_true rfl) ⟨by dsimp only [rmR]; omega, by dsimp only [rmR]; omega⟩ ⟨Nat.zero_le _, Nat.zero_le _⟩ hc13 hl.1 hP hS d_Selector_candidate_56 (fun H locs hP hS => ?_)
          refine lv_istore (lv' := [(8, .int r16), (6, .long (((M.2 32 ((M.1 (39 + x1.toNatClampNeg) x5.toNatClampNeg)).toNatClampNeg) &&& x3))), (0, .ref (ad 8)), (1, .int x1), (2, .int x2), (3, .long x3), (5, .int x5)]) hx hb d_Selector_candidate_59 hl (by decide) rfl (fun ls hl => ?_)
          refine lv_iload hx hb d_Selector_candidate_61 (lv_at hl 0 rfl) ?_
          refine lv_iload_n hx hb d_Selector_candidate_63 rfl (lv_at hl 4 rfl) ?_
          refine lv_icmp_eq (tgt := 77) hx hb d_Selector_candidate_64 (by decide) (fun c14 => ?_) (fun c14 => ?_)
          · have hf := ifp c14 hf
            rw [hke77] at hf
            refine lv_iload hx hb d_Selector_candidate_77 (lv_at hl 0 rfl) ?_
            exact hret hf hP hS d_Selector_candidate_79
          · have hf := ifn c14 hf
            refine lv_aload_n hx hb d_Selector_candidate_67 rfl (lv_at hl 2 rfl) ?_
            refine lv_iload hx hb d_Selector_candidate_68 (lv_at hl 0 rfl) ?_
            refine lv_iload_n hx hb d_Selector_candidate_70 rfl (lv_at hl 4 rfl) ?_
            obtain ⟨r17, hc15, hf⟩ := bd1_e hf
            refine xvc_Selector_110 X hkk hD (Nat.le_of_ble_eq_true rfl) ⟨by dsimp only [rmR]; omega, by dsimp only [rmR]; omega⟩ ⟨Nat.zero_le _, Nat.zero_le _⟩ hc15 hl.1 hP hS d_Selector_candidate_71 (fun H locs hP hS => ?_)
            refine lv_if_eq (tgt := 80) hx hb d_Selector_candidate_74 (by decide) (fun c16 => ?_) (fun c16 => ?_)
            · have hf := ifp c16 hf
              refine lv_iinc (v := (x5 + (1 : Int32))) (lv' := [(5, .int (x5 + (1 : Int32))), (8, .int r16), (6, .long (((M.2 32 ((M.1 (39 + x1.toNatClampNeg) x5.toNatClampNeg)).toNatClampNeg) &&& x3))), (0, .ref (ad 8)), (1, .int x1), (2, .int x2), (3, .long x3)]) hx hb d_Selector_candidate_80 hl (k := 6) rfl rfl (by decide) rfl (fun ls hl => ?_)
              refine lv_goto (tgt := 9) hx hb d_Selector_candidate_83 (by decide) ?_
              exact ih9 (x5 + (1 : Int32)) _ _ _ hf hP hS (lv_sub hl [3, 4, 5, 6, 0] rfl)
            · have hf := ifn c16 hf
              rw [hke77] at hf
              refine lv_iload hx hb d_Selector_candidate_77 (lv_at hl 0 rfl) ?_
              exact hret hf hP hS d_Selector_candidate_79
  unfold f_Selector_candidate at hf
  refine lv_aload_n hx hb d_Selector_candidate_0 rfl (lv_at hl 0 rfl) ?_
  refine lv_iload_n hx hb d_Selector_candidate_1 rfl (lv_at hl 2 rfl) ?_
  obtain ⟨r18, hc17, hf⟩ := bd1_e hf
  refine xvc_Selector_66 X hkk hD (Nat.le_of_ble_eq_true rfl) ⟨by dsimp only [rmR]; omega, by dsimp only [rmR]; omega⟩ ⟨Nat.zero_le _, Nat.zero_le _⟩ hc17 hl.1 hP hS d_Selector_candidate_2 (fun H locs hP hS => ?_)
  refine lv_lstore_n (lv' := [(3, .long r18), (0, .ref (ad 8)), (1, .int a1), (2, .int a2)]) hx hb d_Selector_candidate_5 rfl hl (by decide) rfl (fun ls hl => ?_)
  refine lv_iconst (v := (0 : Int32)) hx hb d_Selector_candidate_6 (by decide) ?_
  refine lv_istore (lv' := [(5, .int (0 : Int32)), (3, .long r18), (0, .ref (ad 8)), (1, .int a1), (2, .int a2)]) hx hb d_Selector_candidate_7 hl (by decide) rfl (fun ls hl => ?_)
  exact L9 a1 a2 r18 _ rfl _ rfl FU (0 : Int32) _ _ _ hf hP hS (lv_sub hl [2, 3, 4, 1, 0] rfl)
-- LinkAudit$Selector.selected
theorem xvc_Selector_119 {p : Program} {l : Launch} {e : Env} {R : Room} {s : State} {m : MethodId} {args : Array Value} {below : List Frame} {meth : Method} {c : Code} {H : Heap} {locs : List Loc} {cells slots : Nat} {Q : State → Prop} {cc : ByteArray} {pc : Nat} {ls : Array Slot} {rest : List Value} {D : va_G} {cI cL cG cZ : ClassId} {ad : Nat → Nat} {M : Mem} {H0 : Heap} {nL : Nat} {a0 : Int32} {a1 : Int32} {r : Int32} (X : CallFix p m c cc nL s args ALLW "LinkAudit$Selector") (hkk : Kk D cI cL cG cZ s) (hD : ∀ M, va_D (c_A ad) (c_ws cI cL cG cZ ad M)) (hrest : (rest.map fun v => v.category).sum ≤ 8) (hR : 3 + 1 ≤ R.frames ∧ 8 + (9 + 11) + 66 ≤ R.locals) (hcs : cells + 0 ≤ R.cells ∧ slots + 0 ≤ R.slots) (hc : f_Selector_candidate M a0 a1 = some r) (hsz : ls.size = nL) (hP : va_P D vwC (c_ws cI cL cG cZ ad M) H) (hS : va_S (c_A ad) H0 H locs) (hdg : decode cc pc = .ok (.invokevirtual 119, 3))
    (kk : ∀ (H1 : Heap) (locs1 : List Loc), va_P D vwC (c_ws cI cL cG cZ ad M) H1 → va_S (c_A ad) H0 H1 locs1 → W p l e R s m args below meth c H1 locs1 cells slots Q (F0 m (pc + 3) ls (.int r :: rest))) : W p l e R s m args below meth c H locs cells slots Q (F0 m pc ls (.int a1 :: .int a0 :: .ref (ad 8) :: rest)) := by
  have hta := X.2.2.2.2
  exact x_afterI (va_runV (As := [.int a0, .int a1]) (rest := rest) X (c_Selector_candidate hD hc) ⟨callB_of 2 hta (good_all (L := .code y_Selector_candidate prog_10_method_10_code 9 (some .int) :: ALLW) (List.forall_mem_cons.mpr ⟨wm_611, fun _ h => h⟩)) rfl rfl rfl (hta _ wm_9) (hta _ wm_608) (by decide +kernel) hR, hta _ wm_610, hta _ wp_17⟩ ⟨x_blind Kk_w _, va_recv hkk.1 hP (ci := 8) (q0 := 8) rfl c_c8, x_pre Kk_w hkk hP _⟩ rfl rfl hsz rfl (lv_room hrest) hdg hcs) hS kk
theorem xg_Selector_123 {p : Program} {l : Launch} {e : Env} {R : Room} {s : State} {m : MethodId} {args : Array Value} {below : List Frame} {meth : Method} {c : Code} {H : Heap} {locs : List Loc} {cells slots : Nat} {Q : State → Prop} {cc : ByteArray} {pc : Nat} {ls : Array Slot} {rest : List Value} {D : va_G} {cI cL cG cZ : ClassId} {ad : Nat → Nat} {M : Mem} (hx : p.tables.exec = Jvm.exec) (hb : c.code = cc) (hta : ∀ w ∈ ALLW, w.before args s = true) (hown : s.vm.findClass "LinkAudit$Selector" = some m.cls) (hK : va_K D vwC [(cI, .int), (cL, .long), (cG, .array .int), (cZ, .boolean)] s) (hP : va_P D vwC (c_ws cI cL cG cZ ad M) H) (hdg : decode cc pc = .ok (.getfield 123, 3))
    (kk : W p l e R s m args below meth c H locs cells slots Q (F0 m (pc + 3) ls (.long (M.2 3 5) :: rest))) : W p l e R s m args below meth c H locs cells slots Q (F0 m pc ls (.ref (ad 3) :: rest)) :=
  va_get (D := D) (ci := 3) (v := .long (M.2 3 5)) (C := "LinkAudit$Members") (T := T_Members) (N := 7) hx hb hta i_Members hown hK hP 3 c_c3 rfl 5 (by decide) (hta _ wm_106) (fun _ h9 => h9) rfl hdg kk
set_option maxHeartbeats 4000000 in
set_option maxRecDepth 100000 in
theorem c_Selector_selected {l : Launch} {D : va_G} {cI cL cG cZ : ClassId} {ad : Nat → Nat} {M : Mem} {a1 : Int32} {a2 : Int32} {r : Int32} (hD : ∀ M, va_D (c_A ad) (c_ws cI cL cG cZ ad M)) (hf : f_Selector_selected M a1 a2 = some r) : Mi l y_Selector_selected (.code y_Selector_selected prog_10_method_9_code 5 (some .int) :: ALLW) (rmR 4 94) (Kk D cI cL cG cZ) D vwC (c_A ad) (c_ws cI cL cG cZ ad) [.ref (ad 8), .int a1, .int a2] M M r := by
  refine Mi_ofR (by decide) (Nat.le_of_ble_eq_true rfl) ?_
  intro p e s m args below meth c ls Q X hkk hret hP hl
  obtain ⟨hx, hb, hml, hown, hta⟩ := id X
  have hKv := hkk.1
  have hS : va_S (c_A ad) s.heap s.heap [] := va_S.rf
  have hl : lv_has ls 5 [(0, .ref (ad 8)), (1, .int a1), (2, .int a2)] := hl
  unfold f_Selector_selected at hf
  refine lv_aload_n hx hb d_Selector_selected_0 rfl (lv_at hl 0 rfl) ?_
  refine xg_Selector_33 hx hb hta hown hKv hP d_Selector_selected_1 ?_
  refine lv_iload_n hx hb d_Selector_selected_4 rfl (lv_at hl 2 rfl) ?_
  obtain ⟨r6, hc1, hf⟩ := bd1_e hf
  refine xvc_Selector_94 X hkk hD (Nat.le_of_ble_eq_true rfl) ⟨by dsimp only [rmR]; omega, by dsimp only [rmR]; omega⟩ ⟨Nat.zero_le _, Nat.zero_le _⟩ hc1 hl.1 hP hS d_Selector_selected_5 (fun H locs hP hS => ?_)
  refine lv_iconst (v := (3 : Int32)) hx hb d_Selector_selected_8 (by decide) ?_
  refine lv_icmp_ne (tgt := 14) hx hb d_Selector_selected_9 (by decide) (fun c2 => ?_) (fun c2 => ?_)
  · have hf := ifn c2 hf
    refine lv_aload_n hx hb d_Selector_selected_14 rfl (lv_at hl 0 rfl) ?_
    refine lv_iload_n hx hb d_Selector_selected_15 rfl (lv_at hl 1 rfl) ?_
    refine lv_iload_n hx hb d_Selector_selected_16 rfl (lv_at hl 2 rfl) ?_
    obtain ⟨r7, hc3, hf⟩ := bd1_e hf
    refine xvc_Selector_119 X hkk hD (Nat.le_of_ble_eq_true rfl) ⟨by dsimp only [rmR]; omega, by dsimp only [rmR]; omega⟩ ⟨Nat.zero_le _, Nat.zero_le _⟩ hc3 hl.1 hP hS d_Selector_selected_17 (fun H locs hP hS => ?_)
    refine lv_istore_n (lv' := [(3, .int r7), (0, .ref (ad 8)), (1, .int a1), (2, .int a2)]) hx hb d_Selector_selected_20 rfl hl (by decide) rfl (fun ls hl => ?_)
    refine lv_iload_n hx hb d_Selector_selected_21 rfl (lv_at hl 0 rfl) ?_
    refine lv_if_ge (tgt := 27) hx hb d_Selector_selected_22 (by decide) (fun c4 => ?_) (fun c4 => ?_)
    · have hf := ifp c4 hf
      refine lv_aload_n hx hb d_Selector_selected_27 rfl (lv_at hl 1 rfl) ?_
      refine xg_Selector_33 hx hb hta hown hKv hP d_Selector_selected_28 ?_
      refine xg_Selector_123 hx hb hta hown hKv hP d_Selector_selected_31 ?_
      refine lv_iload_n hx hb d_Selector_selected_34 rfl (lv_at hl 0 rfl) ?_
      obtain ⟨r8, hc5, hf⟩ := bd1_e hf
      refine xvc_Selector_58 X hkk hD (Nat.le_of_ble_eq_true rfl) ⟨by dsimp only [rmR]; omega, by dsimp only [rmR]; omega⟩ ⟨Nat.zero_le _, Nat.zero_le _⟩ hc5 hl.1 hP hS d_Selector_selected_35 (fun H locs hP hS => ?_)
      refine lv_if_eq (tgt := 44) hx hb d_Selector_selected_38 (by decide) (fun c6 => ?_) (fun c6 => ?_)
      · have hf := ifp c6 hf
        refine lv_aload_n hx hb d_Selector_selected_44 rfl (lv_at hl 1 rfl) ?_
        refine xg_Selector_28 hx hb hta hown hKv hP d_Selector_selected_45 ?_
        refine lv_aload_n hx hb d_Selector_selected_48 rfl (lv_at hl 1 rfl) ?_
        refine xg_Selector_33 hx hb hta hown hKv hP d_Selector_selected_49 ?_
        refine xg_Selector_51 hx hb hta hown hKv hP d_Selector_selected_52 ?_
        refine lv_iload_n hx hb d_Selector_selected_55 rfl (lv_at hl 3 rfl) ?_
        obtain ⟨g7, hf⟩ := gd_ok hf
        refine x_ild hx hb hKv hP c_c29 g7 d_Selector_selected_56 ?_
        obtain ⟨r9, hc8, hf⟩ := bd1_e hf
        refine xvc_Selector_113 X hkk hD (Nat.le_of_ble_eq_true rfl) ⟨by dsimp only [rmR]; omega, by dsimp only [rmR]; omega⟩ ⟨Nat.zero_le _, Nat.zero_le _⟩ hc8 hl.1 hP hS d_Selector_selected_57 (fun H locs hP hS => ?_)
        refine lv_istore (lv' := [(4, .int r9), (3, .int r7), (0, .ref (ad 8)), (1, .int a1), (2, .int a2)]) hx hb d_Selector_selected_60 hl (by decide) rfl (fun ls hl => ?_)
        refine lv_iload hx hb d_Selector_selected_62 (lv_at hl 0 rfl) ?_
        refine lv_if_eq (tgt := 83) hx hb d_Selector_selected_64 (by decide) (fun c9 => ?_) (fun c9 => ?_)
        · have hf := ifp c9 hf
          refine lv_iload_n hx hb d_Selector_selected_83 rfl (lv_at hl 1 rfl) ?_
          exact hret hf hP hS d_Selector_selected_84
        · have hf := ifn c9 hf
          refine lv_aload_n hx hb d_Selector_selected_67 rfl (lv_at hl 2 rfl) ?_
          refine xg_Selector_33 hx hb hta hown hKv hP d_Selector_selected_68 ?_
          refine lv_iload_n hx hb d_Selector_selected_71 rfl (lv_at hl 1 rfl) ?_
          obtain ⟨r10, hc10, hf⟩ := bd1_e hf
          refine xvc_Selector_94 X hkk hD (Nat.le_of_ble_eq_true rfl) ⟨by dsimp only [rmR]; omega, by dsimp only [rmR]; omega⟩ ⟨Nat.zero_le _, Nat.zero_le _⟩ hc10 hl.1 hP hS d_Selector_selected_72 (fun H locs hP hS => ?_)
          refine lv_if_eq (tgt := 83) hx hb d_Selector_selected_75 (by decide) (fun c11 => ?_) (fun c11 => ?_)
          · have hf := ifp c11 hf
            refine lv_iload_n hx hb d_Selector_selected_83 rfl (lv_at hl 1 rfl) ?_
            exact hret hf hP hS d_Selector_selected_84
          · have hf := ifn c11 hf
            refine lv_bipush (v := (-6 : Int32)) hx hb d_Selector_selected_78 (by decide) ?_
            refine lv_goto (tgt := 84) hx hb d_Selector_selected_80 (by decide) ?_
            exact hret hf hP hS d_Selector_selected_84
      · have hf := ifn c6 hf
        refine lv_bipush (v := (-9 : Int32)) hx hb d_Selector_selected_41 (by decide) ?_
        exact hret hf hP hS d_Selector_selected_43
    · have hf := ifn c4 hf
      refine lv_iload_n hx hb d_Selector_selected_25 rfl (lv_at hl 0 rfl) ?_
      exact hret hf hP hS d_Selector_selected_26
  · have hf := ifp c2 hf
    refine lv_iload_n hx hb d_Selector_selected_12 rfl (lv_at hl 2 rfl) ?_
    exact hret hf hP hS d_Selector_selected_13
-- LinkAudit.select
theorem xvc_LinkAudit_154 {p : Program} {l : Launch} {e : Env} {R : Room} {s : State} {m : MethodId} {args : Array Value} {below : List Frame} {meth : Method} {c : Code} {H : Heap} {locs : List Loc} {cells slots : Nat} {Q : State → Prop} {cc : ByteArray} {pc : Nat} {ls : Array Slot} {rest : List Value} {D : va_G} {cI cL cG cZ : ClassId} {ad : Nat → Nat} {M : Mem} {H0 : Heap} {nL : Nat} {a0 : Int32} {r : Int32} (X : CallFix p m c cc nL s args ALLW "LinkAudit") (hkk : Kk D cI cL cG cZ s) (hD : ∀ M, va_D (c_A ad) (c_ws cI cL cG cZ ad M)) (hrest : (rest.map fun v => v.category).sum ≤ 8) (hR : 1 + 1 ≤ R.frames ∧ 8 + (2 + 11) + 21 ≤ R.locals) (hcs : cells + 0 ≤ R.cells ∧ slots + 0 ≤ R.slots) (hc : f_LinkAudit_isMethod M a0 = some r) (hsz : ls.size = nL) (hP : va_P D vwC (c_ws cI cL cG cZ ad M) H) (hS : va_S (c_A ad) H0 H locs) (hdg : decode cc pc = .ok (.invokevirtual 154, 3))
    (kk : ∀ (H1 : Heap) (locs1 : List Loc), va_P D vwC (c_ws cI cL cG cZ ad M) H1 → va_S (c_A ad) H0 H1 locs1 → W p l e R s m args below meth c H1 locs1 cells slots Q (F0 m (pc + 3) ls (.int r :: rest))) : W p l e R s m args below meth c H locs cells slots Q (F0 m pc ls (.int a0 :: .ref (ad 0) :: rest)) := by
  have hta := X.2.2.2.2
  exact x_afterI (va_runV (As := [.int a0]) (rest := rest) X (c_LinkAudit_isMethod hD hc) ⟨callB_of 1 hta (good_all (L := .code y_LinkAudit_isMethod prog_1_method_21_code 2 (some .boolean) :: ALLW) (List.forall_mem_cons.mpr ⟨wm_591, fun _ h => h⟩)) rfl rfl rfl (hta _ wm_1) (hta _ wm_588) (by decide +kernel) hR, hta _ wm_590, hta _ wp_16⟩ ⟨x_blind Kk_w _, va_recv hkk.1 hP (ci := 0) (q0 := 0) rfl c_c0, x_pre Kk_w hkk hP _⟩ rfl rfl hsz rfl (lv_room hrest) hdg hcs) hS kk
theorem xvc_LinkAudit_157 {p : Program} {l : Launch} {e : Env} {R : Room} {s : State} {m : MethodId} {args : Array Value} {below : List Frame} {meth : Method} {c : Code} {H : Heap} {locs : List Loc} {cells slots : Nat} {Q : State → Prop} {cc : ByteArray} {pc : Nat} {ls : Array Slot} {rest : List Value} {D : va_G} {cI cL cG cZ : ClassId} {ad : Nat → Nat} {M : Mem} {H0 : Heap} {nL : Nat} {a0 : Int32} {a1 : Int32} {r : Int32} (X : CallFix p m c cc nL s args ALLW "LinkAudit") (hkk : Kk D cI cL cG cZ s) (hD : ∀ M, va_D (c_A ad) (c_ws cI cL cG cZ ad M)) (hrest : (rest.map fun v => v.category).sum ≤ 8) (hR : 2 + 1 ≤ R.frames ∧ 8 + (4 + 11) + 44 ≤ R.locals) (hcs : cells + 0 ≤ R.cells ∧ slots + 0 ≤ R.slots) (hc : f_Selector_isSelectable M a0 a1 = some r) (hsz : ls.size = nL) (hP : va_P D vwC (c_ws cI cL cG cZ ad M) H) (hS : va_S (c_A ad) H0 H locs) (hdg : decode cc pc = .ok (.invokevirtual 157, 3))
    (kk : ∀ (H1 : Heap) (locs1 : List Loc), va_P D vwC (c_ws cI cL cG cZ ad M) H1 → va_S (c_A ad) H0 H1 locs1 → W p l e R s m args below meth c H1 locs1 cells slots Q (F0 m (pc + 3) ls (.int r :: rest))) : W p l e R s m args below meth c H locs cells slots Q (F0 m pc ls (.int a1 :: .int a0 :: .ref (ad 8) :: rest)) := by
  have hta := X.2.2.2.2
  exact x_afterI (va_runV (As := [.int a0, .int a1]) (rest := rest) X (c_Selector_isSelectable hD hc) ⟨callB_of 2 hta (good_all (L := .code y_Selector_isSelectable prog_10_method_8_code 4 (some .boolean) :: ALLW) (List.forall_mem_cons.mpr ⟨wm_596, fun _ h => h⟩)) rfl rfl rfl (hta _ wm_9) (hta _ wm_593) (by decide +kernel) hR, hta _ wm_594, hta _ wm_595⟩ ⟨x_blind Kk_w _, va_recv hkk.1 hP (ci := 8) (q0 := 8) rfl c_c8, x_pre Kk_w hkk hP _⟩ rfl rfl hsz rfl (lv_room hrest) hdg hcs) hS kk
theorem xvc_LinkAudit_160 {p : Program} {l : Launch} {e : Env} {R : Room} {s : State} {m : MethodId} {args : Array Value} {below : List Frame} {meth : Method} {c : Code} {H : Heap} {locs : List Loc} {cells slots : Nat} {Q : State → Prop} {cc : ByteArray} {pc : Nat} {ls : Array Slot} {rest : List Value} {D : va_G} {cI cL cG cZ : ClassId} {ad : Nat → Nat} {M : Mem} {H0 : Heap} {nL : Nat} {a0 : Int32} {a1 : Int32} {r : Int32} (X : CallFix p m c cc nL s args ALLW "LinkAudit") (hkk : Kk D cI cL cG cZ s) (hD : ∀ M, va_D (c_A ad) (c_ws cI cL cG cZ ad M)) (hrest : (rest.map fun v => v.category).sum ≤ 8) (hR : 4 + 1 ≤ R.frames ∧ 8 + (5 + 11) + 94 ≤ R.locals) (hcs : cells + 0 ≤ R.cells ∧ slots + 0 ≤ R.slots) (hc : f_Selector_selected M a0 a1 = some r) (hsz : ls.size = nL) (hP : va_P D vwC (c_ws cI cL cG cZ ad M) H) (hS : va_S (c_A ad) H0 H locs) (hdg : decode cc pc = .ok (.invokevirtual 160, 3))
    (kk : ∀ (H1 : Heap) (locs1 : List Loc), va_P D vwC (c_ws cI cL cG cZ ad M) H1 → va_S (c_A ad) H0 H1 locs1 → W p l e R s m args below meth c H1 locs1 cells slots Q (F0 m (pc + 3) ls (.int r :: rest))) : W p l e R s m args below meth c H locs cells slots Q (F0 m pc ls (.int a1 :: .int a0 :: .ref (ad 8) :: rest)) := by
  have hta := X.2.2.2.2
  exact x_afterI (va_runV (As := [.int a0, .int a1]) (rest := rest) X (c_Selector_selected hD hc) ⟨callB_of 2 hta (good_all (L := .code y_Selector_selected prog_10_method_9_code 5 (some .int) :: ALLW) (List.forall_mem_cons.mpr ⟨wm_607, fun _ h => h⟩)) rfl rfl rfl (hta _ wm_9) (hta _ wm_604) (by decide +kernel) hR, hta _ wm_605, hta _ wm_606⟩ ⟨x_blind Kk_w _, va_recv hkk.1 hP (ci := 8) (q0 := 8) rfl c_c8, x_pre Kk_w hkk hP _⟩ rfl rfl hsz rfl (lv_room hrest) hdg hcs) hS kk
set_option maxHeartbeats 4000000 in
set_option maxRecDepth 100000 in
theorem c_LinkAudit_select {l : Launch} {D : va_G} {cI cL cG cZ : ClassId} {ad : Nat → Nat} {M M' : Mem} {a1 : Int32} {a2 : Int32} {r : Int32} (hD : ∀ M, va_D (c_A ad) (c_ws cI cL cG cZ ad M)) (hf : f_LinkAudit_select M a1 a2 = some (r, M')) : Mi l y_LinkAudit_select (.code y_LinkAudit_select prog_1_method_11_code 3 (some .int) :: ALLW) (rmR 86 2292) (Kk D cI cL cG cZ) D vwC (c_A ad) (c_ws cI cL cG cZ ad) [.ref (ad 0), .int a1, .int a2] M M' r := by
  refine Mi_of (by decide) (Nat.le_of_ble_eq_true rfl) ?_
  intro p e s m args below meth c ls Q X hkk hret hP hl
  obtain ⟨hx, hb, hml, hown, hta⟩ := id X
  have hKv := hkk.1
  have hS : va_S (c_A ad) s.heap s.heap [] := va_S.rf
  have hl : lv_has ls 3 [(0, .ref (ad 0)), (1, .int a1), (2, .int a2)] := hl
  unfold f_LinkAudit_select at hf
  refine lv_aload_n hx hb d_LinkAudit_select_0 rfl (lv_at hl 0 rfl) ?_
  refine lv_iload_n hx hb d_LinkAudit_select_1 rfl (lv_at hl 1 rfl) ?_
  obtain ⟨r6, hc1, hf⟩ := bd1_e hf
  refine xvc_LinkAudit_123 X hkk hD (Nat.le_of_ble_eq_true rfl) ⟨by dsimp only [rmR]; omega, by dsimp only [rmR]; omega⟩ ⟨Nat.zero_le _, Nat.zero_le _⟩ hc1 hl.1 hP hS d_LinkAudit_select_2 (fun H locs hP hS => ?_)
  refine lv_if_eq (tgt := 16) hx hb d_LinkAudit_select_5 (by decide) (fun c2 => ?_) (fun c2 => ?_)
  · have hf := ifp c2 hf
    refine lv_iconst (v := (-1 : Int32)) hx hb d_LinkAudit_select_16 (by decide) ?_
    exact hret hf hP hS d_LinkAudit_select_17
  · have hf := ifn c2 hf
    refine lv_aload_n hx hb d_LinkAudit_select_8 rfl (lv_at hl 0 rfl) ?_
    refine lv_iload_n hx hb d_LinkAudit_select_9 rfl (lv_at hl 2 rfl) ?_
    obtain ⟨r7, hc3, hf⟩ := bd1_e hf
    refine xvc_LinkAudit_154 X hkk hD (Nat.le_of_ble_eq_true rfl) ⟨by dsimp only [rmR]; omega, by dsimp only [rmR]; omega⟩ ⟨Nat.zero_le _, Nat.zero_le _⟩ hc3 hl.1 hP hS d_LinkAudit_select_10 (fun H locs hP hS => ?_)
    refine lv_if_ne (tgt := 18) hx hb d_LinkAudit_select_13 (by decide) (fun c4 => ?_) (fun c4 => ?_)
    · have hf := ifn c4 hf
      refine lv_aload_n hx hb d_LinkAudit_select_18 rfl (lv_at hl 0 rfl) ?_
      obtain ⟨M8, hc5, hf⟩ := bd1_e hf
      refine xvc_LinkAudit_144 X hkk hD (Nat.le_of_ble_eq_true rfl) ⟨by dsimp only [rmR]; omega, by dsimp only [rmR]; omega⟩ ⟨Nat.zero_le _, Nat.zero_le _⟩ hc5 hl.1 hP hS d_LinkAudit_select_19 (fun H locs hP hS => ?_)
      refine lv_aload_n hx hb d_LinkAudit_select_22 rfl (lv_at hl 0 rfl) ?_
      refine xg_LinkAudit_65 hx hb hta hown hKv hP d_LinkAudit_select_23 ?_
      refine lv_iload_n hx hb d_LinkAudit_select_26 rfl (lv_at hl 1 rfl) ?_
      refine lv_iload_n hx hb d_LinkAudit_select_27 rfl (lv_at hl 2 rfl) ?_
      obtain ⟨r9, hc6, hf⟩ := bd1_e hf
      refine xvc_LinkAudit_157 X hkk hD (Nat.le_of_ble_eq_true rfl) ⟨by dsimp only [rmR]; omega, by dsimp only [rmR]; omega⟩ ⟨Nat.zero_le _, Nat.zero_le _⟩ hc6 hl.1 hP hS d_LinkAudit_select_28 (fun H locs hP hS => ?_)
      refine lv_if_eq (tgt := 46) hx hb d_LinkAudit_select_31 (by decide) (fun c7 => ?_) (fun c7 => ?_)
      · have hf := ifp c7 hf
        refine lv_iconst (v := (-1 : Int32)) hx hb d_LinkAudit_select_46 (by decide) ?_
        exact hret hf hP hS d_LinkAudit_select_47
      · have hf := ifn c7 hf
        refine lv_aload_n hx hb d_LinkAudit_select_34 rfl (lv_at hl 0 rfl) ?_
        refine xg_LinkAudit_65 hx hb hta hown hKv hP d_LinkAudit_select_35 ?_
        refine lv_iload_n hx hb d_LinkAudit_select_38 rfl (lv_at hl 1 rfl) ?_
        refine lv_iload_n hx hb d_LinkAudit_select_39 rfl (lv_at hl 2 rfl) ?_
        obtain ⟨r10, hc8, hf⟩ := bd1_e hf
        refine xvc_LinkAudit_160 X hkk hD (Nat.le_of_ble_eq_true rfl) ⟨by dsimp only [rmR]; omega, by dsimp only [rmR]; omega⟩ ⟨Nat.zero_le _, Nat.zero_le _⟩ hc8 hl.1 hP hS d_LinkAudit_select_40 (fun H locs hP hS => ?_)
        refine lv_goto (tgt := 47) hx hb d_LinkAudit_select_43 (by decide) ?_
        exact hret hf hP hS d_LinkAudit_select_47
    · have hf := ifp c4 hf
      refine lv_iconst (v := (-1 : Int32)) hx hb d_LinkAudit_select_16 (by decide) ?_
      exact hret hf hP hS d_LinkAudit_select_17
