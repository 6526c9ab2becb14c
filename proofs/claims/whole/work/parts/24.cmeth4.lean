-- LinkAudit$Selector.renew
theorem xg_Selector_46 {p : Program} {l : Launch} {e : Env} {R : Room} {s : State} {m : MethodId} {args : Array Value} {below : List Frame} {meth : Method} {c : Code} {H : Heap} {locs : List Loc} {cells slots : Nat} {Q : State → Prop} {cc : ByteArray} {pc : Nat} {ls : Array Slot} {rest : List Value} {D : va_G} {cI cL cG cZ : ClassId} {ad : Nat → Nat} {M : Mem} (hx : p.tables.exec = Jvm.exec) (hb : c.code = cc) (hta : ∀ w ∈ ALLW, w.before args s = true) (hown : s.vm.findClass "LinkAudit$Selector" = some m.cls) (hK : va_K D vwC [(cI, .int), (cL, .long), (cG, .array .int), (cZ, .boolean)] s) (hP : va_P D vwC (c_ws cI cL cG cZ ad M) H) (hdg : decode cc pc = .ok (.getfield 46, 3))
    (kk : W p l e R s m args below meth c H locs cells slots Q (F0 m (pc + 3) ls (.int (M.1 3 6) :: rest))) : W p l e R s m args below meth c H locs cells slots Q (F0 m pc ls (.ref (ad 3) :: rest)) :=
  va_get (D := D) (ci := 3) (v := .int (M.1 3 6)) (C := "LinkAudit$Members") (T := T_Members) (N := 7) hx hb hta i_Members hown hK hP 3 c_c3 rfl 6 (by decide) (hta _ wm_108) (fun _ h9 => h9) rfl hdg kk
theorem xvc_Selector_62 {p : Program} {l : Launch} {e : Env} {R : Room} {s : State} {m : MethodId} {args : Array Value} {below : List Frame} {meth : Method} {c : Code} {H : Heap} {locs : List Loc} {cells slots : Nat} {Q : State → Prop} {cc : ByteArray} {pc : Nat} {ls : Array Slot} {rest : List Value} {D : va_G} {cI cL cG cZ : ClassId} {ad : Nat → Nat} {M : Mem} {H0 : Heap} {nL : Nat} {a0 : Int32} {a1 : Int32} {r : Int64} (X : CallFix p m c cc nL s args ALLW "LinkAudit$Selector") (hkk : Kk D cI cL cG cZ s) (hD : ∀ M, va_D (c_A ad) (c_ws cI cL cG cZ ad M)) (hrest : (rest.map fun v => v.category).sum ≤ 8) (hR : 2 + 1 ≤ R.frames ∧ 8 + (13 + 11) + 45 ≤ R.locals) (hcs : cells + 0 ≤ R.cells ∧ slots + 0 ≤ R.slots) (hc : f_Selector_coveredFrom M a0 a1 = some r) (hsz : ls.size = nL) (hP : va_P D vwC (c_ws cI cL cG cZ ad M) H) (hS : va_S (c_A ad) H0 H locs) (hdg : decode cc pc = .ok (.invokevirtual 62, 3))
    (kk : ∀ (H1 : Heap) (locs1 : List Loc), va_P D vwC (c_ws cI cL cG cZ ad M) H1 → va_S (c_A ad) H0 H1 locs1 → W p l e R s m args below meth c H1 locs1 cells slots Q (F0 m (pc + 3) ls (.long r :: rest))) : W p l e R s m args below meth c H locs cells slots Q (F0 m pc ls (.int a1 :: .int a0 :: .ref (ad 8) :: rest)) := by
  have hta := X.2.2.2.2
  exact x_afterL (va_runV (As := [.int a0, .int a1]) (rest := rest) X (c_Selector_coveredFrom hD hc) ⟨callB_of 2 hta (good_all (L := .code y_Selector_coveredFrom prog_10_method_3_code 13 (some .long) :: ALLW) (List.forall_mem_cons.mpr ⟨wm_495, fun _ h => h⟩)) rfl rfl rfl (hta _ wm_9) (hta _ wm_492) (by decide +kernel) hR, hta _ wm_494, hta _ wp_8⟩ ⟨x_blind Kk_w _, va_recv hkk.1 hP (ci := 8) (q0 := 8) rfl c_c8, x_pre Kk_w hkk hP _⟩ rfl rfl hsz rfl (lv_room hrest) hdg hcs) hS kk
theorem xg_Selector_38 {p : Program} {l : Launch} {e : Env} {R : Room} {s : State} {m : MethodId} {args : Array Value} {below : List Frame} {meth : Method} {c : Code} {H : Heap} {locs : List Loc} {cells slots : Nat} {Q : State → Prop} {cc : ByteArray} {pc : Nat} {ls : Array Slot} {rest : List Value} {D : va_G} {cI cL cG cZ : ClassId} {ad : Nat → Nat} {M : Mem} (hx : p.tables.exec = Jvm.exec) (hb : c.code = cc) (hta : ∀ w ∈ ALLW, w.before args s = true) (hown : s.vm.findClass "LinkAudit$Selector" = some m.cls) (hK : va_K D vwC [(cI, .int), (cL, .long), (cG, .array .int), (cZ, .boolean)] s) (hP : va_P D vwC (c_ws cI cL cG cZ ad M) H) (hdg : decode cc pc = .ok (.getfield 38, 3))
    (kk : W p l e R s m args below meth c H locs cells slots Q (F0 m (pc + 3) ls (.int (M.1 5 8) :: rest))) : W p l e R s m args below meth c H locs cells slots Q (F0 m pc ls (.ref (ad 5) :: rest)) :=
  va_get (D := D) (ci := 5) (v := .int (M.1 5 8)) (C := "LinkAudit$Links") (T := T_Links) (N := 9) hx hb hta i_Links hown hK hP 5 c_c5 rfl 8 (by decide) (hta _ wm_184) (fun _ h9 => h9) rfl hdg kk
theorem xg_Selector_42 {p : Program} {l : Launch} {e : Env} {R : Room} {s : State} {m : MethodId} {args : Array Value} {below : List Frame} {meth : Method} {c : Code} {H : Heap} {locs : List Loc} {cells slots : Nat} {Q : State → Prop} {cc : ByteArray} {pc : Nat} {ls : Array Slot} {rest : List Value} {D : va_G} {cI cL cG cZ : ClassId} {ad : Nat → Nat} {M : Mem} (hx : p.tables.exec = Jvm.exec) (hb : c.code = cc) (hta : ∀ w ∈ ALLW, w.before args s = true) (hown : s.vm.findClass "LinkAudit$Selector" = some m.cls) (hK : va_K D vwC [(cI, .int), (cL, .long), (cG, .array .int), (cZ, .boolean)] s) (hP : va_P D vwC (c_ws cI cL cG cZ ad M) H) (hdg : decode cc pc = .ok (.getfield 42, 3))
    (kk : W p l e R s m args below meth c H locs cells slots Q (F0 m (pc + 3) ls (.ref (ad 59) :: rest))) : W p l e R s m args below meth c H locs cells slots Q (F0 m pc ls (.ref (ad 5) :: rest)) :=
  va_get (D := D) (ci := 5) (v := .ref (ad 59)) (C := "LinkAudit$Links") (T := T_Links) (N := 9) hx hb hta i_Links hown hK hP 5 c_c5 rfl 7 (by decide) (hta _ wm_182) (fun _ h9 => h9) rfl hdg kk
set_option maxHeartbeats 4000000 in
set_option maxRecDepth 100000 in
theorem c_Selector_renew {l : Launch} {D : va_G} {cI cL cG cZ : ClassId} {ad : Nat → Nat} {M M' : Mem}  (hD : ∀ M, va_D (c_A ad) (c_ws cI cL cG cZ ad M)) (hf : f_Selector_renew M = some M') : Mv l y_Selector_renew (.code y_Selector_renew prog_10_method_2_code 4 none :: ALLW) (rmR 3 77) (Kk D cI cL cG cZ) D vwC (c_A ad) (c_ws cI cL cG cZ ad) [.ref (ad 8)] M M' := by
  refine Mv_of (by decide) (Nat.le_of_ble_eq_true rfl) ?_
  intro p e s m args below meth c ls Q X hkk hret hP hl
  obtain ⟨hx, hb, hml, hown, hta⟩ := id X
  have hKv := hkk.1
  have hS : va_S (c_A ad) s.heap s.heap [] := va_S.rf
  have hl : lv_has ls 4 [(0, .ref (ad 8))] := hl
  have L2 : ∀ (ke87 : Mem → Option Mem), ke87 = (fun M6 => some M6) → ∀ (n2 : Nat) (x1 : Int32) (M : Mem) (H : Heap) (locs : List Loc) (ls : Array Slot), f_Selector_renew_L2 ke87 n2 x1 M = some M' → va_P D vwC (c_ws cI cL cG cZ ad M) H → va_S (c_A ad) s.heap H locs → lv_has ls 4 [(0, .ref (ad 8)), (1, .int x1)] → W p l e (rmR 3 77) s m args below meth c H locs 0 0 Q (F0 m 2 ls []) := by
    intro ke87 hke87 n2
    induction n2 with
    | zero => intro x1 M H locs ls hf; exact absurd (show (none : Option _) = some _ from hf) (fun q => by cases q)
    | succ n2 ih2 =>
      intro x1 M H locs ls hf hP hS hl
      rw [f_Selector_renew_L2] at hf
      have L25 : ∀ (x1 : Int32) (x2 : Int32), ∀ (ke81 : Mem → Option Mem), ke81 = (fun M7 => f_Selector_renew_L2 ke87 n2 (x1 + (1 : Int32)) M7) → ∀ (n25 : Nat) (x3 : Int32) (M : Mem) (H : Heap) (locs : List Loc) (ls : Array Slot), f_Selector_renew_L25 x1 x2 ke81 n25 x3 M = some M' → va_P D vwC (c_ws cI cL cG cZ ad M) H → va_S (c_A ad) s.heap H locs → lv_has ls 4 [(0, .ref (ad 8)), (1, .int x1), (2, .int x2), (3, .int x3)] → W p l e (rmR 3 77) s m args below meth c H locs 0 0 Q (F0 m 25 ls []) := by
        intro x1 x2 ke81 hke81 n25
        induction n25 with
        | zero => intro x3 M H locs ls hf; exact absurd (show (none : Option _) = some _ from hf) (fun q => by cases q)
        | succ n25 ih25 =>
          intro x3 M H locs ls hf hP hS hl
          rw [f_Selector_renew_L25] at hf
          refine lv_iload_n hx hb d_Selector_renew_25 rfl (lv_at hl 3 rfl) ?_
          refine lv_aload_n hx hb d_Selector_renew_26 rfl (lv_at hl 0 rfl) ?_
          refine xg_Selector_33 hx hb hta hown hKv hP d_Selector_renew_27 ?_
          refine xg_Selector_46 hx hb hta hown hKv hP d_Selector_renew_30 ?_
          refine lv_icmp_gt (tgt := 81) hx hb d_Selector_renew_33 (by decide) (fun c1 => ?_) (fun c1 => ?_)
          · have hf := ifp c1 hf
            rw [hke81] at hf
            refine lv_iinc (v := (x1 + (1 : Int32))) (lv' := [(1, .int (x1 + (1 : Int32))), (0, .ref (ad 8)), (2, .int x2), (3, .int x3)]) hx hb d_Selector_renew_81 hl (k := 1) rfl rfl (by decide) rfl (fun ls hl => ?_)
            refine lv_goto (tgt := 2) hx hb d_Selector_renew_84 (by decide) ?_
            exact ih2 (x1 + (1 : Int32)) M _ _ _ hf hP hS (lv_sub hl [1, 0] rfl)
          · have hf := ifn c1 hf
            refine lv_aload_n hx hb d_Selector_renew_36 rfl (lv_at hl 0 rfl) ?_
            refine xg_Selector_33 hx hb hta hown hKv hP d_Selector_renew_37 ?_
            refine xg_Selector_51 hx hb hta hown hKv hP d_Selector_renew_40 ?_
            refine lv_iload_n hx hb d_Selector_renew_43 rfl (lv_at hl 3 rfl) ?_
            obtain ⟨g2, hf⟩ := gd_ok hf
            refine x_ild hx hb hKv hP c_c29 g2 d_Selector_renew_44 ?_
            refine lv_iload_n hx hb d_Selector_renew_45 rfl (lv_at hl 2 rfl) ?_
            refine lv_icmp_ne (tgt := 75) hx hb d_Selector_renew_46 (by decide) (fun c3 => ?_) (fun c3 => ?_)
            · have hf := ifn c3 hf
              refine lv_iinc (v := (x3 + (1 : Int32))) (lv' := [(3, .int (x3 + (1 : Int32))), (0, .ref (ad 8)), (1, .int x1), (2, .int x2)]) hx hb d_Selector_renew_75 hl (k := 3) rfl rfl (by decide) rfl (fun ls hl => ?_)
              refine lv_goto (tgt := 25) hx hb d_Selector_renew_78 (by decide) ?_
              exact ih25 (x3 + (1 : Int32)) M _ _ _ hf hP hS (lv_sub hl [1, 2, 3, 0] rfl)
            · have hf := ifp c3 hf
              refine lv_aload_n hx hb d_Selector_renew_49 rfl (lv_at hl 0 rfl) ?_
              refine xg_Selector_33 hx hb hta hown hKv hP d_Selector_renew_50 ?_
              refine xg_Selector_54 hx hb hta hown hKv hP d_Selector_renew_53 ?_
              refine lv_iload_n hx hb d_Selector_renew_56 rfl (lv_at hl 3 rfl) ?_
              obtain ⟨r8, hc4, hf⟩ := bd1_e hf
              refine xvc_Selector_58 X hkk hD (Nat.le_of_ble_eq_true rfl) ⟨by dsimp only [rmR]; omega, by dsimp only [rmR]; omega⟩ ⟨Nat.zero_le _, Nat.zero_le _⟩ hc4 hl.1 hP hS d_Selector_renew_57 (fun H locs hP hS => ?_)
              refine lv_if_eq (tgt := 75) hx hb d_Selector_renew_60 (by decide) (fun c5 => ?_) (fun c5 => ?_)
              · have hf := ifp c5 hf
                refine lv_iinc (v := (x3 + (1 : Int32))) (lv' := [(3, .int (x3 + (1 : Int32))), (0, .ref (ad 8)), (1, .int x1), (2, .int x2)]) hx hb d_Selector_renew_75 hl (k := 3) rfl rfl (by decide) rfl (fun ls hl => ?_)
                refine lv_goto (tgt := 25) hx hb d_Selector_renew_78 (by decide) ?_
                exact ih25 (x3 + (1 : Int32)) M _ _ _ hf hP hS (lv_sub hl [1, 2, 3, 0] rfl)
              · have hf := ifn c5 hf
                refine lv_aload_n hx hb d_Selector_renew_63 rfl (lv_at hl 0 rfl) ?_
                refine xg_Selector_9 hx hb hta hown hKv hP d_Selector_renew_64 ?_
                refine lv_iload_n hx hb d_Selector_renew_67 rfl (lv_at hl 3 rfl) ?_
                refine lv_aload_n hx hb d_Selector_renew_68 rfl (lv_at hl 0 rfl) ?_
                refine lv_iload_n hx hb d_Selector_renew_69 rfl (lv_at hl 2 rfl) ?_
                refine lv_iload_n hx hb d_Selector_renew_70 rfl (lv_at hl 3 rfl) ?_
                obtain ⟨r9, hc6, hf⟩ := bd1_e hf
                refine xvc_Selector_62 X hkk hD (Nat.le_of_ble_eq_true rfl) ⟨by dsimp only [rmR]; omega, by dsimp only [rmR]; omega⟩ ⟨Nat.zero_le _, Nat.zero_le _⟩ hc6 hl.1 hP hS d_Selector_renew_71 (fun H locs hP hS => ?_)
                obtain ⟨g7, hf⟩ := gd_ok hf
                obtain ⟨M10, eM10, hf⟩ := sm_e hf
                refine x_lst hx hb hKv hP (hD _) hS c_c60 c_s60 g7 eM10 d_Selector_renew_74 (fun H locs hP hS => ?_)
                refine lv_iinc (v := (x3 + (1 : Int32))) (lv' := [(3, .int (x3 + (1 : Int32))), (0, .ref (ad 8)), (1, .int x1), (2, .int x2)]) hx hb d_Selector_renew_75 hl (k := 3) rfl rfl (by decide) rfl (fun ls hl => ?_)
                refine lv_goto (tgt := 25) hx hb d_Selector_renew_78 (by decide) ?_
                exact ih25 (x3 + (1 : Int32)) M10 _ _ _ hf hP hS (lv_sub hl [1, 2, 3, 0] rfl)
      refine lv_iload_n hx hb d_Selector_renew_2 rfl (lv_at hl 1 rfl) ?_
      refine lv_aload_n hx hb d_Selector_renew_3 rfl (lv_at hl 0 rfl) ?_
      refine xg_Selector_21 hx hb hta hown hKv hP d_Selector_renew_4 ?_
      refine xg_Selector_38 hx hb hta hown hKv hP d_Selector_renew_7 ?_
      refine lv_icmp_ge (tgt := 87) hx hb d_Selector_renew_10 (by decide) (fun c8 => ?_) (fun c8 => ?_)
      · have hf := ifp c8 hf
        rw [hke87] at hf
        exact hret hf hP hS d_Selector_renew_87
      · have hf := ifn c8 hf
        refine lv_aload_n hx hb d_Selector_renew_13 rfl (lv_at hl 0 rfl) ?_
        refine xg_Selector_21 hx hb hta hown hKv hP d_Selector_renew_14 ?_
        refine xg_Selector_42 hx hb hta hown hKv hP d_Selector_renew_17 ?_
        refine lv_iload_n hx hb d_Selector_renew_20 rfl (lv_at hl 1 rfl) ?_
        obtain ⟨g9, hf⟩ := gd_ok hf
        refine x_ild hx hb hKv hP c_c59 g9 d_Selector_renew_21 ?_
        refine lv_istore_n (lv' := [(2, .int (M.1 59 x1.toNatClampNeg)), (0, .ref (ad 8)), (1, .int x1)]) hx hb d_Selector_renew_22 rfl hl (by decide) rfl (fun ls hl => ?_)
        refine lv_iconst (v := (1 : Int32)) hx hb d_Selector_renew_23 (by decide) ?_
        refine lv_istore_n (lv' := [(3, .int (1 : Int32)), (2, .int (M.1 59 x1.toNatClampNeg)), (0, .ref (ad 8)), (1, .int x1)]) hx hb d_Selector_renew_24 rfl hl (by decide) rfl (fun ls hl => ?_)
        exact L25 x1 (M.1 59 x1.toNatClampNeg) _ rfl FU (1 : Int32) M _ _ _ hf hP hS (lv_sub hl [2, 3, 1, 0] rfl)
  unfold f_Selector_renew at hf
  refine lv_iconst (v := (0 : Int32)) hx hb d_Selector_renew_0 (by decide) ?_
  refine lv_istore_n (lv' := [(1, .int (0 : Int32)), (0, .ref (ad 8))]) hx hb d_Selector_renew_1 rfl hl (by decide) rfl (fun ls hl => ?_)
  exact L2  _ rfl FU (0 : Int32) M _ _ _ hf hP hS (lv_sub hl [1, 0] rfl)
-- LinkAudit.link
theorem xg_LinkAudit_78 {p : Program} {l : Launch} {e : Env} {R : Room} {s : State} {m : MethodId} {args : Array Value} {below : List Frame} {meth : Method} {c : Code} {H : Heap} {locs : List Loc} {cells slots : Nat} {Q : State → Prop} {cc : ByteArray} {pc : Nat} {ls : Array Slot} {rest : List Value} {D : va_G} {cI cL cG cZ : ClassId} {ad : Nat → Nat} {M : Mem} (hx : p.tables.exec = Jvm.exec) (hb : c.code = cc) (hta : ∀ w ∈ ALLW, w.before args s = true) (hown : s.vm.findClass "LinkAudit" = some m.cls) (hK : va_K D vwC [(cI, .int), (cL, .long), (cG, .array .int), (cZ, .boolean)] s) (hP : va_P D vwC (c_ws cI cL cG cZ ad M) H) (hdg : decode cc pc = .ok (.getfield 78, 3))
    (kk : W p l e R s m args below meth c H locs cells slots Q (F0 m (pc + 3) ls (.int (M.1 0 8) :: rest))) : W p l e R s m args below meth c H locs cells slots Q (F0 m pc ls (.ref (ad 0) :: rest)) :=
  va_get (D := D) (ci := 0) (v := .int (M.1 0 8)) (C := "LinkAudit") (T := T_LinkAudit) (N := 10) hx hb hta i_LinkAudit hown hK hP 0 c_c0 rfl 8 (by decide) (hta _ wm_306) (fun _ h9 => h9) rfl hdg kk
theorem xg_LinkAudit_42 {p : Program} {l : Launch} {e : Env} {R : Room} {s : State} {m : MethodId} {args : Array Value} {below : List Frame} {meth : Method} {c : Code} {H : Heap} {locs : List Loc} {cells slots : Nat} {Q : State → Prop} {cc : ByteArray} {pc : Nat} {ls : Array Slot} {rest : List Value} {D : va_G} {cI cL cG cZ : ClassId} {ad : Nat → Nat} {M : Mem} (hx : p.tables.exec = Jvm.exec) (hb : c.code = cc) (hta : ∀ w ∈ ALLW, w.before args s = true) (hown : s.vm.findClass "LinkAudit" = some m.cls) (hK : va_K D vwC [(cI, .int), (cL, .long), (cG, .array .int), (cZ, .boolean)] s) (hP : va_P D vwC (c_ws cI cL cG cZ ad M) H) (hdg : decode cc pc = .ok (.getfield 42, 3))
    (kk : W p l e R s m args below meth c H locs cells slots Q (F0 m (pc + 3) ls (.ref (ad 5) :: rest))) : W p l e R s m args below meth c H locs cells slots Q (F0 m pc ls (.ref (ad 0) :: rest)) :=
  va_get (D := D) (ci := 0) (v := .ref (ad 5)) (C := "LinkAudit") (T := T_LinkAudit) (N := 10) hx hb hta i_LinkAudit hown hK hP 0 c_c0 rfl 4 (by decide) (hta _ wm_302) (fun _ h9 => h9) rfl hdg kk
theorem xvc_LinkAudit_204 {p : Program} {l : Launch} {e : Env} {R : Room} {s : State} {m : MethodId} {args : Array Value} {below : List Frame} {meth : Method} {c : Code} {H : Heap} {locs : List Loc} {cells slots : Nat} {Q : State → Prop} {cc : ByteArray} {pc : Nat} {ls : Array Slot} {rest : List Value} {D : va_G} {cI cL cG cZ : ClassId} {ad : Nat → Nat} {M : Mem} {H0 : Heap} {M1 : Mem} {nL : Nat}  (X : CallFix p m c cc nL s args ALLW "LinkAudit") (hkk : Kk D cI cL cG cZ s) (hD : ∀ M, va_D (c_A ad) (c_ws cI cL cG cZ ad M)) (hrest : (rest.map fun v => v.category).sum ≤ 8) (hR : 84 + 1 ≤ R.frames ∧ 8 + (2 + 11) + 2251 ≤ R.locals) (hcs : cells + 0 ≤ R.cells ∧ slots + 0 ≤ R.slots) (hc : f_Links_renew M = some M1) (hsz : ls.size = nL) (hP : va_P D vwC (c_ws cI cL cG cZ ad M) H) (hS : va_S (c_A ad) H0 H locs) (hdg : decode cc pc = .ok (.invokevirtual 204, 3))
    (kk : ∀ (H1 : Heap) (locs1 : List Loc), va_P D vwC (c_ws cI cL cG cZ ad M1) H1 → va_S (c_A ad) H0 H1 locs1 → W p l e R s m args below meth c H1 locs1 cells slots Q (F0 m (pc + 3) ls (rest))) : W p l e R s m args below meth c H locs cells slots Q (F0 m pc ls (.ref (ad 5) :: rest)) := by
  have hta := X.2.2.2.2
  exact x_afterV (va_runV (As := []) (rest := rest) X (c_Links_renew hD hc) ⟨callB_of 0 hta (good_all (L := .code y_Links_renew prog_5_method_2_code 2 none :: ALLW) (List.forall_mem_cons.mpr ⟨wm_445, fun _ h => h⟩)) rfl rfl rfl (hta _ wm_6) (hta _ wm_442) (by decide +kernel) hR, hta _ wm_443, hta _ wm_444⟩ ⟨x_blind Kk_w _, va_recv hkk.1 hP (ci := 5) (q0 := 5) rfl c_c5, x_pre Kk_w hkk hP _⟩ rfl rfl hsz rfl (lv_room hrest) hdg hcs) hS kk
theorem xg_LinkAudit_65 {p : Program} {l : Launch} {e : Env} {R : Room} {s : State} {m : MethodId} {args : Array Value} {below : List Frame} {meth : Method} {c : Code} {H : Heap} {locs : List Loc} {cells slots : Nat} {Q : State → Prop} {cc : ByteArray} {pc : Nat} {ls : Array Slot} {rest : List Value} {D : va_G} {cI cL cG cZ : ClassId} {ad : Nat → Nat} {M : Mem} (hx : p.tables.exec = Jvm.exec) (hb : c.code = cc) (hta : ∀ w ∈ ALLW, w.before args s = true) (hown : s.vm.findClass "LinkAudit" = some m.cls) (hK : va_K D vwC [(cI, .int), (cL, .long), (cG, .array .int), (cZ, .boolean)] s) (hP : va_P D vwC (c_ws cI cL cG cZ ad M) H) (hdg : decode cc pc = .ok (.getfield 65, 3))
    (kk : W p l e R s m args below meth c H locs cells slots Q (F0 m (pc + 3) ls (.ref (ad 8) :: rest))) : W p l e R s m args below meth c H locs cells slots Q (F0 m pc ls (.ref (ad 0) :: rest)) :=
  va_get (D := D) (ci := 0) (v := .ref (ad 8)) (C := "LinkAudit") (T := T_LinkAudit) (N := 10) hx hb hta i_LinkAudit hown hK hP 0 c_c0 rfl 6 (by decide) (hta _ wm_304) (fun _ h9 => h9) rfl hdg kk
theorem xvc_LinkAudit_207 {p : Program} {l : Launch} {e : Env} {R : Room} {s : State} {m : MethodId} {args : Array Value} {below : List Frame} {meth : Method} {c : Code} {H : Heap} {locs : List Loc} {cells slots : Nat} {Q : State → Prop} {cc : ByteArray} {pc : Nat} {ls : Array Slot} {rest : List Value} {D : va_G} {cI cL cG cZ : ClassId} {ad : Nat → Nat} {M : Mem} {H0 : Heap} {M1 : Mem} {nL : Nat}  (X : CallFix p m c cc nL s args ALLW "LinkAudit") (hkk : Kk D cI cL cG cZ s) (hD : ∀ M, va_D (c_A ad) (c_ws cI cL cG cZ ad M)) (hrest : (rest.map fun v => v.category).sum ≤ 8) (hR : 3 + 1 ≤ R.frames ∧ 8 + (4 + 11) + 77 ≤ R.locals) (hcs : cells + 0 ≤ R.cells ∧ slots + 0 ≤ R.slots) (hc : f_Selector_renew M = some M1) (hsz : ls.size = nL) (hP : va_P D vwC (c_ws cI cL cG cZ ad M) H) (hS : va_S (c_A ad) H0 H locs) (hdg : decode cc pc = .ok (.invokevirtual 207, 3))
    (kk : ∀ (H1 : Heap) (locs1 : List Loc), va_P D vwC (c_ws cI cL cG cZ ad M1) H1 → va_S (c_A ad) H0 H1 locs1 → W p l e R s m args below meth c H1 locs1 cells slots Q (F0 m (pc + 3) ls (rest))) : W p l e R s m args below meth c H locs cells slots Q (F0 m pc ls (.ref (ad 8) :: rest)) := by
  have hta := X.2.2.2.2
  exact x_afterV (va_runV (As := []) (rest := rest) X (c_Selector_renew hD hc) ⟨callB_of 0 hta (good_all (L := .code y_Selector_renew prog_10_method_2_code 4 none :: ALLW) (List.forall_mem_cons.mpr ⟨wm_490, fun _ h => h⟩)) rfl rfl rfl (hta _ wm_9) (hta _ wm_487) (by decide +kernel) hR, hta _ wm_488, hta _ wm_489⟩ ⟨x_blind Kk_w _, va_recv hkk.1 hP (ci := 8) (q0 := 8) rfl c_c8, x_pre Kk_w hkk hP _⟩ rfl rfl hsz rfl (lv_room hrest) hdg hcs) hS kk
set_option maxHeartbeats 4000000 in
set_option maxRecDepth 100000 in
theorem c_LinkAudit_link {l : Launch} {D : va_G} {cI cL cG cZ : ClassId} {ad : Nat → Nat} {M M' : Mem}  (hD : ∀ M, va_D (c_A ad) (c_ws cI cL cG cZ ad M)) (hf : f_LinkAudit_link M = some M') : Mv l y_LinkAudit_link (.code y_LinkAudit_link prog_1_method_26_code 1 none :: ALLW) (rmR 85 2272) (Kk D cI cL cG cZ) D vwC (c_A ad) (c_ws cI cL cG cZ ad) [.ref (ad 0)] M M' := by
  refine Mv_of (by decide) (Nat.le_of_ble_eq_true rfl) ?_
  intro p e s m args below meth c ls Q X hkk hret hP hl
  obtain ⟨hx, hb, hml, hown, hta⟩ := id X
  have hKv := hkk.1
  have hS : va_S (c_A ad) s.heap s.heap [] := va_S.rf
  have hl : lv_has ls 1 [(0, .ref (ad 0))] := hl
  unfold f_LinkAudit_link at hf
  refine lv_aload_n hx hb d_LinkAudit_link_0 rfl (lv_at hl 0 rfl) ?_
  refine xg_LinkAudit_78 hx hb hta hown hKv hP d_LinkAudit_link_1 ?_
  refine lv_if_ne (tgt := 26) hx hb d_LinkAudit_link_4 (by decide) (fun c1 => ?_) (fun c1 => ?_)
  · have hf := ifn c1 hf
    exact hret hf hP hS d_LinkAudit_link_26
  · have hf := ifp c1 hf
    refine lv_aload_n hx hb d_LinkAudit_link_7 rfl (lv_at hl 0 rfl) ?_
    refine xg_LinkAudit_42 hx hb hta hown hKv hP d_LinkAudit_link_8 ?_
    obtain ⟨M4, hc2, hf⟩ := bd1_e hf
    refine xvc_LinkAudit_204 X hkk hD (Nat.le_of_ble_eq_true rfl) ⟨by dsimp only [rmR]; omega, by dsimp only [rmR]; omega⟩ ⟨Nat.zero_le _, Nat.zero_le _⟩ hc2 hl.1 hP hS d_LinkAudit_link_11 (fun H locs hP hS => ?_)
    refine lv_aload_n hx hb d_LinkAudit_link_14 rfl (lv_at hl 0 rfl) ?_
    refine xg_LinkAudit_65 hx hb hta hown hKv hP d_LinkAudit_link_15 ?_
    obtain ⟨M5, hc3, hf⟩ := bd1_e hf
    refine xvc_LinkAudit_207 X hkk hD (Nat.le_of_ble_eq_true rfl) ⟨by dsimp only [rmR]; omega, by dsimp only [rmR]; omega⟩ ⟨Nat.zero_le _, Nat.zero_le _⟩ hc3 hl.1 hP hS d_LinkAudit_link_18 (fun H locs hP hS => ?_)
    refine lv_aload_n hx hb d_LinkAudit_link_21 rfl (lv_at hl 0 rfl) ?_
    refine lv_iconst (v := (1 : Int32)) hx hb d_LinkAudit_link_22 (by decide) ?_
    obtain ⟨M6, eM6, hf⟩ := sm_e hf
    refine xp_LinkAudit_78 hx hb hta hown hKv hP (hD _) hS eM6 d_LinkAudit_link_23 (Or.inr rfl) (fun H locs hP hS => ?_)
    exact hret hf hP hS d_LinkAudit_link_26
-- LinkAudit.load
theorem xvc_LinkAudit_144 {p : Program} {l : Launch} {e : Env} {R : Room} {s : State} {m : MethodId} {args : Array Value} {below : List Frame} {meth : Method} {c : Code} {H : Heap} {locs : List Loc} {cells slots : Nat} {Q : State → Prop} {cc : ByteArray} {pc : Nat} {ls : Array Slot} {rest : List Value} {D : va_G} {cI cL cG cZ : ClassId} {ad : Nat → Nat} {M : Mem} {H0 : Heap} {M1 : Mem} {nL : Nat}  (X : CallFix p m c cc nL s args ALLW "LinkAudit") (hkk : Kk D cI cL cG cZ s) (hD : ∀ M, va_D (c_A ad) (c_ws cI cL cG cZ ad M)) (hrest : (rest.map fun v => v.category).sum ≤ 8) (hR : 85 + 1 ≤ R.frames ∧ 8 + (1 + 11) + 2272 ≤ R.locals) (hcs : cells + 0 ≤ R.cells ∧ slots + 0 ≤ R.slots) (hc : f_LinkAudit_link M = some M1) (hsz : ls.size = nL) (hP : va_P D vwC (c_ws cI cL cG cZ ad M) H) (hS : va_S (c_A ad) H0 H locs) (hdg : decode cc pc = .ok (.invokevirtual 144, 3))
    (kk : ∀ (H1 : Heap) (locs1 : List Loc), va_P D vwC (c_ws cI cL cG cZ ad M1) H1 → va_S (c_A ad) H0 H1 locs1 → W p l e R s m args below meth c H1 locs1 cells slots Q (F0 m (pc + 3) ls (rest))) : W p l e R s m args below meth c H locs cells slots Q (F0 m pc ls (.ref (ad 0) :: rest)) := by
  have hta := X.2.2.2.2
  exact x_afterV (va_runV (As := []) (rest := rest) X (c_LinkAudit_link hD hc) ⟨callB_of 0 hta (good_all (L := .code y_LinkAudit_link prog_1_method_26_code 1 none :: ALLW) (List.forall_mem_cons.mpr ⟨wm_441, fun _ h => h⟩)) rfl rfl rfl (hta _ wm_1) (hta _ wm_438) (by decide +kernel) hR, hta _ wm_440, hta _ wp_3⟩ ⟨x_blind Kk_w _, va_recv hkk.1 hP (ci := 0) (q0 := 0) rfl c_c0, x_pre Kk_w hkk hP _⟩ rfl rfl hsz rfl (lv_room hrest) hdg hcs) hS kk
theorem xg_LinkAudit_147 {p : Program} {l : Launch} {e : Env} {R : Room} {s : State} {m : MethodId} {args : Array Value} {below : List Frame} {meth : Method} {c : Code} {H : Heap} {locs : List Loc} {cells slots : Nat} {Q : State → Prop} {cc : ByteArray} {pc : Nat} {ls : Array Slot} {rest : List Value} {D : va_G} {cI cL cG cZ : ClassId} {ad : Nat → Nat} {M : Mem} (hx : p.tables.exec = Jvm.exec) (hb : c.code = cc) (hta : ∀ w ∈ ALLW, w.before args s = true) (hown : s.vm.findClass "LinkAudit" = some m.cls) (hK : va_K D vwC [(cI, .int), (cL, .long), (cG, .array .int), (cZ, .boolean)] s) (hP : va_P D vwC (c_ws cI cL cG cZ ad M) H) (hdg : decode cc pc = .ok (.getfield 147, 3))
    (kk : W p l e R s m args below meth c H locs cells slots Q (F0 m (pc + 3) ls (.ref (ad 37) :: rest))) : W p l e R s m args below meth c H locs cells slots Q (F0 m pc ls (.ref (ad 5) :: rest)) :=
  va_get (D := D) (ci := 5) (v := .ref (ad 37)) (C := "LinkAudit$Links") (T := T_Links) (N := 9) hx hb hta i_Links hown hK hP 5 c_c5 rfl 2 (by decide) (hta _ wm_171) (fun _ h9 => h9) rfl hdg kk
set_option maxHeartbeats 4000000 in
set_option maxRecDepth 100000 in
theorem c_LinkAudit_load {l : Launch} {D : va_G} {cI cL cG cZ : ClassId} {ad : Nat → Nat} {M M' : Mem} {a1 : Int32} {r : Int32} (hD : ∀ M, va_D (c_A ad) (c_ws cI cL cG cZ ad M)) (hf : f_LinkAudit_load M a1 = some (r, M')) : Mi l y_LinkAudit_load (.code y_LinkAudit_load prog_1_method_9_code 2 (some .int) :: ALLW) (rmR 86 2292) (Kk D cI cL cG cZ) D vwC (c_A ad) (c_ws cI cL cG cZ ad) [.ref (ad 0), .int a1] M M' r := by
  refine Mi_of (by decide) (Nat.le_of_ble_eq_true rfl) ?_
  intro p e s m args below meth c ls Q X hkk hret hP hl
  obtain ⟨hx, hb, hml, hown, hta⟩ := id X
  have hKv := hkk.1
  have hS : va_S (c_A ad) s.heap s.heap [] := va_S.rf
  have hl : lv_has ls 2 [(0, .ref (ad 0)), (1, .int a1)] := hl
  unfold f_LinkAudit_load at hf
  refine lv_aload_n hx hb d_LinkAudit_load_0 rfl (lv_at hl 0 rfl) ?_
  refine lv_iload_n hx hb d_LinkAudit_load_1 rfl (lv_at hl 1 rfl) ?_
  obtain ⟨r3, hc1, hf⟩ := bd1_e hf
  refine xvc_LinkAudit_123 X hkk hD (Nat.le_of_ble_eq_true rfl) ⟨by dsimp only [rmR]; omega, by dsimp only [rmR]; omega⟩ ⟨Nat.zero_le _, Nat.zero_le _⟩ hc1 hl.1 hP hS d_LinkAudit_load_2 (fun H locs hP hS => ?_)
  refine lv_if_ne (tgt := 10) hx hb d_LinkAudit_load_5 (by decide) (fun c2 => ?_) (fun c2 => ?_)
  · have hf := ifn c2 hf
    refine lv_aload_n hx hb d_LinkAudit_load_10 rfl (lv_at hl 0 rfl) ?_
    obtain ⟨M4, hc3, hf⟩ := bd1_e hf
    refine xvc_LinkAudit_144 X hkk hD (Nat.le_of_ble_eq_true rfl) ⟨by dsimp only [rmR]; omega, by dsimp only [rmR]; omega⟩ ⟨Nat.zero_le _, Nat.zero_le _⟩ hc3 hl.1 hP hS d_LinkAudit_load_11 (fun H locs hP hS => ?_)
    refine lv_aload_n hx hb d_LinkAudit_load_14 rfl (lv_at hl 0 rfl) ?_
    refine xg_LinkAudit_42 hx hb hta hown hKv hP d_LinkAudit_load_15 ?_
    refine xg_LinkAudit_147 hx hb hta hown hKv hP d_LinkAudit_load_18 ?_
    refine lv_iload_n hx hb d_LinkAudit_load_21 rfl (lv_at hl 1 rfl) ?_
    obtain ⟨g4, hf⟩ := gd_ok hf
    refine x_ild hx hb hKv hP c_c37 g4 d_LinkAudit_load_22 ?_
    exact hret hf hP hS d_LinkAudit_load_23
  · have hf := ifp c2 hf
    refine lv_iconst (v := (-1 : Int32)) hx hb d_LinkAudit_load_8 (by decide) ?_
    exact hret hf hP hS d_LinkAudit_load_9
-- LinkAudit$Links.resolved
set_option maxHeartbeats 4000000 in
set_option maxRecDepth 100000 in
theorem c_Links_resolved {l : Launch} {D : va_G} {cI cL cG cZ : ClassId} {ad : Nat → Nat} {M : Mem} {a1 : Int32} {a2 : Int32} {r : Int32} (hD : ∀ M, va_D (c_A ad) (c_ws cI cL cG cZ ad M)) (hf : f_Links_resolved M a1 a2 = some r) : Mi l y_Links_resolved (.code y_Links_resolved prog_5_method_6_code 4 (some .int) :: ALLW) (rmR 2 46) (Kk D cI cL cG cZ) D vwC (c_A ad) (c_ws cI cL cG cZ ad) [.ref (ad 5), .int a1, .int a2] M M r := by
  refine Mi_ofR (by decide) (Nat.le_of_ble_eq_true rfl) ?_
  intro p e s m args below meth c ls Q X hkk hret hP hl
  obtain ⟨hx, hb, hml, hown, hta⟩ := id X
  have hKv := hkk.1
  have hS : va_S (c_A ad) s.heap s.heap [] := va_S.rf
  have hl : lv_has ls 4 [(0, .ref (ad 5)), (1, .int a1), (2, .int a2)] := hl
  unfold f_Links_resolved at hf
  refine lv_aload_n hx hb d_Links_resolved_0 rfl (lv_at hl 0 rfl) ?_
  refine xg_Links_36 hx hb hta hown hKv hP d_Links_resolved_1 ?_
  refine lv_aload_n hx hb d_Links_resolved_4 rfl (lv_at hl 0 rfl) ?_
  refine xg_Links_40 hx hb hta hown hKv hP d_Links_resolved_5 ?_
  refine xg_Links_63 hx hb hta hown hKv hP d_Links_resolved_8 ?_
  refine lv_iload_n hx hb d_Links_resolved_11 rfl (lv_at hl 1 rfl) ?_
  obtain ⟨g1, hf⟩ := gd_ok hf
  refine x_ild hx hb hKv hP c_c24 g1 d_Links_resolved_12 ?_
  refine lv_iload_n hx hb d_Links_resolved_13 rfl (lv_at hl 2 rfl) ?_
  obtain ⟨r4, hc2, hf⟩ := bd1_e hf
  refine xvc_Links_65 X hkk hD (Nat.le_of_ble_eq_true rfl) ⟨by dsimp only [rmR]; omega, by dsimp only [rmR]; omega⟩ ⟨Nat.zero_le _, Nat.zero_le _⟩ hc2 hl.1 hP hS d_Links_resolved_14 (fun H locs hP hS => ?_)
  refine lv_istore_n (lv' := [(3, .int r4), (0, .ref (ad 5)), (1, .int a1), (2, .int a2)]) hx hb d_Links_resolved_17 rfl hl (by decide) rfl (fun ls hl => ?_)
  refine lv_iload_n hx hb d_Links_resolved_18 rfl (lv_at hl 0 rfl) ?_
  refine lv_if_ne (tgt := 25) hx hb d_Links_resolved_19 (by decide) (fun c3 => ?_) (fun c3 => ?_)
  · have hf := ifn c3 hf
    refine lv_aload_n hx hb d_Links_resolved_25 rfl (lv_at hl 1 rfl) ?_
    refine lv_iload_n hx hb d_Links_resolved_26 rfl (lv_at hl 0 rfl) ?_
    obtain ⟨r5, hc4, hf⟩ := bd1_e hf
    refine xvc_Links_70 X hkk hD (Nat.le_of_ble_eq_true rfl) ⟨by dsimp only [rmR]; omega, by dsimp only [rmR]; omega⟩ ⟨Nat.zero_le _, Nat.zero_le _⟩ hc4 hl.1 hP hS d_Links_resolved_27 (fun H locs hP hS => ?_)
    refine lv_if_ne (tgt := 40) hx hb d_Links_resolved_30 (by decide) (fun c5 => ?_) (fun c5 => ?_)
    · have hf := ifn c5 hf
      refine lv_aload_n hx hb d_Links_resolved_40 rfl (lv_at hl 1 rfl) ?_
      refine xg_Links_40 hx hb hta hown hKv hP d_Links_resolved_41 ?_
      refine lv_iload_n hx hb d_Links_resolved_44 rfl (lv_at hl 2 rfl) ?_
      refine lv_iload_n hx hb d_Links_resolved_45 rfl (lv_at hl 0 rfl) ?_
      obtain ⟨r6, hc6, hf⟩ := bd1_e hf
      refine xvc_Links_74 X hkk hD (Nat.le_of_ble_eq_true rfl) ⟨by dsimp only [rmR]; omega, by dsimp only [rmR]; omega⟩ ⟨Nat.zero_le _, Nat.zero_le _⟩ hc6 hl.1 hP hS d_Links_resolved_46 (fun H locs hP hS => ?_)
      refine lv_if_eq (tgt := 56) hx hb d_Links_resolved_49 (by decide) (fun c7 => ?_) (fun c7 => ?_)
      · have hf := ifp c7 hf
        refine lv_bipush (v := (-6 : Int32)) hx hb d_Links_resolved_56 (by decide) ?_
        exact hret hf hP hS d_Links_resolved_58
      · have hf := ifn c7 hf
        refine lv_iload_n hx hb d_Links_resolved_52 rfl (lv_at hl 0 rfl) ?_
        refine lv_goto (tgt := 58) hx hb d_Links_resolved_53 (by decide) ?_
        exact hret hf hP hS d_Links_resolved_58
    · have hf := ifp c5 hf
      refine lv_aload_n hx hb d_Links_resolved_33 rfl (lv_at hl 1 rfl) ?_
      refine xg_Links_9 hx hb hta hown hKv hP d_Links_resolved_34 ?_
      refine lv_iload_n hx hb d_Links_resolved_37 rfl (lv_at hl 0 rfl) ?_
      obtain ⟨g8, hf⟩ := gd_ok hf
      refine x_ild hx hb hKv hP c_c37 g8 d_Links_resolved_38 ?_
      exact hret hf hP hS d_Links_resolved_39
  · have hf := ifp c3 hf
    refine lv_bipush (v := (-3 : Int32)) hx hb d_Links_resolved_22 (by decide) ?_
    exact hret hf hP hS d_Links_resolved_24
-- LinkAudit$Classes.isAbstract
set_option maxHeartbeats 4000000 in
set_option maxRecDepth 100000 in
theorem c_Classes_isAbstract {l : Launch} {D : va_G} {cI cL cG cZ : ClassId} {ad : Nat → Nat} {M : Mem} {a1 : Int32} {r : Int32} (hD : ∀ M, va_D (c_A ad) (c_ws cI cL cG cZ ad M)) (hf : f_Classes_isAbstract M a1 = some r) : Mi l y_Classes_isAbstract (.code y_Classes_isAbstract prog_3_method_4_code 2 (some .boolean) :: ALLW) (rmR 0 0) (Kk D cI cL cG cZ) D vwC (c_A ad) (c_ws cI cL cG cZ ad) [.ref (ad 2), .int a1] M M r := by
  refine Mz_ofR (by decide) (Nat.le_of_ble_eq_true rfl) ?_
  intro p e s m args below meth c ls Q X hkk hret hP hl
  obtain ⟨hx, hb, hml, hown, hta⟩ := id X
  have hKv := hkk.1
  have hS : va_S (c_A ad) s.heap s.heap [] := va_S.rf
  have hl : lv_has ls 2 [(0, .ref (ad 2)), (1, .int a1)] := hl
  unfold f_Classes_isAbstract at hf
  refine lv_aload_n hx hb d_Classes_isAbstract_0 rfl (lv_at hl 0 rfl) ?_
  refine xg_Classes_18 hx hb hta hown hKv hP d_Classes_isAbstract_1 ?_
  refine lv_iload_n hx hb d_Classes_isAbstract_4 rfl (lv_at hl 1 rfl) ?_
  obtain ⟨g1, hf⟩ := gd_ok hf
  refine x_ild hx hb hKv hP c_c26 g1 d_Classes_isAbstract_5 ?_
  refine lv_bipush (v := (12 : Int32)) hx hb d_Classes_isAbstract_6 (by decide) ?_
  refine lv_iand hx hb d_Classes_isAbstract_8 ?_
  refine lv_if_eq (tgt := 16) hx hb d_Classes_isAbstract_9 (by decide) (fun c2 => ?_) (fun c2 => ?_)
  · have hf := ifp c2 hf
    refine lv_iconst (v := (0 : Int32)) hx hb d_Classes_isAbstract_16 (by decide) ?_
    exact hret (Or.inl rfl) hf hP hS d_Classes_isAbstract_17
  · have hf := ifn c2 hf
    refine lv_iconst (v := (1 : Int32)) hx hb d_Classes_isAbstract_12 (by decide) ?_
    refine lv_goto (tgt := 17) hx hb d_Classes_isAbstract_13 (by decide) ?_
    exact hret (Or.inr rfl) hf hP hS d_Classes_isAbstract_17
-- LinkAudit$Resolver.isKindOfClass
theorem xg_Resolver_28 {p : Program} {l : Launch} {e : Env} {R : Room} {s : State} {m : MethodId} {args : Array Value} {below : List Frame} {meth : Method} {c : Code} {H : Heap} {locs : List Loc} {cells slots : Nat} {Q : State → Prop} {cc : ByteArray} {pc : Nat} {ls : Array Slot} {rest : List Value} {D : va_G} {cI cL cG cZ : ClassId} {ad : Nat → Nat} {M : Mem} (hx : p.tables.exec = Jvm.exec) (hb : c.code = cc) (hta : ∀ w ∈ ALLW, w.before args s = true) (hown : s.vm.findClass "LinkAudit$Resolver" = some m.cls) (hK : va_K D vwC [(cI, .int), (cL, .long), (cG, .array .int), (cZ, .boolean)] s) (hP : va_P D vwC (c_ws cI cL cG cZ ad M) H) (hdg : decode cc pc = .ok (.getfield 28, 3))
    (kk : W p l e R s m args below meth c H locs cells slots Q (F0 m (pc + 3) ls (.ref (ad 2) :: rest))) : W p l e R s m args below meth c H locs cells slots Q (F0 m pc ls (.ref (ad 7) :: rest)) :=
  va_get (D := D) (ci := 7) (v := .ref (ad 2)) (C := "LinkAudit$Resolver") (T := T_Resolver) (N := 6) hx hb hta i_Resolver hown hK hP 7 c_c7 rfl 1 (by decide) (hta _ wm_228) (fun _ h9 => h9) rfl hdg kk
theorem xvc_Resolver_82 {p : Program} {l : Launch} {e : Env} {R : Room} {s : State} {m : MethodId} {args : Array Value} {below : List Frame} {meth : Method} {c : Code} {H : Heap} {locs : List Loc} {cells slots : Nat} {Q : State → Prop} {cc : ByteArray} {pc : Nat} {ls : Array Slot} {rest : List Value} {D : va_G} {cI cL cG cZ : ClassId} {ad : Nat → Nat} {M : Mem} {H0 : Heap} {nL : Nat} {a0 : Int32} {r : Int32} (X : CallFix p m c cc nL s args ALLW "LinkAudit$Resolver") (hkk : Kk D cI cL cG cZ s) (hD : ∀ M, va_D (c_A ad) (c_ws cI cL cG cZ ad M)) (hrest : (rest.map fun v => v.category).sum ≤ 8) (hR : 0 + 1 ≤ R.frames ∧ 8 + (2 + 11) + 0 ≤ R.locals) (hcs : cells + 0 ≤ R.cells ∧ slots + 0 ≤ R.slots) (hc : f_Classes_isInterface M a0 = some r) (hsz : ls.size = nL) (hP : va_P D vwC (c_ws cI cL cG cZ ad M) H) (hS : va_S (c_A ad) H0 H locs) (hdg : decode cc pc = .ok (.invokevirtual 82, 3))
    (kk : ∀ (H1 : Heap) (locs1 : List Loc), va_P D vwC (c_ws cI cL cG cZ ad M) H1 → va_S (c_A ad) H0 H1 locs1 → W p l e R s m args below meth c H1 locs1 cells slots Q (F0 m (pc + 3) ls (.int r :: rest))) : W p l e R s m args below meth c H locs cells slots Q (F0 m pc ls (.int a0 :: .ref (ad 2) :: rest)) := by
  have hta := X.2.2.2.2
  exact x_afterI (va_runV (As := [.int a0]) (rest := rest) X (c_Classes_isInterface hD hc) ⟨callB_of 1 hta (good_all (L := .code y_Classes_isInterface prog_3_method_3_code 2 (some .boolean) :: ALLW) (List.forall_mem_cons.mpr ⟨wm_409, fun _ h => h⟩)) rfl rfl rfl (hta _ wm_3) (hta _ wm_537) (by decide +kernel) hR, hta _ wm_407, hta _ wm_408⟩ ⟨x_blind Kk_w _, va_recv hkk.1 hP (ci := 2) (q0 := 2) rfl c_c2, x_pre Kk_w hkk hP _⟩ rfl rfl hsz rfl (lv_room hrest) hdg hcs) hS kk
set_option maxHeartbeats 4000000 in
set_option maxRecDepth 100000 in
theorem c_Resolver_isKindOfClass {l : Launch} {D : va_G} {cI cL cG cZ : ClassId} {ad : Nat → Nat} {M : Mem} {a1 : Int32} {a2 : Int32} {r : Int32} (hD : ∀ M, va_D (c_A ad) (c_ws cI cL cG cZ ad M)) (hf : f_Resolver_isKindOfClass M a1 a2 = some r) : Mi l y_Resolver_isKindOfClass (.code y_Resolver_isKindOfClass prog_9_method_4_code 3 (some .boolean) :: ALLW) (rmR 1 21) (Kk D cI cL cG cZ) D vwC (c_A ad) (c_ws cI cL cG cZ ad) [.ref (ad 7), .int a1, .int a2] M M r := by
  refine Mz_ofR (by decide) (Nat.le_of_ble_eq_true rfl) ?_
  intro p e s m args below meth c ls Q X hkk hret hP hl
  obtain ⟨hx, hb, hml, hown, hta⟩ := id X
  have hKv := hkk.1
  have hS : va_S (c_A ad) s.heap s.heap [] := va_S.rf
  have hl : lv_has ls 3 [(0, .ref (ad 7)), (1, .int a1), (2, .int a2)] := hl
  unfold f_Resolver_isKindOfClass at hf
  refine lv_iload_n hx hb d_Resolver_isKindOfClass_0 rfl (lv_at hl 1 rfl) ?_
  refine lv_iconst (v := (3 : Int32)) hx hb d_Resolver_isKindOfClass_1 (by decide) ?_
  refine lv_icmp_ne (tgt := 22) hx hb d_Resolver_isKindOfClass_2 (by decide) (fun c1 => ?_) (fun c1 => ?_)
  · have hf := ifn c1 hf
    refine lv_iload_n hx hb d_Resolver_isKindOfClass_22 rfl (lv_at hl 1 rfl) ?_
    refine lv_iconst (v := (5 : Int32)) hx hb d_Resolver_isKindOfClass_23 (by decide) ?_
    refine lv_icmp_ne (tgt := 38) hx hb d_Resolver_isKindOfClass_24 (by decide) (fun c2 => ?_) (fun c2 => ?_)
    · have hf := ifn c2 hf
      refine lv_iconst (v := (1 : Int32)) hx hb d_Resolver_isKindOfClass_38 (by decide) ?_
      refine lv_goto (tgt := 43) hx hb d_Resolver_isKindOfClass_39 (by decide) ?_
      exact hret (Or.inr rfl) hf hP hS d_Resolver_isKindOfClass_43
    · have hf := ifp c2 hf
      refine lv_aload_n hx hb d_Resolver_isKindOfClass_27 rfl (lv_at hl 0 rfl) ?_
      refine xg_Resolver_28 hx hb hta hown hKv hP d_Resolver_isKindOfClass_28 ?_
      refine lv_iload_n hx hb d_Resolver_isKindOfClass_31 rfl (lv_at hl 2 rfl) ?_
      obtain ⟨r3, hc3, hf⟩ := bd1_e hf
      refine xvc_Resolver_82 X hkk hD (Nat.le_of_ble_eq_true rfl) ⟨by dsimp only [rmR]; omega, by dsimp only [rmR]; omega⟩ ⟨Nat.zero_le _, Nat.zero_le _⟩ hc3 hl.1 hP hS d_Resolver_isKindOfClass_32 (fun H locs hP hS => ?_)
      refine lv_if_eq (tgt := 42) hx hb d_Resolver_isKindOfClass_35 (by decide) (fun c4 => ?_) (fun c4 => ?_)
      · have hf := ifp c4 hf
        refine lv_iconst (v := (0 : Int32)) hx hb d_Resolver_isKindOfClass_42 (by decide) ?_
        exact hret (Or.inl rfl) hf hP hS d_Resolver_isKindOfClass_43
      · have hf := ifn c4 hf
        refine lv_iconst (v := (1 : Int32)) hx hb d_Resolver_isKindOfClass_38 (by decide) ?_
        refine lv_goto (tgt := 43) hx hb d_Resolver_isKindOfClass_39 (by decide) ?_
        exact hret (Or.inr rfl) hf hP hS d_Resolver_isKindOfClass_43
  · have hf := ifp c1 hf
    refine lv_aload_n hx hb d_Resolver_isKindOfClass_5 rfl (lv_at hl 0 rfl) ?_
    refine xg_Resolver_28 hx hb hta hown hKv hP d_Resolver_isKindOfClass_6 ?_
    refine lv_iload_n hx hb d_Resolver_isKindOfClass_9 rfl (lv_at hl 2 rfl) ?_
    obtain ⟨r4, hc5, hf⟩ := bd1_e hf
    refine xvc_Resolver_82 X hkk hD (Nat.le_of_ble_eq_true rfl) ⟨by dsimp only [rmR]; omega, by dsimp only [rmR]; omega⟩ ⟨Nat.zero_le _, Nat.zero_le _⟩ hc5 hl.1 hP hS d_Resolver_isKindOfClass_10 (fun H locs hP hS => ?_)
    refine lv_if_ne (tgt := 20) hx hb d_Resolver_isKindOfClass_13 (by decide) (fun c6 => ?_) (fun c6 => ?_)
    · have hf := ifn c6 hf
      refine lv_iconst (v := (0 : Int32)) hx hb d_Resolver_isKindOfClass_20 (by decide) ?_
      exact hret (Or.inl rfl) hf hP hS d_Resolver_isKindOfClass_21
    · have hf := ifp c6 hf
      refine lv_iconst (v := (1 : Int32)) hx hb d_Resolver_isKindOfClass_16 (by decide) ?_
      refine lv_goto (tgt := 21) hx hb d_Resolver_isKindOfClass_17 (by decide) ?_
      exact hret (Or.inr rfl) hf hP hS d_Resolver_isKindOfClass_21
-- LinkAudit$References.wantsField
set_option maxHeartbeats 4000000 in
set_option maxRecDepth 100000 in
theorem c_References_wantsField {l : Launch} {D : va_G} {cI cL cG cZ : ClassId} {ad : Nat → Nat} {M : Mem} {a1 : Int32} {r : Int32} (hD : ∀ M, va_D (c_A ad) (c_ws cI cL cG cZ ad M)) (hf : f_References_wantsField M a1 = some r) : Mi l y_References_wantsField (.code y_References_wantsField prog_8_method_3_code 2 (some .boolean) :: ALLW) (rmR 0 0) (Kk D cI cL cG cZ) D vwC (c_A ad) (c_ws cI cL cG cZ ad) [.ref (ad 4), .int a1] M M r := by
  refine Mz_ofR (by decide) (Nat.le_of_ble_eq_true rfl) ?_
  intro p e s m args below meth c ls Q X hkk hret hP hl
  obtain ⟨hx, hb, hml, hown, hta⟩ := id X
  have hKv := hkk.1
  have hS : va_S (c_A ad) s.heap s.heap [] := va_S.rf
  have hl : lv_has ls 2 [(0, .ref (ad 4)), (1, .int a1)] := hl
  unfold f_References_wantsField at hf
  refine lv_aload_n hx hb d_References_wantsField_0 rfl (lv_at hl 0 rfl) ?_
  refine xg_References_15 hx hb hta hown hKv hP d_References_wantsField_1 ?_
  refine lv_iload_n hx hb d_References_wantsField_4 rfl (lv_at hl 1 rfl) ?_
  obtain ⟨g1, hf⟩ := gd_ok hf
  refine x_ild hx hb hKv hP c_c34 g1 d_References_wantsField_5 ?_
  refine lv_iconst (v := (1 : Int32)) hx hb d_References_wantsField_6 (by decide) ?_
  refine lv_icmp_eq (tgt := 20) hx hb d_References_wantsField_7 (by decide) (fun c2 => ?_) (fun c2 => ?_)
  · have hf := ifp c2 hf
    refine lv_iconst (v := (1 : Int32)) hx hb d_References_wantsField_20 (by decide) ?_
    refine lv_goto (tgt := 25) hx hb d_References_wantsField_21 (by decide) ?_
    exact hret (Or.inr rfl) hf hP hS d_References_wantsField_25
  · have hf := ifn c2 hf
    refine lv_aload_n hx hb d_References_wantsField_10 rfl (lv_at hl 0 rfl) ?_
    refine xg_References_15 hx hb hta hown hKv hP d_References_wantsField_11 ?_
    refine lv_iload_n hx hb d_References_wantsField_14 rfl (lv_at hl 1 rfl) ?_
    obtain ⟨g3, hf⟩ := gd_ok hf
    refine x_ild hx hb hKv hP c_c34 g3 d_References_wantsField_15 ?_
    refine lv_iconst (v := (2 : Int32)) hx hb d_References_wantsField_16 (by decide) ?_
    refine lv_icmp_ne (tgt := 24) hx hb d_References_wantsField_17 (by decide) (fun c4 => ?_) (fun c4 => ?_)
    · have hf := ifn c4 hf
      refine lv_iconst (v := (0 : Int32)) hx hb d_References_wantsField_24 (by decide) ?_
      exact hret (Or.inl rfl) hf hP hS d_References_wantsField_25
    · have hf := ifp c4 hf
      refine lv_iconst (v := (1 : Int32)) hx hb d_References_wantsField_20 (by decide) ?_
      refine lv_goto (tgt := 25) hx hb d_References_wantsField_21 (by decide) ?_
      exact hret (Or.inr rfl) hf hP hS d_References_wantsField_25
-- LinkAudit$Resolver.searchField
theorem xg_Resolver_21 {p : Program} {l : Launch} {e : Env} {R : Room} {s : State} {m : MethodId} {args : Array Value} {below : List Frame} {meth : Method} {c : Code} {H : Heap} {locs : List Loc} {cells slots : Nat} {Q : State → Prop} {cc : ByteArray} {pc : Nat} {ls : Array Slot} {rest : List Value} {D : va_G} {cI cL cG cZ : ClassId} {ad : Nat → Nat} {M : Mem} (hx : p.tables.exec = Jvm.exec) (hb : c.code = cc) (hta : ∀ w ∈ ALLW, w.before args s = true) (hown : s.vm.findClass "LinkAudit$Resolver" = some m.cls) (hK : va_K D vwC [(cI, .int), (cL, .long), (cG, .array .int), (cZ, .boolean)] s) (hP : va_P D vwC (c_ws cI cL cG cZ ad M) H) (hdg : decode cc pc = .ok (.getfield 21, 3))
    (kk : W p l e R s m args below meth c H locs cells slots Q (F0 m (pc + 3) ls (.ref (ad 5) :: rest))) : W p l e R s m args below meth c H locs cells slots Q (F0 m pc ls (.ref (ad 7) :: rest)) :=
  va_get (D := D) (ci := 7) (v := .ref (ad 5)) (C := "LinkAudit$Resolver") (T := T_Resolver) (N := 6) hx hb hta i_Resolver hown hK hP 7 c_c7 rfl 0 (by decide) (hta _ wm_227) (fun _ h9 => h9) rfl hdg kk
theorem xg_Resolver_151 {p : Program} {l : Launch} {e : Env} {R : Room} {s : State} {m : MethodId} {args : Array Value} {below : List Frame} {meth : Method} {c : Code} {H : Heap} {locs : List Loc} {cells slots : Nat} {Q : State → Prop} {cc : ByteArray} {pc : Nat} {ls : Array Slot} {rest : List Value} {D : va_G} {cI cL cG cZ : ClassId} {ad : Nat → Nat} {M : Mem} (hx : p.tables.exec = Jvm.exec) (hb : c.code = cc) (hta : ∀ w ∈ ALLW, w.before args s = true) (hown : s.vm.findClass "LinkAudit$Resolver" = some m.cls) (hK : va_K D vwC [(cI, .int), (cL, .long), (cG, .array .int), (cZ, .boolean)] s) (hP : va_P D vwC (c_ws cI cL cG cZ ad M) H) (hdg : decode cc pc = .ok (.getfield 151, 3))
    (kk : W p l e R s m args below meth c H locs cells slots Q (F0 m (pc + 3) ls (.ref (ad 56) :: rest))) : W p l e R s m args below meth c H locs cells slots Q (F0 m pc ls (.ref (ad 5) :: rest)) :=
  va_get (D := D) (ci := 5) (v := .ref (ad 56)) (C := "LinkAudit$Links") (T := T_Links) (N := 9) hx hb hta i_Links hown hK hP 5 c_c5 rfl 4 (by decide) (hta _ wm_177) (fun _ h9 => h9) rfl hdg kk
theorem xg_Resolver_154 {p : Program} {l : Launch} {e : Env} {R : Room} {s : State} {m : MethodId} {args : Array Value} {below : List Frame} {meth : Method} {c : Code} {H : Heap} {locs : List Loc} {cells slots : Nat} {Q : State → Prop} {cc : ByteArray} {pc : Nat} {ls : Array Slot} {rest : List Value} {D : va_G} {cI cL cG cZ : ClassId} {ad : Nat → Nat} {M : Mem} (hx : p.tables.exec = Jvm.exec) (hb : c.code = cc) (hta : ∀ w ∈ ALLW, w.before args s = true) (hown : s.vm.findClass "LinkAudit$Resolver" = some m.cls) (hK : va_K D vwC [(cI, .int), (cL, .long), (cG, .array .int), (cZ, .boolean)] s) (hP : va_P D vwC (c_ws cI cL cG cZ ad M) H) (hdg : decode cc pc = .ok (.getfield 154, 3))
    (kk : W p l e R s m args below meth c H locs cells slots Q (F0 m (pc + 3) ls (.ref (ad 38) :: rest))) : W p l e R s m args below meth c H locs cells slots Q (F0 m pc ls (.ref (ad 5) :: rest)) :=
  va_get (D := D) (ci := 5) (v := .ref (ad 38)) (C := "LinkAudit$Links") (T := T_Links) (N := 9) hx hb hta i_Links hown hK hP 5 c_c5 rfl 3 (by decide) (hta _ wm_174) (fun _ h9 => h9) rfl hdg kk
theorem xvcr_Resolver_97 {p : Program} {l : Launch} {e : Env} {R : Room} {s : State} {m : MethodId} {args : Array Value} {below : List Frame} {meth : Method} {c : Code} {H : Heap} {locs : List Loc} {cells slots : Nat} {Q : State → Prop} {cc : ByteArray} {pc : Nat} {ls : Array Slot} {rest : List Value} {D : va_G} {cI cL cG cZ : ClassId} {ad : Nat → Nat} {M : Mem} {H0 : Heap} {M1 : Mem} {nL : Nat} {a0 : Int32} {a1 : Int64} {r : Int32} (X : CallFix p m c cc nL s args ALLW "LinkAudit$Resolver") (hkk : Kk D cI cL cG cZ s) (hD : ∀ M, va_D (c_A ad) (c_ws cI cL cG cZ ad M)) {fr : Mem → Int32 → Int64 → Option (Int32 × Mem)} {d lo : Nat} (hrec : ∀ {N N1 : Mem} {b0 : Int32} {b1 : Int64} {r : Int32}, fr N b0 b1 = some (r, N1) → Mi l y_Resolver_searchField (.code y_Resolver_searchField prog_9_method_7_code 8 (some .int) :: ALLW) (rmR (d) (lo)) (Kk D cI cL cG cZ) D vwC (c_A ad) (c_ws cI cL cG cZ ad) [.ref (ad 7), .int b0, .long b1] N N1 r) (hrest : (rest.map fun v => v.category).sum ≤ 8) (hR : d + 1 ≤ R.frames ∧ 8 + (8 + 11) + lo ≤ R.locals) (hcs : cells + 0 ≤ R.cells ∧ slots + 0 ≤ R.slots) (hc : fr M a0 a1 = some (r, M1)) (hsz : ls.size = nL) (hP : va_P D vwC (c_ws cI cL cG cZ ad M) H) (hS : va_S (c_A ad) H0 H locs) (hdg : decode cc pc = .ok (.invokevirtual 97, 3))
    (kk : ∀ (H1 : Heap) (locs1 : List Loc), va_P D vwC (c_ws cI cL cG cZ ad M1) H1 → va_S (c_A ad) H0 H1 locs1 → W p l e R s m args below meth c H1 locs1 cells slots Q (F0 m (pc + 3) ls (.int r :: rest))) : W p l e R s m args below meth c H locs cells slots Q (F0 m pc ls (.long a1 :: .int a0 :: .ref (ad 7) :: rest)) := by
  have hta := X.2.2.2.2
  exact x_afterI (va_runV (As := [.int a0, .long a1]) (rest := rest) X (hrec hc) ⟨callB_of 2 hta (good_all (L := .code y_Resolver_searchField prog_9_method_7_code 8 (some .int) :: ALLW) (List.forall_mem_cons.mpr ⟨wm_550, fun _ h => h⟩)) rfl rfl rfl (hta _ wm_8) (hta _ wm_547) (by decide +kernel) hR, hta _ wm_549, hta _ wp_13⟩ ⟨x_blind Kk_w _, va_recv hkk.1 hP (ci := 7) (q0 := 7) rfl c_c7, x_pre Kk_w hkk hP _⟩ rfl rfl hsz rfl (lv_room hrest) hdg hcs) hS kk
theorem xg_Resolver_137 {p : Program} {l : Launch} {e : Env} {R : Room} {s : State} {m : MethodId} {args : Array Value} {below : List Frame} {meth : Method} {c : Code} {H : Heap} {locs : List Loc} {cells slots : Nat} {Q : State → Prop} {cc : ByteArray} {pc : Nat} {ls : Array Slot} {rest : List Value} {D : va_G} {cI cL cG cZ : ClassId} {ad : Nat → Nat} {M : Mem} (hx : p.tables.exec = Jvm.exec) (hb : c.code = cc) (hta : ∀ w ∈ ALLW, w.before args s = true) (hown : s.vm.findClass "LinkAudit$Resolver" = some m.cls) (hK : va_K D vwC [(cI, .int), (cL, .long), (cG, .array .int), (cZ, .boolean)] s) (hP : va_P D vwC (c_ws cI cL cG cZ ad M) H) (hdg : decode cc pc = .ok (.getfield 137, 3))
    (kk : W p l e R s m args below meth c H locs cells slots Q (F0 m (pc + 3) ls (.ref (ad 28) :: rest))) : W p l e R s m args below meth c H locs cells slots Q (F0 m pc ls (.ref (ad 2) :: rest)) :=
  va_get (D := D) (ci := 2) (v := .ref (ad 28)) (C := "LinkAudit$Classes") (T := T_Classes) (N := 6) hx hb hta i_Classes hown hK hP 2 c_c2 rfl 4 (by decide) (hta _ wm_62) (fun _ h9 => h9) rfl hdg kk
theorem xvc_Resolver_125 {p : Program} {l : Launch} {e : Env} {R : Room} {s : State} {m : MethodId} {args : Array Value} {below : List Frame} {meth : Method} {c : Code} {H : Heap} {locs : List Loc} {cells slots : Nat} {Q : State → Prop} {cc : ByteArray} {pc : Nat} {ls : Array Slot} {rest : List Value} {D : va_G} {cI cL cG cZ : ClassId} {ad : Nat → Nat} {M : Mem} {H0 : Heap} {nL : Nat} {a0 : Int64} {a1 : Int32} {r : Int32} (X : CallFix p m c cc nL s args ALLW "LinkAudit$Resolver") (hkk : Kk D cI cL cG cZ s) (hD : ∀ M, va_D (c_A ad) (c_ws cI cL cG cZ ad M)) (hrest : (rest.map fun v => v.category).sum ≤ 8) (hR : 0 + 1 ≤ R.frames ∧ 8 + (3 + 11) + 0 ≤ R.locals) (hcs : cells + 0 ≤ R.cells ∧ slots + 0 ≤ R.slots) (hc : f_LinkAudit_hasBit a0 a1 = some r) (hsz : ls.size = nL) (hP : va_P D vwC (c_ws cI cL cG cZ ad M) H) (hS : va_S (c_A ad) H0 H locs) (hdg : decode cc pc = .ok (.invokestatic 125, 3))
    (kk : ∀ (H1 : Heap) (locs1 : List Loc), va_P D vwC (c_ws cI cL cG cZ ad M) H1 → va_S (c_A ad) H0 H1 locs1 → W p l e R s m args below meth c H1 locs1 cells slots Q (F0 m (pc + 3) ls (.int r :: rest))) : W p l e R s m args below meth c H locs cells slots Q (F0 m pc ls (.int a1 :: .long a0 :: rest)) := by
  have hta := X.2.2.2.2
  exact x_after0I e_no (va_runSN (As := [.long a0, .int a1]) (rest := rest) X (c_LinkAudit_hasBit (ad := ad) (M := M) e_D hc) ⟨va_cnB (host := "LinkAudit") 2 hta (good_all (L := .code y_LinkAudit_hasBit prog_1_method_22_code 3 (some .boolean) :: ALLW) (List.forall_mem_cons.mpr ⟨wm_433, fun _ h => h⟩)) rfl rfl rfl (hkk.2 _ (List.mem_of_getElem? (i := 8) rfl)) (hta _ wm_1) (by decide +kernel) hR, hta _ wm_432, trivial⟩ ⟨x_blind Kk_w _, x_pre Kk_w hkk e_P _⟩ rfl rfl hsz rfl (lv_room hrest) hdg hcs) hP hS kk
theorem xg_Resolver_140 {p : Program} {l : Launch} {e : Env} {R : Room} {s : State} {m : MethodId} {args : Array Value} {below : List Frame} {meth : Method} {c : Code} {H : Heap} {locs : List Loc} {cells slots : Nat} {Q : State → Prop} {cc : ByteArray} {pc : Nat} {ls : Array Slot} {rest : List Value} {D : va_G} {cI cL cG cZ : ClassId} {ad : Nat → Nat} {M : Mem} (hx : p.tables.exec = Jvm.exec) (hb : c.code = cc) (hta : ∀ w ∈ ALLW, w.before args s = true) (hown : s.vm.findClass "LinkAudit$Resolver" = some m.cls) (hK : va_K D vwC [(cI, .int), (cL, .long), (cG, .array .int), (cZ, .boolean)] s) (hP : va_P D vwC (c_ws cI cL cG cZ ad M) H) (hdg : decode cc pc = .ok (.getfield 140, 3))
    (kk : W p l e R s m args below meth c H locs cells slots Q (F0 m (pc + 3) ls (.ref (ad 1) :: rest))) : W p l e R s m args below meth c H locs cells slots Q (F0 m pc ls (.ref (ad 5) :: rest)) :=
  va_get (D := D) (ci := 5) (v := .ref (ad 1)) (C := "LinkAudit$Links") (T := T_Links) (N := 9) hx hb hta i_Links hown hK hP 5 c_c5 rfl 0 (by decide) (hta _ wm_165) (fun _ h9 => h9) rfl hdg kk
theorem xg_Resolver_144 {p : Program} {l : Launch} {e : Env} {R : Room} {s : State} {m : MethodId} {args : Array Value} {below : List Frame} {meth : Method} {c : Code} {H : Heap} {locs : List Loc} {cells slots : Nat} {Q : State → Prop} {cc : ByteArray} {pc : Nat} {ls : Array Slot} {rest : List Value} {D : va_G} {cI cL cG cZ : ClassId} {ad : Nat → Nat} {M : Mem} (hx : p.tables.exec = Jvm.exec) (hb : c.code = cc) (hta : ∀ w ∈ ALLW, w.before args s = true) (hown : s.vm.findClass "LinkAudit$Resolver" = some m.cls) (hK : va_K D vwC [(cI, .int), (cL, .long), (cG, .array .int), (cZ, .boolean)] s) (hP : va_P D vwC (c_ws cI cL cG cZ ad M) H) (hdg : decode cc pc = .ok (.getfield 144, 3))
    (kk : W p l e R s m args below meth c H locs cells slots Q (F0 m (pc + 3) ls (.ref (ad 24) :: rest))) : W p l e R s m args below meth c H locs cells slots Q (F0 m pc ls (.ref (ad 2) :: rest)) :=
  va_get (D := D) (ci := 2) (v := .ref (ad 24)) (C := "LinkAudit$Classes") (T := T_Classes) (N := 6) hx hb hta i_Classes hown hK hP 2 c_c2 rfl 0 (by decide) (hta _ wm_55) (fun _ h9 => h9) rfl hdg kk
theorem xvc_Resolver_146 {p : Program} {l : Launch} {e : Env} {R : Room} {s : State} {m : MethodId} {args : Array Value} {below : List Frame} {meth : Method} {c : Code} {H : Heap} {locs : List Loc} {cells slots : Nat} {Q : State → Prop} {cc : ByteArray} {pc : Nat} {ls : Array Slot} {rest : List Value} {D : va_G} {cI cL cG cZ : ClassId} {ad : Nat → Nat} {M : Mem} {H0 : Heap} {nL : Nat} {a0 : Int32} {a1 : Int32} {r : Int32} (X : CallFix p m c cc nL s args ALLW "LinkAudit$Resolver") (hkk : Kk D cI cL cG cZ s) (hD : ∀ M, va_D (c_A ad) (c_ws cI cL cG cZ ad M)) (hrest : (rest.map fun v => v.category).sum ≤ 8) (hR : 1 + 1 ≤ R.frames ∧ 8 + (5 + 11) + 22 ≤ R.locals) (hcs : cells + 0 ≤ R.cells ∧ slots + 0 ≤ R.slots) (hc : f_Loaders_found M a0 a1 = some r) (hsz : ls.size = nL) (hP : va_P D vwC (c_ws cI cL cG cZ ad M) H) (hS : va_S (c_A ad) H0 H locs) (hdg : decode cc pc = .ok (.invokevirtual 146, 3))
    (kk : ∀ (H1 : Heap) (locs1 : List Loc), va_P D vwC (c_ws cI cL cG cZ ad M) H1 → va_S (c_A ad) H0 H1 locs1 → W p l e R s m args below meth c H1 locs1 cells slots Q (F0 m (pc + 3) ls (.int r :: rest))) : W p l e R s m args below meth c H locs cells slots Q (F0 m pc ls (.int a1 :: .int a0 :: .ref (ad 1) :: rest)) := by
  have hta := X.2.2.2.2
  exact x_afterI (va_runV (As := [.int a0, .int a1]) (rest := rest) X (c_Loaders_found hD hc) ⟨callB_of 2 hta (good_all (L := .code y_Loaders_found prog_6_method_5_code 5 (some .int) :: ALLW) (List.forall_mem_cons.mpr ⟨wm_430, fun _ h => h⟩)) rfl rfl rfl (hta _ wm_2) (hta _ wm_553) (by decide +kernel) hR, hta _ wm_428, hta _ wm_429⟩ ⟨x_blind Kk_w _, va_recv hkk.1 hP (ci := 1) (q0 := 1) rfl c_c1, x_pre Kk_w hkk hP _⟩ rfl rfl hsz rfl (lv_room hrest) hdg hcs) hS kk
theorem xg_Resolver_9 {p : Program} {l : Launch} {e : Env} {R : Room} {s : State} {m : MethodId} {args : Array Value} {below : List Frame} {meth : Method} {c : Code} {H : Heap} {locs : List Loc} {cells slots : Nat} {Q : State → Prop} {cc : ByteArray} {pc : Nat} {ls : Array Slot} {rest : List Value} {D : va_G} {cI cL cG cZ : ClassId} {ad : Nat → Nat} {M : Mem} (hx : p.tables.exec = Jvm.exec) (hb : c.code = cc) (hta : ∀ w ∈ ALLW, w.before args s = true) (hown : s.vm.findClass "LinkAudit$Resolver" = some m.cls) (hK : va_K D vwC [(cI, .int), (cL, .long), (cG, .array .int), (cZ, .boolean)] s) (hP : va_P D vwC (c_ws cI cL cG cZ ad M) H) (hdg : decode cc pc = .ok (.getfield 9, 3))
    (kk : W p l e R s m args below meth c H locs cells slots Q (F0 m (pc + 3) ls (.int (M.1 7 5) :: rest))) : W p l e R s m args below meth c H locs cells slots Q (F0 m pc ls (.ref (ad 7) :: rest)) :=
  va_get (D := D) (ci := 7) (v := .int (M.1 7 5)) (C := "LinkAudit$Resolver") (T := T_Resolver) (N := 6) hx hb hta i_Resolver hown hK hP 7 c_c7 rfl 5 (by decide) (hta _ wm_232) (fun _ h9 => h9) rfl hdg kk
theorem xp_Resolver_9 {p : Program} {l : Launch} {e : Env} {R : Room} {s : State} {m : MethodId} {args : Array Value} {below : List Frame} {meth : Method} {c : Code} {H : Heap} {locs : List Loc} {cells slots : Nat} {Q : State → Prop} {cc : ByteArray} {pc : Nat} {ls : Array Slot} {rest : List Value} {D : va_G} {cI cL cG cZ : ClassId} {ad : Nat → Nat} {M : Mem} {H0 : Heap} {M1 : Mem} {x : Int32} (hx : p.tables.exec = Jvm.exec) (hb : c.code = cc) (hta : ∀ w ∈ ALLW, w.before args s = true) (hown : s.vm.findClass "LinkAudit$Resolver" = some m.cls) (hK : va_K D vwC [(cI, .int), (cL, .long), (cG, .array .int), (cZ, .boolean)] s) (hP : va_P D vwC (c_ws cI cL cG cZ ad M) H) (hD : va_D (c_A ad) (c_ws cI cL cG cZ ad M)) (hS : va_S (c_A ad) H0 H locs) (eM : M1 = u1 M 7 5 x) (hdg : decode cc pc = .ok (.putfield 9, 3))
    (kk : ∀ (H1 : Heap) (locs1 : List Loc), va_P D vwC (c_ws cI cL cG cZ ad M1) H1 → va_S (c_A ad) H0 H1 locs1 → W p l e R s m args below meth c H1 locs1 cells slots Q (F0 m (pc + 3) ls rest)) : W p l e R s m args below meth c H locs cells slots Q (F0 m pc ls (.int x :: .ref (ad 7) :: rest)) := by
  refine va_put (D := D) (ci := 7) (v := .int x) (ty := .int) (C := "LinkAudit$Resolver") (T := T_Resolver) (N := 6) hx hb hta i_Resolver t_Resolver t_Resolver_ok n_Resolver hown hK hP hD hS 7 c_c7 rfl 5 (by decide) (hta _ wm_232) (fun _ h9 => h9) rfl (by decide +kernel) rfl rfl (Nat.le_of_ble_eq_true rfl) hdg (fun H1 locs1 h1 _ h3 => kk H1 locs1 ?_ h3)
  rw [eM]
  exact h1
theorem xg_Resolver_33 {p : Program} {l : Launch} {e : Env} {R : Room} {s : State} {m : MethodId} {args : Array Value} {below : List Frame} {meth : Method} {c : Code} {H : Heap} {locs : List Loc} {cells slots : Nat} {Q : State → Prop} {cc : ByteArray} {pc : Nat} {ls : Array Slot} {rest : List Value} {D : va_G} {cI cL cG cZ : ClassId} {ad : Nat → Nat} {M : Mem} (hx : p.tables.exec = Jvm.exec) (hb : c.code = cc) (hta : ∀ w ∈ ALLW, w.before args s = true) (hown : s.vm.findClass "LinkAudit$Resolver" = some m.cls) (hK : va_K D vwC [(cI, .int), (cL, .long), (cG, .array .int), (cZ, .boolean)] s) (hP : va_P D vwC (c_ws cI cL cG cZ ad M) H) (hdg : decode cc pc = .ok (.getfield 33, 3))
    (kk : W p l e R s m args below meth c H locs cells slots Q (F0 m (pc + 3) ls (.ref (ad 3) :: rest))) : W p l e R s m args below meth c H locs cells slots Q (F0 m pc ls (.ref (ad 7) :: rest)) :=
  va_get (D := D) (ci := 7) (v := .ref (ad 3)) (C := "LinkAudit$Resolver") (T := T_Resolver) (N := 6) hx hb hta i_Resolver hown hK hP 7 c_c7 rfl 2 (by decide) (hta _ wm_229) (fun _ h9 => h9) rfl hdg kk
theorem xg_Resolver_129 {p : Program} {l : Launch} {e : Env} {R : Room} {s : State} {m : MethodId} {args : Array Value} {below : List Frame} {meth : Method} {c : Code} {H : Heap} {locs : List Loc} {cells slots : Nat} {Q : State → Prop} {cc : ByteArray} {pc : Nat} {ls : Array Slot} {rest : List Value} {D : va_G} {cI cL cG cZ : ClassId} {ad : Nat → Nat} {M : Mem} (hx : p.tables.exec = Jvm.exec) (hb : c.code = cc) (hta : ∀ w ∈ ALLW, w.before args s = true) (hown : s.vm.findClass "LinkAudit$Resolver" = some m.cls) (hK : va_K D vwC [(cI, .int), (cL, .long), (cG, .array .int), (cZ, .boolean)] s) (hP : va_P D vwC (c_ws cI cL cG cZ ad M) H) (hdg : decode cc pc = .ok (.getfield 129, 3))
    (kk : W p l e R s m args below meth c H locs cells slots Q (F0 m (pc + 3) ls (.ref (ad 32) :: rest))) : W p l e R s m args below meth c H locs cells slots Q (F0 m pc ls (.ref (ad 3) :: rest)) :=
  va_get (D := D) (ci := 3) (v := .ref (ad 32)) (C := "LinkAudit$Members") (T := T_Members) (N := 7) hx hb hta i_Members hown hK hP 3 c_c3 rfl 3 (by decide) (hta _ wm_99) (fun _ h9 => h9) rfl hdg kk
theorem xvc_Resolver_133 {p : Program} {l : Launch} {e : Env} {R : Room} {s : State} {m : MethodId} {args : Array Value} {below : List Frame} {meth : Method} {c : Code} {H : Heap} {locs : List Loc} {cells slots : Nat} {Q : State → Prop} {cc : ByteArray} {pc : Nat} {ls : Array Slot} {rest : List Value} {D : va_G} {cI cL cG cZ : ClassId} {ad : Nat → Nat} {M : Mem} {H0 : Heap} {nL : Nat} {a0 : Int64} {r : Int32} (X : CallFix p m c cc nL s args ALLW "LinkAudit$Resolver") (hkk : Kk D cI cL cG cZ s) (hD : ∀ M, va_D (c_A ad) (c_ws cI cL cG cZ ad M)) (hrest : (rest.map fun v => v.category).sum ≤ 8) (hR : 1 + 1 ≤ R.frames ∧ 8 + (2 + 11) + 21 ≤ R.locals) (hcs : cells + 0 ≤ R.cells ∧ slots + 0 ≤ R.slots) (hc : f_LinkAudit_lowestBit a0 = some r) (hsz : ls.size = nL) (hP : va_P D vwC (c_ws cI cL cG cZ ad M) H) (hS : va_S (c_A ad) H0 H locs) (hdg : decode cc pc = .ok (.invokestatic 133, 3))
    (kk : ∀ (H1 : Heap) (locs1 : List Loc), va_P D vwC (c_ws cI cL cG cZ ad M) H1 → va_S (c_A ad) H0 H1 locs1 → W p l e R s m args below meth c H1 locs1 cells slots Q (F0 m (pc + 3) ls (.int r :: rest))) : W p l e R s m args below meth c H locs cells slots Q (F0 m pc ls (.long a0 :: rest)) := by
  have hta := X.2.2.2.2
  exact x_after0I e_no (va_runSN (As := [.long a0]) (rest := rest) X (c_LinkAudit_lowestBit (ad := ad) (M := M) e_D hc) ⟨va_cnB (host := "LinkAudit") 1 hta (good_all (L := .code y_LinkAudit_lowestBit prog_1_method_23_code 2 (some .int) :: ALLW) (List.forall_mem_cons.mpr ⟨wm_503, fun _ h => h⟩)) rfl rfl rfl (hkk.2 _ (List.mem_of_getElem? (i := 9) rfl)) (hta _ wm_1) (by decide +kernel) hR, hta _ wm_502, trivial⟩ ⟨x_blind Kk_w _, x_pre Kk_w hkk e_P _⟩ rfl rfl hsz rfl (lv_room hrest) hdg hcs) hP hS kk
set_option maxHeartbeats 4000000 in
set_option maxRecDepth 100000 in
theorem c_Resolver_searchField_B {l : Launch} {D : va_G} {cI cL cG cZ : ClassId} {ad : Nat → Nat} {M M' : Mem} {a1 : Int32} {a2 : Int64} {r : Int32} (hD : ∀ M, va_D (c_A ad) (c_ws cI cL cG cZ ad M)) {fr : Mem → Int32 → Int64 → Option (Int32 × Mem)} {d lo : Nat} (hrec : ∀ {N N1 : Mem} {b0 : Int32} {b1 : Int64} {r : Int32}, fr N b0 b1 = some (r, N1) → Mi l y_Resolver_searchField (.code y_Resolver_searchField prog_9_method_7_code 8 (some .int) :: ALLW) (rmR (d) (lo)) (Kk D cI cL cG cZ) D vwC (c_A ad) (c_ws cI cL cG cZ ad) [.ref (ad 7), .int b0, .long b1] N N1 r) (hd : 2 ≤ d) (hlo : 46 ≤ lo) (hf : f_Resolver_searchField_B fr M a1 a2 = some (r, M')) : Mi l y_Resolver_searchField (.code y_Resolver_searchField prog_9_method_7_code 8 (some .int) :: ALLW) (rmR (d + 1) (lo + 27)) (Kk D cI cL cG cZ) D vwC (c_A ad) (c_ws cI cL cG cZ ad) [.ref (ad 7), .int a1, .long a2] M M' r := by
  refine Mi_of (by decide) (Nat.le_of_ble_eq_true rfl) ?_
  intro p e s m args below meth c ls Q X hkk hret hP hl
  obtain ⟨hx, hb, hml, hown, hta⟩ := id X
  have hKv := hkk.1
  have hS : va_S (c_A ad) s.heap s.heap [] := va_S.rf
  have hl : lv_has ls 8 [(0, .ref (ad 7)), (1, .int a1), (2, .long a2)] := hl
  have b122 : ∀ (M : Mem) (x1 : Int32) (x2 : Int64) (x6 : Int32) (H : Heap) (locs : List Loc) (ls : Array Slot), f_Resolver_searchField_B_b122 fr M x1 x2 x6 = some (r, M') → va_P D vwC (c_ws cI cL cG cZ ad M) H → va_S (c_A ad) s.heap H locs → lv_has ls 8 [(0, .ref (ad 7)), (1, .int x1), (2, .long x2), (6, .int x6)] → W p l e (rmR (d + 1) (lo + 27)) s m args below meth c H locs 0 0 Q (F0 m 122 ls []) := by
    intro M x1 x2 x6 H locs ls hf hP hS hl
    unfold f_Resolver_searchField_B_b122 at hf
    refine lv_iload hx hb d_Resolver_searchField_122 (lv_at hl 3 rfl) ?_
    refine lv_if_ne (tgt := 158) hx hb d_Resolver_searchField_124 (by decide) (fun c1 => ?_) (fun c1 => ?_)
    · have hf := ifn c1 hf
      refine lv_iload hx hb d_Resolver_searchField_158 (lv_at hl 3 rfl) ?_
      exact hret hf hP hS d_Resolver_searchField_160
    · have hf := ifp c1 hf
      refine lv_aload_n hx hb d_Resolver_searchField_127 rfl (lv_at hl 0 rfl) ?_
      refine xg_Resolver_21 hx hb hta hown hKv hP d_Resolver_searchField_128 ?_
      refine xg_Resolver_151 hx hb hta hown hKv hP d_Resolver_searchField_131 ?_
      refine lv_iload_n hx hb d_Resolver_searchField_134 rfl (lv_at hl 1 rfl) ?_
      obtain ⟨g2, hf⟩ := gd_ok hf
      refine x_ild hx hb hKv hP c_c56 g2 d_Resolver_searchField_135 ?_
      refine lv_iconst (v := (1 : Int32)) hx hb d_Resolver_searchField_136 (by decide) ?_
      refine lv_icmp_le (tgt := 158) hx hb d_Resolver_searchField_137 (by decide) (fun c3 => ?_) (fun c3 => ?_)
      · have hf := ifp c3 hf
        refine lv_iload hx hb d_Resolver_searchField_158 (lv_at hl 3 rfl) ?_
        exact hret hf hP hS d_Resolver_searchField_160
      · have hf := ifn c3 hf
        refine lv_aload_n hx hb d_Resolver_searchField_140 rfl (lv_at hl 0 rfl) ?_
        refine lv_aload_n hx hb d_Resolver_searchField_141 rfl (lv_at hl 0 rfl) ?_
        refine xg_Resolver_21 hx hb hta hown hKv hP d_Resolver_searchField_142 ?_
        refine xg_Resolver_154 hx hb hta hown hKv hP d_Resolver_searchField_145 ?_
        refine lv_iload_n hx hb d_Resolver_searchField_148 rfl (lv_at hl 1 rfl) ?_
        obtain ⟨g4, hf⟩ := gd_ok hf
        refine x_ald (k0 := 38) (base := 39) (n := 17) hx hb hKv hP c_c38 g4 d_Resolver_searchField_149 ?_
        refine lv_iconst (v := (1 : Int32)) hx hb d_Resolver_searchField_150 (by decide) ?_
        obtain ⟨g5, hf⟩ := gd_ok hf
        refine x_ild hx hb hKv hP (c_c39 g4) g5 d_Resolver_searchField_151 ?_
        refine lv_lload_n hx hb d_Resolver_searchField_152 rfl (lv_at hl 2 rfl) ?_
        obtain ⟨r12, M11, hc6, hf⟩ := bd2_e hf
        refine xvcr_Resolver_97 X hkk hD hrec (Nat.le_of_ble_eq_true rfl) ⟨by dsimp only [rmR]; omega, by dsimp only [rmR]; omega⟩ ⟨Nat.zero_le _, Nat.zero_le _⟩ hc6 hl.1 hP hS d_Resolver_searchField_153 (fun H locs hP hS => ?_)
        refine lv_istore (lv' := [(6, .int r12), (0, .ref (ad 7)), (1, .int x1), (2, .long x2)]) hx hb d_Resolver_searchField_156 hl (by decide) rfl (fun ls hl => ?_)
        refine lv_iload hx hb d_Resolver_searchField_158 (lv_at hl 0 rfl) ?_
        exact hret hf hP hS d_Resolver_searchField_160
  have L58 : ∀ (x1 : Int32) (x2 : Int64), ∀ (ke122 : Int32 → Mem → Option (Int32 × Mem)), ke122 = (fun y6 M13 => f_Resolver_searchField_B_b122 fr M13 x1 x2 y6) → ∀ (n58 : Nat) (x6 : Int32) (x7 : Int32) (M : Mem) (H : Heap) (locs : List Loc) (ls : Array Slot), f_Resolver_searchField_B_L58 fr x1 x2 ke122 n58 x6 x7 M = some (r, M') → va_P D vwC (c_ws cI cL cG cZ ad M) H → va_S (c_A ad) s.heap H locs → lv_has ls 8 [(0, .ref (ad 7)), (1, .int x1), (2, .long x2), (6, .int x6), (7, .int x7)] → W p l e (rmR (d + 1) (lo + 27)) s m args below meth c H locs 0 0 Q (F0 m 58 ls []) := by
    intro x1 x2 ke122 hke122 n58
    induction n58 with
    | zero => intro x6 x7 M H locs ls hf; exact absurd (show (none : Option _) = some _ from hf) (fun q => by cases q)
    | succ n58 ih58 =>
      intro x6 x7 M H locs ls hf hP hS hl
      rw [f_Resolver_searchField_B_L58] at hf
      refine lv_iload hx hb d_Resolver_searchField_58 (lv_at hl 4 rfl) ?_
      refine lv_bipush (v := (12 : Int32)) hx hb d_Resolver_searchField_60 (by decide) ?_
      refine lv_icmp_ge (tgt := 122) hx hb d_Resolver_searchField_62 (by decide) (fun c7 => ?_) (fun c7 => ?_)
      · have hf := ifp c7 hf
        rw [hke122] at hf
        exact b122 M x1 x2 x6 _ _ _ hf hP hS (lv_sub hl [0, 1, 2, 3] rfl)
      · have hf := ifn c7 hf
        refine lv_iload hx hb d_Resolver_searchField_65 (lv_at hl 3 rfl) ?_
        refine lv_if_ne (tgt := 122) hx hb d_Resolver_searchField_67 (by decide) (fun c8 => ?_) (fun c8 => ?_)
        · have hf := ifn c8 hf
          rw [hke122] at hf
          exact b122 M x1 x2 x6 _ _ _ hf hP hS (lv_sub hl [0, 1, 2, 3] rfl)
        · have hf := ifp c8 hf
          refine lv_aload_n hx hb d_Resolver_searchField_70 rfl (lv_at hl 0 rfl) ?_
          refine xg_Resolver_28 hx hb hta hown hKv hP d_Resolver_searchField_71 ?_
          refine xg_Resolver_137 hx hb hta hown hKv hP d_Resolver_searchField_74 ?_
          refine lv_iload_n hx hb d_Resolver_searchField_77 rfl (lv_at hl 1 rfl) ?_
          obtain ⟨g9, hf⟩ := gd_ok hf
          refine x_ild hx hb hKv hP c_c28 g9 d_Resolver_searchField_78 ?_
          refine lv_i2l hx hb d_Resolver_searchField_79 rfl ?_
          refine lv_iload hx hb d_Resolver_searchField_80 (lv_at hl 4 rfl) ?_
          obtain ⟨r14, hc10, hf⟩ := bd1_e hf
          refine xvc_Resolver_125 X hkk hD (Nat.le_of_ble_eq_true rfl) ⟨by dsimp only [rmR]; omega, by dsimp only [rmR]; omega⟩ ⟨Nat.zero_le _, Nat.zero_le _⟩ hc10 hl.1 hP hS d_Resolver_searchField_82 (fun H locs hP hS => ?_)
          refine lv_if_eq (tgt := 116) hx hb d_Resolver_searchField_85 (by decide) (fun c11 => ?_) (fun c11 => ?_)
          · have hf := ifp c11 hf
            refine lv_iinc (v := (x7 + (1 : Int32))) (lv' := [(7, .int (x7 + (1 : Int32))), (0, .ref (ad 7)), (1, .int x1), (2, .long x2), (6, .int x6)]) hx hb d_Resolver_searchField_116 hl (k := 4) rfl rfl (by decide) rfl (fun ls hl => ?_)
            refine lv_goto (tgt := 58) hx hb d_Resolver_searchField_119 (by decide) ?_
            exact ih58 x6 (x7 + (1 : Int32)) M _ _ _ hf hP hS (lv_sub hl [1, 2, 3, 4, 0] rfl)
          · have hf := ifn c11 hf
            refine lv_aload_n hx hb d_Resolver_searchField_88 rfl (lv_at hl 0 rfl) ?_
            refine lv_aload_n hx hb d_Resolver_searchField_89 rfl (lv_at hl 0 rfl) ?_
            refine xg_Resolver_21 hx hb hta hown hKv hP d_Resolver_searchField_90 ?_
            refine xg_Resolver_140 hx hb hta hown hKv hP d_Resolver_searchField_93 ?_
            refine lv_aload_n hx hb d_Resolver_searchField_96 rfl (lv_at hl 0 rfl) ?_
            refine xg_Resolver_28 hx hb hta hown hKv hP d_Resolver_searchField_97 ?_
            refine xg_Resolver_144 hx hb hta hown hKv hP d_Resolver_searchField_100 ?_
            refine lv_iload_n hx hb d_Resolver_searchField_103 rfl (lv_at hl 1 rfl) ?_
            obtain ⟨g12, hf⟩ := gd_ok hf
            refine x_ild hx hb hKv hP c_c24 g12 d_Resolver_searchField_104 ?_
            refine lv_iload hx hb d_Resolver_searchField_105 (lv_at hl 4 rfl) ?_
            obtain ⟨r15, hc13, hf⟩ := bd1_e hf
            refine xvc_Resolver_146 X hkk hD (Nat.le_of_ble_eq_true rfl) ⟨by dsimp only [rmR]; omega, by dsimp only [rmR]; omega⟩ ⟨Nat.zero_le _, Nat.zero_le _⟩ hc13 hl.1 hP hS d_Resolver_searchField_107 (fun H locs hP hS => ?_)
            refine lv_lload_n hx hb d_Resolver_searchField_110 rfl (lv_at hl 2 rfl) ?_
            obtain ⟨r17, M16, hc14, hf⟩ := bd2_e hf
            refine xvcr_Resolver_97 X hkk hD hrec (Nat.le_of_ble_eq_true rfl) ⟨by dsimp only [rmR]; omega, by dsimp only [rmR]; omega⟩ ⟨Nat.zero_le _, Nat.zero_le _⟩ hc14 hl.1 hP hS d_Resolver_searchField_111 (fun H locs hP hS => ?_)
            refine lv_istore (lv' := [(6, .int r17), (0, .ref (ad 7)), (1, .int x1), (2, .long x2), (7, .int x7)]) hx hb d_Resolver_searchField_114 hl (by decide) rfl (fun ls hl => ?_)
            refine lv_iinc (v := (x7 + (1 : Int32))) (lv' := [(7, .int (x7 + (1 : Int32))), (6, .int r17), (0, .ref (ad 7)), (1, .int x1), (2, .long x2)]) hx hb d_Resolver_searchField_116 hl (k := 4) rfl rfl (by decide) rfl (fun ls hl => ?_)
            refine lv_goto (tgt := 58) hx hb d_Resolver_searchField_119 (by decide) ?_
            exact ih58 r17 (x7 + (1 : Int32)) M16 _ _ _ hf hP hS (lv_sub hl [2, 3, 4, 1, 0] rfl)
  unfold f_Resolver_searchField_B at hf
  refine lv_aload_n hx hb d_Resolver_searchField_0 rfl (lv_at hl 0 rfl) ?_
  refine xg_Resolver_9 hx hb hta hown hKv hP d_Resolver_searchField_1 ?_
  refine lv_i2l hx hb d_Resolver_searchField_4 rfl ?_
  refine lv_iload_n hx hb d_Resolver_searchField_5 rfl (lv_at hl 1 rfl) ?_
  obtain ⟨r18, hc15, hf⟩ := bd1_e hf
  refine xvc_Resolver_125 X hkk hD (Nat.le_of_ble_eq_true rfl) ⟨by dsimp only [rmR]; omega, by dsimp only [rmR]; omega⟩ ⟨Nat.zero_le _, Nat.zero_le _⟩ hc15 hl.1 hP hS d_Resolver_searchField_6 (fun H locs hP hS => ?_)
  refine lv_if_eq (tgt := 14) hx hb d_Resolver_searchField_9 (by decide) (fun c16 => ?_) (fun c16 => ?_)
  · have hf := ifp c16 hf
    refine lv_aload_n hx hb d_Resolver_searchField_14 rfl (lv_at hl 0 rfl) ?_
    refine lv_dup hx hb d_Resolver_searchField_15 rfl ?_
    refine xg_Resolver_9 hx hb hta hown hKv hP d_Resolver_searchField_16 ?_
    refine lv_iconst (v := (1 : Int32)) hx hb d_Resolver_searchField_19 (by decide) ?_
    refine lv_iload_n hx hb d_Resolver_searchField_20 rfl (lv_at hl 1 rfl) ?_
    refine lv_ishl hx hb d_Resolver_searchField_21 ?_
    refine lv_ior hx hb d_Resolver_searchField_22 ?_
    obtain ⟨M19, eM19, hf⟩ := sm_e hf
    refine xp_Resolver_9 hx hb hta hown hKv hP (hD _) hS eM19 d_Resolver_searchField_23 (fun H locs hP hS => ?_)
    refine lv_aload_n hx hb d_Resolver_searchField_26 rfl (lv_at hl 0 rfl) ?_
    refine xg_Resolver_33 hx hb hta hown hKv hP d_Resolver_searchField_27 ?_
    refine xg_Resolver_129 hx hb hta hown hKv hP d_Resolver_searchField_30 ?_
    refine lv_iload_n hx hb d_Resolver_searchField_33 rfl (lv_at hl 1 rfl) ?_
    obtain ⟨g17, hf⟩ := gd_ok hf
    refine x_lld hx hb hKv hP c_c32 g17 d_Resolver_searchField_34 ?_
    refine lv_lload_n hx hb d_Resolver_searchField_35 rfl (lv_at hl 2 rfl) ?_
    refine lv_land hx hb d_Resolver_searchField_36 ?_
    refine lv_lstore (lv' := [(4, .long (((M19.2 32 a1.toNatClampNeg) &&& a2))), (0, .ref (ad 7)), (1, .int a1), (2, .long a2)]) hx hb d_Resolver_searchField_37 hl (by decide) rfl (fun ls hl => ?_)
    refine lv_lload hx hb d_Resolver_searchField_39 (lv_at hl 0 rfl) ?_
    refine lv_lconst (v := (0 : Int64)) hx hb d_Resolver_searchField_41 (by decide) ?_
    refine W.lcmp hx hb d_Resolver_searchField_42 ?_
    refine lv_if_eq (tgt := 52) hx hb d_Resolver_searchField_43 (by decide) (fun c18 => ?_) (fun c18 => ?_)
    · have hf := ifp c18 hf
      refine lv_iconst (v := (0 : Int32)) hx hb d_Resolver_searchField_52 (by decide) ?_
      refine lv_istore (lv' := [(6, .int (0 : Int32)), (4, .long (((M19.2 32 a1.toNatClampNeg) &&& a2))), (0, .ref (ad 7)), (1, .int a1), (2, .long a2)]) hx hb d_Resolver_searchField_53 hl (by decide) rfl (fun ls hl => ?_)
      refine lv_iconst (v := (0 : Int32)) hx hb d_Resolver_searchField_55 (by decide) ?_
      refine lv_istore (lv' := [(7, .int (0 : Int32)), (6, .int (0 : Int32)), (4, .long (((M19.2 32 a1.toNatClampNeg) &&& a2))), (0, .ref (ad 7)), (1, .int a1), (2, .long a2)]) hx hb d_Resolver_searchField_56 hl (by decide) rfl (fun ls hl => ?_)
      exact L58 a1 a2 _ rfl FU (0 : Int32) (0 : Int32) M19 _ _ _ hf hP hS (lv_sub hl [3, 4, 5, 1, 0] rfl)
    · have hf := ifn c18 hf
      refine lv_lload hx hb d_Resolver_searchField_46 (lv_at hl 0 rfl) ?_
      obtain ⟨r20, hc19, hf⟩ := bd1_e hf
      refine xvc_Resolver_133 X hkk hD (Nat.le_of_ble_eq_true rfl) ⟨by dsimp only [rmR]; omega, by dsimp only [rmR]; omega⟩ ⟨Nat.zero_le _, Nat.zero_le _⟩ hc19 hl.1 hP hS d_Resolver_searchField_48 (fun H locs hP hS => ?_)
      exact hret hf hP hS d_Resolver_searchField_51
  · have hf := ifn c16 hf
    refine lv_iconst (v := (0 : Int32)) hx hb d_Resolver_searchField_12 (by decide) ?_
    exact hret hf hP hS d_Resolver_searchField_13
theorem c_Resolver_searchField_d {l : Launch} {D : va_G} {cI cL cG cZ : ClassId} {ad : Nat → Nat} (hD : ∀ M, va_D (c_A ad) (c_ws cI cL cG cZ ad M)) : ∀ n : Nat, ∀ {N N1 : Mem} {b0 : Int32} {b1 : Int64} {r : Int32}, f_Resolver_searchField n N b0 b1 = some (r, N1) → Mi l y_Resolver_searchField (.code y_Resolver_searchField prog_9_method_7_code 8 (some .int) :: ALLW) (rmR (2 + 1 * n) (46 + 27 * n)) (Kk D cI cL cG cZ) D vwC (c_A ad) (c_ws cI cL cG cZ ad) [.ref (ad 7), .int b0, .long b1] N N1 r := by
  intro n
  induction n with
  | zero =>
    intro N N1 b0 b1 r h
    exact absurd (show (none : Option _) = some _ from h) (fun q => by cases q)
  | succ n ih =>
    intro N N1 b0 b1 r h
    rw [show 2 + 1 * (n + 1) = 2 + 1 * n + 1 by omega, show 46 + 27 * (n + 1) = 46 + 27 * n + 27 by omega]
    exact c_Resolver_searchField_B hD ih (by omega) (by omega) h
theorem c_Resolver_searchField {l : Launch} {D : va_G} {cI cL cG cZ : ClassId} {ad : Nat → Nat} {N N1 : Mem} {b0 : Int32} {b1 : Int64} {r : Int32} (hD : ∀ M, va_D (c_A ad) (c_ws cI cL cG cZ ad M)) (h : f_Resolver_searchField DP N b0 b1 = some (r, N1)) : Mi l y_Resolver_searchField (.code y_Resolver_searchField prog_9_method_7_code 8 (some .int) :: ALLW) (rmR (42) (1126)) (Kk D cI cL cG cZ) D vwC (c_A ad) (c_ws cI cL cG cZ ad) [.ref (ad 7), .int b0, .long b1] N N1 r := c_Resolver_searchField_d hD DP h
