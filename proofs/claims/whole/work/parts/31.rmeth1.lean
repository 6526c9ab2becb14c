-- LinkAuditModel.method
theorem xvr_LinkAuditModel_111 {p : Program} {l : Launch} {e : Env} {R : Room} {s : State} {m : MethodId} {args : Array Value} {below : List Frame} {meth : Method} {c : Code} {H : Heap} {locs : List Loc} {cells slots : Nat} {Q : State → Prop} {cc : ByteArray} {pc : Nat} {ls : Array Slot} {rest : List Value} {D : va_G} {cI cL cG cZ : ClassId} {ad : Nat → Nat} {M : Mem} {H0 : Heap} {nL : Nat} {a0 : Int32} {r : Int32} (X : CallFix p m c cc nL s args ALLW "LinkAuditModel") (hkk : Kk D cI cL cG cZ s) (hD : ∀ M, va_D (r_A ad) (r_ws cI cL cG cZ ad M)) (hrest : (rest.map fun v => v.category).sum ≤ 8) (hR : 0 + 1 ≤ R.frames ∧ 8 + (2 + 11) + 0 ≤ R.locals) (hcs : cells + 0 ≤ R.cells ∧ slots + 0 ≤ R.slots) (hc : f_LinkAuditModel_isInterface M a0 = some r) (hsz : ls.size = nL) (hP : va_P D vwC (r_ws cI cL cG cZ ad M) H) (hS : va_S (r_A ad) H0 H locs) (hdg : decode cc pc = .ok (.invokevirtual 111, 3))
    (kk : ∀ (H1 : Heap) (locs1 : List Loc), va_P D vwC (r_ws cI cL cG cZ ad M) H1 → va_S (r_A ad) H0 H1 locs1 → W p l e R s m args below meth c H1 locs1 cells slots Q (F0 m (pc + 3) ls (.int r :: rest))) : W p l e R s m args below meth c H locs cells slots Q (F0 m pc ls (.int a0 :: .ref (ad 0) :: rest)) := by
  have hta := X.2.2.2.2
  exact x_afterI (va_runV (As := [.int a0]) (rest := rest) X (c_LinkAuditModel_isInterface hD hc) ⟨callB_of 1 hta (good_all (L := .code y_LinkAuditModel_isInterface prog_12_method_8_code 2 (some .boolean) :: ALLW) (List.forall_mem_cons.mpr ⟨wm_830, fun _ h => h⟩)) rfl rfl rfl (hta _ wm_11) (hta _ wm_827) (by decide +kernel) hR, hta _ wm_829, hta _ wp_25⟩ ⟨x_blind Kk_w _, va_recv hkk.1 hP (ci := 10) (q0 := 0) rfl r_c0, x_pre Kk_w hkk hP _⟩ rfl rfl hsz rfl (lv_room hrest) hdg hcs) hS kk
set_option maxHeartbeats 4000000 in
set_option maxRecDepth 100000 in
theorem c_LinkAuditModel_method {l : Launch} {D : va_G} {cI cL cG cZ : ClassId} {ad : Nat → Nat} {M M' : Mem} {a1 : Int32} {a2 : Int32} {a3 : Int32} {a4 : Int32} {a5 : Int32} {r : Int32} (hD : ∀ M, va_D (r_A ad) (r_ws cI cL cG cZ ad M)) (hf : f_LinkAuditModel_method M a1 a2 a3 a4 a5 = some (r, M')) : Mi l y_LinkAuditModel_method (.code y_LinkAuditModel_method prog_12_method_11_code 7 (some .int) :: ALLW) (rmR 1 27) (Kk D cI cL cG cZ) D vwC (r_A ad) (r_ws cI cL cG cZ ad) [.ref (ad 0), .int a1, .int a2, .int a3, .int a4, .int a5] M M' r := by
  refine Mi_of (by decide) (Nat.le_of_ble_eq_true rfl) ?_
  intro p e s m args below meth c ls Q X hkk hret hP hl
  obtain ⟨hx, hb, hml, hown, hta⟩ := id X
  have hKv := hkk.1
  have hS : va_S (r_A ad) s.heap s.heap [] := va_S.rf
  have hl : lv_has ls 7 [(0, .ref (ad 0)), (1, .int a1), (2, .int a2), (3, .int a3), (4, .int a4), (5, .int a5)] := hl
  have b103 : ∀ (M : Mem) (x1 : Int32) (x2 : Int32) (x3 : Int32) (x4 : Int32) (x5 : Int32) (H : Heap) (locs : List Loc) (ls : Array Slot), f_LinkAuditModel_method_b103 M x1 x2 x3 x4 x5 = some (r, M') → va_P D vwC (r_ws cI cL cG cZ ad M) H → va_S (r_A ad) s.heap H locs → lv_has ls 7 [(0, .ref (ad 0)), (1, .int x1), (2, .int x2), (3, .int x3), (4, .int x4), (5, .int x5)] → W p l e (rmR 1 27) s m args below meth c H locs 0 0 Q (F0 m 103 ls []) := by
    intro M x1 x2 x3 x4 x5 H locs ls hf hP hS hl
    unfold f_LinkAuditModel_method_b103 at hf
    refine lv_aload_n hx hb d_LinkAuditModel_method_103 rfl (lv_at hl 0 rfl) ?_
    refine lv_iload_n hx hb d_LinkAuditModel_method_104 rfl (lv_at hl 1 rfl) ?_
    refine lv_iconst (v := (1 : Int32)) hx hb d_LinkAuditModel_method_105 (by decide) ?_
    refine lv_iload_n hx hb d_LinkAuditModel_method_106 rfl (lv_at hl 2 rfl) ?_
    refine lv_iload_n hx hb d_LinkAuditModel_method_107 rfl (lv_at hl 3 rfl) ?_
    refine lv_iload hx hb d_LinkAuditModel_method_108 (lv_at hl 4 rfl) ?_
    refine lv_iload hx hb d_LinkAuditModel_method_110 (lv_at hl 5 rfl) ?_
    obtain ⟨r10, M9, hc1, hf⟩ := bd2_e hf
    refine xvr_LinkAuditModel_107 X hkk hD (Nat.le_of_ble_eq_true rfl) ⟨by dsimp only [rmR]; omega, by dsimp only [rmR]; omega⟩ ⟨Nat.zero_le _, Nat.zero_le _⟩ hc1 hl.1 hP hS d_LinkAuditModel_method_112 (fun H locs hP hS => ?_)
    exact hret hf hP hS d_LinkAuditModel_method_115
  have b80 : ∀ (M : Mem) (x1 : Int32) (x2 : Int32) (x3 : Int32) (x4 : Int32) (x5 : Int32) (x6 : Int32) (H : Heap) (locs : List Loc) (ls : Array Slot), f_LinkAuditModel_method_b80 M x1 x2 x3 x4 x5 x6 = some (r, M') → va_P D vwC (r_ws cI cL cG cZ ad M) H → va_S (r_A ad) s.heap H locs → lv_has ls 7 [(0, .ref (ad 0)), (1, .int x1), (2, .int x2), (3, .int x3), (4, .int x4), (5, .int x5), (6, .int x6)] → W p l e (rmR 1 27) s m args below meth c H locs 0 0 Q (F0 m 80 ls []) := by
    intro M x1 x2 x3 x4 x5 x6 H locs ls hf hP hS hl
    unfold f_LinkAuditModel_method_b80 at hf
    refine lv_iload hx hb d_LinkAuditModel_method_80 (lv_at hl 5 rfl) ?_
    refine lv_bipush (v := (8 : Int32)) hx hb d_LinkAuditModel_method_82 (by decide) ?_
    refine lv_iand hx hb d_LinkAuditModel_method_84 ?_
    refine lv_if_eq (tgt := 103) hx hb d_LinkAuditModel_method_85 (by decide) (fun c2 => ?_) (fun c2 => ?_)
    · have hf := ifp c2 hf
      exact b103 M x1 x2 x3 x4 x5 _ _ _ hf hP hS (lv_sub hl [0, 1, 2, 3, 4, 5] rfl)
    · have hf := ifn c2 hf
      refine lv_iload hx hb d_LinkAuditModel_method_88 (lv_at hl 6 rfl) ?_
      refine lv_iconst (v := (3 : Int32)) hx hb d_LinkAuditModel_method_90 (by decide) ?_
      refine lv_icmp_eq (tgt := 101) hx hb d_LinkAuditModel_method_91 (by decide) (fun c3 => ?_) (fun c3 => ?_)
      · have hf := ifp c3 hf
        refine lv_iconst (v := (-1 : Int32)) hx hb d_LinkAuditModel_method_101 (by decide) ?_
        exact hret hf hP hS d_LinkAuditModel_method_102
      · have hf := ifn c3 hf
        refine lv_iload hx hb d_LinkAuditModel_method_94 (lv_at hl 5 rfl) ?_
        refine lv_iconst (v := (4 : Int32)) hx hb d_LinkAuditModel_method_96 (by decide) ?_
        refine lv_iand hx hb d_LinkAuditModel_method_97 ?_
        refine lv_if_eq (tgt := 103) hx hb d_LinkAuditModel_method_98 (by decide) (fun c4 => ?_) (fun c4 => ?_)
        · have hf := ifp c4 hf
          exact b103 M x1 x2 x3 x4 x5 _ _ _ hf hP hS (lv_sub hl [0, 1, 2, 3, 4, 5] rfl)
        · have hf := ifn c4 hf
          refine lv_iconst (v := (-1 : Int32)) hx hb d_LinkAuditModel_method_101 (by decide) ?_
          exact hret hf hP hS d_LinkAuditModel_method_102
  unfold f_LinkAuditModel_method at hf
  refine lv_iload_n hx hb d_LinkAuditModel_method_0 rfl (lv_at hl 1 rfl) ?_
  refine lv_iconst (v := (1 : Int32)) hx hb d_LinkAuditModel_method_1 (by decide) ?_
  refine lv_aload_n hx hb d_LinkAuditModel_method_2 rfl (lv_at hl 0 rfl) ?_
  refine xg_LinkAuditModel_96 hx hb hta hown hKv hP d_LinkAuditModel_method_3 ?_
  obtain ⟨r11, hc5, hf⟩ := bd1_e hf
  refine xvr_LinkAuditModel_92 X hkk hD (Nat.le_of_ble_eq_true rfl) ⟨by dsimp only [rmR]; omega, by dsimp only [rmR]; omega⟩ ⟨Nat.zero_le _, Nat.zero_le _⟩ hc5 hl.1 hP hS d_LinkAuditModel_method_6 (fun H locs hP hS => ?_)
  refine lv_if_eq (tgt := 53) hx hb d_LinkAuditModel_method_9 (by decide) (fun c6 => ?_) (fun c6 => ?_)
  · have hf := ifp c6 hf
    refine lv_iconst (v := (-1 : Int32)) hx hb d_LinkAuditModel_method_53 (by decide) ?_
    exact hret hf hP hS d_LinkAuditModel_method_54
  · have hf := ifn c6 hf
    refine lv_iload_n hx hb d_LinkAuditModel_method_12 rfl (lv_at hl 2 rfl) ?_
    refine lv_iconst (v := (0 : Int32)) hx hb d_LinkAuditModel_method_13 (by decide) ?_
    refine lv_iconst (v := (3 : Int32)) hx hb d_LinkAuditModel_method_14 (by decide) ?_
    obtain ⟨r12, hc7, hf⟩ := bd1_e hf
    refine xvr_LinkAuditModel_92 X hkk hD (Nat.le_of_ble_eq_true rfl) ⟨by dsimp only [rmR]; omega, by dsimp only [rmR]; omega⟩ ⟨Nat.zero_le _, Nat.zero_le _⟩ hc7 hl.1 hP hS d_LinkAuditModel_method_15 (fun H locs hP hS => ?_)
    refine lv_if_eq (tgt := 53) hx hb d_LinkAuditModel_method_18 (by decide) (fun c8 => ?_) (fun c8 => ?_)
    · have hf := ifp c8 hf
      refine lv_iconst (v := (-1 : Int32)) hx hb d_LinkAuditModel_method_53 (by decide) ?_
      exact hret hf hP hS d_LinkAuditModel_method_54
    · have hf := ifn c8 hf
      refine lv_iload_n hx hb d_LinkAuditModel_method_21 rfl (lv_at hl 3 rfl) ?_
      refine lv_iconst (v := (0 : Int32)) hx hb d_LinkAuditModel_method_22 (by decide) ?_
      refine lv_bipush (v := (12 : Int32)) hx hb d_LinkAuditModel_method_23 (by decide) ?_
      obtain ⟨r13, hc9, hf⟩ := bd1_e hf
      refine xvr_LinkAuditModel_92 X hkk hD (Nat.le_of_ble_eq_true rfl) ⟨by dsimp only [rmR]; omega, by dsimp only [rmR]; omega⟩ ⟨Nat.zero_le _, Nat.zero_le _⟩ hc9 hl.1 hP hS d_LinkAuditModel_method_25 (fun H locs hP hS => ?_)
      refine lv_if_eq (tgt := 53) hx hb d_LinkAuditModel_method_28 (by decide) (fun c10 => ?_) (fun c10 => ?_)
      · have hf := ifp c10 hf
        refine lv_iconst (v := (-1 : Int32)) hx hb d_LinkAuditModel_method_53 (by decide) ?_
        exact hret hf hP hS d_LinkAuditModel_method_54
      · have hf := ifn c10 hf
        refine lv_iload hx hb d_LinkAuditModel_method_31 (lv_at hl 4 rfl) ?_
        refine lv_iconst (v := (0 : Int32)) hx hb d_LinkAuditModel_method_33 (by decide) ?_
        refine lv_bipush (v := (12 : Int32)) hx hb d_LinkAuditModel_method_34 (by decide) ?_
        obtain ⟨r14, hc11, hf⟩ := bd1_e hf
        refine xvr_LinkAuditModel_92 X hkk hD (Nat.le_of_ble_eq_true rfl) ⟨by dsimp only [rmR]; omega, by dsimp only [rmR]; omega⟩ ⟨Nat.zero_le _, Nat.zero_le _⟩ hc11 hl.1 hP hS d_LinkAuditModel_method_36 (fun H locs hP hS => ?_)
        refine lv_if_eq (tgt := 53) hx hb d_LinkAuditModel_method_39 (by decide) (fun c12 => ?_) (fun c12 => ?_)
        · have hf := ifp c12 hf
          refine lv_iconst (v := (-1 : Int32)) hx hb d_LinkAuditModel_method_53 (by decide) ?_
          exact hret hf hP hS d_LinkAuditModel_method_54
        · have hf := ifn c12 hf
          refine lv_iload hx hb d_LinkAuditModel_method_42 (lv_at hl 5 rfl) ?_
          refine lv_iconst (v := (0 : Int32)) hx hb d_LinkAuditModel_method_44 (by decide) ?_
          refine lv_bipush (v := (15 : Int32)) hx hb d_LinkAuditModel_method_45 (by decide) ?_
          obtain ⟨r15, hc13, hf⟩ := bd1_e hf
          refine xvr_LinkAuditModel_92 X hkk hD (Nat.le_of_ble_eq_true rfl) ⟨by dsimp only [rmR]; omega, by dsimp only [rmR]; omega⟩ ⟨Nat.zero_le _, Nat.zero_le _⟩ hc13 hl.1 hP hS d_LinkAuditModel_method_47 (fun H locs hP hS => ?_)
          refine lv_if_ne (tgt := 55) hx hb d_LinkAuditModel_method_50 (by decide) (fun c14 => ?_) (fun c14 => ?_)
          · have hf := ifn c14 hf
            refine lv_iload hx hb d_LinkAuditModel_method_55 (lv_at hl 5 rfl) ?_
            refine lv_iconst (v := (3 : Int32)) hx hb d_LinkAuditModel_method_57 (by decide) ?_
            refine lv_iand hx hb d_LinkAuditModel_method_58 ?_
            refine lv_istore (lv' := [(6, .int (a5 &&& (3 : Int32))), (0, .ref (ad 0)), (1, .int a1), (2, .int a2), (3, .int a3), (4, .int a4), (5, .int a5)]) hx hb d_LinkAuditModel_method_59 hl (by decide) rfl (fun ls hl => ?_)
            refine lv_aload_n hx hb d_LinkAuditModel_method_61 rfl (lv_at hl 1 rfl) ?_
            refine lv_iload_n hx hb d_LinkAuditModel_method_62 rfl (lv_at hl 2 rfl) ?_
            obtain ⟨r16, hc15, hf⟩ := bd1_e hf
            refine xvr_LinkAuditModel_111 X hkk hD (Nat.le_of_ble_eq_true rfl) ⟨by dsimp only [rmR]; omega, by dsimp only [rmR]; omega⟩ ⟨Nat.zero_le _, Nat.zero_le _⟩ hc15 hl.1 hP hS d_LinkAuditModel_method_63 (fun H locs hP hS => ?_)
            refine lv_if_eq (tgt := 80) hx hb d_LinkAuditModel_method_66 (by decide) (fun c16 => ?_) (fun c16 => ?_)
            · have hf := ifp c16 hf
              exact b80 M a1 a2 a3 a4 a5 (a5 &&& (3 : Int32)) _ _ _ hf hP hS (lv_sub hl [1, 2, 3, 4, 5, 6, 0] rfl)
            · have hf := ifn c16 hf
              refine lv_iload hx hb d_LinkAuditModel_method_69 (lv_at hl 0 rfl) ?_
              refine lv_if_eq (tgt := 80) hx hb d_LinkAuditModel_method_71 (by decide) (fun c17 => ?_) (fun c17 => ?_)
              · have hf := ifp c17 hf
                exact b80 M a1 a2 a3 a4 a5 (a5 &&& (3 : Int32)) _ _ _ hf hP hS (lv_sub hl [1, 2, 3, 4, 5, 6, 0] rfl)
              · have hf := ifn c17 hf
                refine lv_iload hx hb d_LinkAuditModel_method_74 (lv_at hl 0 rfl) ?_
                refine lv_iconst (v := (3 : Int32)) hx hb d_LinkAuditModel_method_76 (by decide) ?_
                refine lv_icmp_ne (tgt := 101) hx hb d_LinkAuditModel_method_77 (by decide) (fun c18 => ?_) (fun c18 => ?_)
                · have hf := ifn c18 hf
                  refine lv_iconst (v := (-1 : Int32)) hx hb d_LinkAuditModel_method_101 (by decide) ?_
                  exact hret hf hP hS d_LinkAuditModel_method_102
                · have hf := ifp c18 hf
                  exact b80 M a1 a2 a3 a4 a5 (a5 &&& (3 : Int32)) _ _ _ hf hP hS (lv_sub hl [1, 2, 3, 4, 5, 6, 0] rfl)
          · have hf := ifp c14 hf
            refine lv_iconst (v := (-1 : Int32)) hx hb d_LinkAuditModel_method_53 (by decide) ?_
            exact hret hf hP hS d_LinkAuditModel_method_54
-- LinkAuditModel.reference
theorem xg_LinkAuditModel_115 {p : Program} {l : Launch} {e : Env} {R : Room} {s : State} {m : MethodId} {args : Array Value} {below : List Frame} {meth : Method} {c : Code} {H : Heap} {locs : List Loc} {cells slots : Nat} {Q : State → Prop} {cc : ByteArray} {pc : Nat} {ls : Array Slot} {rest : List Value} {D : va_G} {cI cL cG cZ : ClassId} {ad : Nat → Nat} {M : Mem} (hx : p.tables.exec = Jvm.exec) (hb : c.code = cc) (hta : ∀ w ∈ ALLW, w.before args s = true) (hown : s.vm.findClass "LinkAuditModel" = some m.cls) (hK : va_K D vwC [(cI, .int), (cL, .long), (cG, .array .int), (cZ, .boolean)] s) (hP : va_P D vwC (r_ws cI cL cG cZ ad M) H) (hdg : decode cc pc = .ok (.getfield 115, 3))
    (kk : W p l e R s m args below meth c H locs cells slots Q (F0 m (pc + 3) ls (.int (M.1 0 16) :: rest))) : W p l e R s m args below meth c H locs cells slots Q (F0 m pc ls (.ref (ad 0) :: rest)) :=
  va_get (D := D) (ci := 10) (v := .int (M.1 0 16)) (C := "LinkAuditModel") (T := T_LinkAuditModel) (N := 31) hx hb hta i_LinkAuditModel hown hK hP 0 r_c0 rfl 16 (by decide) (hta _ wm_717) (fun _ h9 => h9) rfl hdg kk
theorem xg_LinkAuditModel_53 {p : Program} {l : Launch} {e : Env} {R : Room} {s : State} {m : MethodId} {args : Array Value} {below : List Frame} {meth : Method} {c : Code} {H : Heap} {locs : List Loc} {cells slots : Nat} {Q : State → Prop} {cc : ByteArray} {pc : Nat} {ls : Array Slot} {rest : List Value} {D : va_G} {cI cL cG cZ : ClassId} {ad : Nat → Nat} {M : Mem} (hx : p.tables.exec = Jvm.exec) (hb : c.code = cc) (hta : ∀ w ∈ ALLW, w.before args s = true) (hown : s.vm.findClass "LinkAuditModel" = some m.cls) (hK : va_K D vwC [(cI, .int), (cL, .long), (cG, .array .int), (cZ, .boolean)] s) (hP : va_P D vwC (r_ws cI cL cG cZ ad M) H) (hdg : decode cc pc = .ok (.getfield 53, 3))
    (kk : W p l e R s m args below meth c H locs cells slots Q (F0 m (pc + 3) ls (.ref (ad 15) :: rest))) : W p l e R s m args below meth c H locs cells slots Q (F0 m pc ls (.ref (ad 0) :: rest)) :=
  va_get (D := D) (ci := 10) (v := .ref (ad 15)) (C := "LinkAuditModel") (T := T_LinkAuditModel) (N := 31) hx hb hta i_LinkAuditModel hown hK hP 0 r_c0 rfl 17 (by decide) (hta _ wm_718) (fun _ h9 => h9) rfl hdg kk
theorem xp_LinkAuditModel_115 {p : Program} {l : Launch} {e : Env} {R : Room} {s : State} {m : MethodId} {args : Array Value} {below : List Frame} {meth : Method} {c : Code} {H : Heap} {locs : List Loc} {cells slots : Nat} {Q : State → Prop} {cc : ByteArray} {pc : Nat} {ls : Array Slot} {rest : List Value} {D : va_G} {cI cL cG cZ : ClassId} {ad : Nat → Nat} {M : Mem} {H0 : Heap} {M1 : Mem} {x : Int32} (hx : p.tables.exec = Jvm.exec) (hb : c.code = cc) (hta : ∀ w ∈ ALLW, w.before args s = true) (hown : s.vm.findClass "LinkAuditModel" = some m.cls) (hK : va_K D vwC [(cI, .int), (cL, .long), (cG, .array .int), (cZ, .boolean)] s) (hP : va_P D vwC (r_ws cI cL cG cZ ad M) H) (hD : va_D (r_A ad) (r_ws cI cL cG cZ ad M)) (hS : va_S (r_A ad) H0 H locs) (eM : M1 = u1 M 0 16 x) (hdg : decode cc pc = .ok (.putfield 115, 3))
    (kk : ∀ (H1 : Heap) (locs1 : List Loc), va_P D vwC (r_ws cI cL cG cZ ad M1) H1 → va_S (r_A ad) H0 H1 locs1 → W p l e R s m args below meth c H1 locs1 cells slots Q (F0 m (pc + 3) ls rest)) : W p l e R s m args below meth c H locs cells slots Q (F0 m pc ls (.int x :: .ref (ad 0) :: rest)) := by
  refine va_put (D := D) (ci := 10) (v := .int x) (ty := .int) (C := "LinkAuditModel") (T := T_LinkAuditModel) (N := 31) hx hb hta i_LinkAuditModel t_LinkAuditModel t_LinkAuditModel_ok n_LinkAuditModel hown hK hP hD hS 0 r_c0 rfl 16 (by decide) (hta _ wm_717) (fun _ h9 => h9) rfl (by decide +kernel) rfl rfl (Nat.le_of_ble_eq_true rfl) hdg (fun H1 locs1 h1 _ h3 => kk H1 locs1 ?_ h3)
  rw [eM]
  exact h1
set_option maxHeartbeats 4000000 in
set_option maxRecDepth 100000 in
theorem c_LinkAuditModel_reference {l : Launch} {D : va_G} {cI cL cG cZ : ClassId} {ad : Nat → Nat} {M M' : Mem} {a1 : Int32} {a2 : Int32} {a3 : Int32} {a4 : Int32} {a5 : Int32} {r : Int32} (hD : ∀ M, va_D (r_A ad) (r_ws cI cL cG cZ ad M)) (hf : f_LinkAuditModel_reference M a1 a2 a3 a4 a5 = some (r, M')) : Mi l y_LinkAuditModel_reference (.code y_LinkAuditModel_reference prog_12_method_12_code 7 (some .int) :: ALLW) (rmR 1 22) (Kk D cI cL cG cZ) D vwC (r_A ad) (r_ws cI cL cG cZ ad) [.ref (ad 0), .int a1, .int a2, .int a3, .int a4, .int a5] M M' r := by
  refine Mi_of (by decide) (Nat.le_of_ble_eq_true rfl) ?_
  intro p e s m args below meth c ls Q X hkk hret hP hl
  obtain ⟨hx, hb, hml, hown, hta⟩ := id X
  have hKv := hkk.1
  have hS : va_S (r_A ad) s.heap s.heap [] := va_S.rf
  have hl : lv_has ls 7 [(0, .ref (ad 0)), (1, .int a1), (2, .int a2), (3, .int a3), (4, .int a4), (5, .int a5)] := hl
  unfold f_LinkAuditModel_reference at hf
  refine lv_iload_n hx hb d_LinkAuditModel_reference_0 rfl (lv_at hl 1 rfl) ?_
  refine lv_iconst (v := (1 : Int32)) hx hb d_LinkAuditModel_reference_1 (by decide) ?_
  refine lv_aload_n hx hb d_LinkAuditModel_reference_2 rfl (lv_at hl 0 rfl) ?_
  refine xg_LinkAuditModel_96 hx hb hta hown hKv hP d_LinkAuditModel_reference_3 ?_
  obtain ⟨r12, hc1, hf⟩ := bd1_e hf
  refine xvr_LinkAuditModel_92 X hkk hD (Nat.le_of_ble_eq_true rfl) ⟨by dsimp only [rmR]; omega, by dsimp only [rmR]; omega⟩ ⟨Nat.zero_le _, Nat.zero_le _⟩ hc1 hl.1 hP hS d_LinkAuditModel_reference_6 (fun H locs hP hS => ?_)
  refine lv_if_eq (tgt := 54) hx hb d_LinkAuditModel_reference_9 (by decide) (fun c2 => ?_) (fun c2 => ?_)
  · have hf := ifp c2 hf
    refine lv_iconst (v := (-1 : Int32)) hx hb d_LinkAuditModel_reference_54 (by decide) ?_
    exact hret hf hP hS d_LinkAuditModel_reference_55
  · have hf := ifn c2 hf
    refine lv_iload_n hx hb d_LinkAuditModel_reference_12 rfl (lv_at hl 2 rfl) ?_
    refine lv_iconst (v := (0 : Int32)) hx hb d_LinkAuditModel_reference_13 (by decide) ?_
    refine lv_bipush (v := (23 : Int32)) hx hb d_LinkAuditModel_reference_14 (by decide) ?_
    obtain ⟨r13, hc3, hf⟩ := bd1_e hf
    refine xvr_LinkAuditModel_92 X hkk hD (Nat.le_of_ble_eq_true rfl) ⟨by dsimp only [rmR]; omega, by dsimp only [rmR]; omega⟩ ⟨Nat.zero_le _, Nat.zero_le _⟩ hc3 hl.1 hP hS d_LinkAuditModel_reference_16 (fun H locs hP hS => ?_)
    refine lv_if_eq (tgt := 54) hx hb d_LinkAuditModel_reference_19 (by decide) (fun c4 => ?_) (fun c4 => ?_)
    · have hf := ifp c4 hf
      refine lv_iconst (v := (-1 : Int32)) hx hb d_LinkAuditModel_reference_54 (by decide) ?_
      exact hret hf hP hS d_LinkAuditModel_reference_55
    · have hf := ifn c4 hf
      refine lv_iload_n hx hb d_LinkAuditModel_reference_22 rfl (lv_at hl 3 rfl) ?_
      refine lv_iconst (v := (0 : Int32)) hx hb d_LinkAuditModel_reference_23 (by decide) ?_
      refine lv_bipush (v := (11 : Int32)) hx hb d_LinkAuditModel_reference_24 (by decide) ?_
      obtain ⟨r14, hc5, hf⟩ := bd1_e hf
      refine xvr_LinkAuditModel_92 X hkk hD (Nat.le_of_ble_eq_true rfl) ⟨by dsimp only [rmR]; omega, by dsimp only [rmR]; omega⟩ ⟨Nat.zero_le _, Nat.zero_le _⟩ hc5 hl.1 hP hS d_LinkAuditModel_reference_26 (fun H locs hP hS => ?_)
      refine lv_if_eq (tgt := 54) hx hb d_LinkAuditModel_reference_29 (by decide) (fun c6 => ?_) (fun c6 => ?_)
      · have hf := ifp c6 hf
        refine lv_iconst (v := (-1 : Int32)) hx hb d_LinkAuditModel_reference_54 (by decide) ?_
        exact hret hf hP hS d_LinkAuditModel_reference_55
      · have hf := ifn c6 hf
        refine lv_iload hx hb d_LinkAuditModel_reference_32 (lv_at hl 4 rfl) ?_
        refine lv_iconst (v := (0 : Int32)) hx hb d_LinkAuditModel_reference_34 (by decide) ?_
        refine lv_bipush (v := (12 : Int32)) hx hb d_LinkAuditModel_reference_35 (by decide) ?_
        obtain ⟨r15, hc7, hf⟩ := bd1_e hf
        refine xvr_LinkAuditModel_92 X hkk hD (Nat.le_of_ble_eq_true rfl) ⟨by dsimp only [rmR]; omega, by dsimp only [rmR]; omega⟩ ⟨Nat.zero_le _, Nat.zero_le _⟩ hc7 hl.1 hP hS d_LinkAuditModel_reference_37 (fun H locs hP hS => ?_)
        refine lv_if_eq (tgt := 54) hx hb d_LinkAuditModel_reference_40 (by decide) (fun c8 => ?_) (fun c8 => ?_)
        · have hf := ifp c8 hf
          refine lv_iconst (v := (-1 : Int32)) hx hb d_LinkAuditModel_reference_54 (by decide) ?_
          exact hret hf hP hS d_LinkAuditModel_reference_55
        · have hf := ifn c8 hf
          refine lv_iload hx hb d_LinkAuditModel_reference_43 (lv_at hl 5 rfl) ?_
          refine lv_iconst (v := (0 : Int32)) hx hb d_LinkAuditModel_reference_45 (by decide) ?_
          refine lv_bipush (v := (12 : Int32)) hx hb d_LinkAuditModel_reference_46 (by decide) ?_
          obtain ⟨r16, hc9, hf⟩ := bd1_e hf
          refine xvr_LinkAuditModel_92 X hkk hD (Nat.le_of_ble_eq_true rfl) ⟨by dsimp only [rmR]; omega, by dsimp only [rmR]; omega⟩ ⟨Nat.zero_le _, Nat.zero_le _⟩ hc9 hl.1 hP hS d_LinkAuditModel_reference_48 (fun H locs hP hS => ?_)
          refine lv_if_ne (tgt := 56) hx hb d_LinkAuditModel_reference_51 (by decide) (fun c10 => ?_) (fun c10 => ?_)
          · have hf := ifn c10 hf
            refine lv_aload_n hx hb d_LinkAuditModel_reference_56 rfl (lv_at hl 0 rfl) ?_
            refine xg_LinkAuditModel_115 hx hb hta hown hKv hP d_LinkAuditModel_reference_57 ?_
            refine lv_bipush (v := (12 : Int32)) hx hb d_LinkAuditModel_reference_60 (by decide) ?_
            refine lv_icmp_ne (tgt := 68) hx hb d_LinkAuditModel_reference_62 (by decide) (fun c11 => ?_) (fun c11 => ?_)
            · have hf := ifn c11 hf
              refine lv_iconst (v := (5 : Int32)) hx hb d_LinkAuditModel_reference_68 (by decide) ?_
              refine lv_aload_n hx hb d_LinkAuditModel_reference_69 rfl (lv_at hl 0 rfl) ?_
              refine xg_LinkAuditModel_115 hx hb hta hown hKv hP d_LinkAuditModel_reference_70 ?_
              refine lv_imul hx hb d_LinkAuditModel_reference_73 ?_
              refine lv_istore (lv' := [(6, .int ((5 : Int32) * (M.1 0 16))), (0, .ref (ad 0)), (1, .int a1), (2, .int a2), (3, .int a3), (4, .int a4), (5, .int a5)]) hx hb d_LinkAuditModel_reference_74 hl (by decide) rfl (fun ls hl => ?_)
              refine lv_aload_n hx hb d_LinkAuditModel_reference_76 rfl (lv_at hl 1 rfl) ?_
              refine xg_LinkAuditModel_53 hx hb hta hown hKv hP d_LinkAuditModel_reference_77 ?_
              refine lv_iload hx hb d_LinkAuditModel_reference_80 (lv_at hl 0 rfl) ?_
              refine lv_iload_n hx hb d_LinkAuditModel_reference_82 rfl (lv_at hl 2 rfl) ?_
              obtain ⟨g12, hf⟩ := gd_ok hf
              obtain ⟨M17, eM17, hf⟩ := sm_e hf
              refine x_ist hx hb hKv hP (hD _) hS r_c15 r_s15 g12 eM17 d_LinkAuditModel_reference_83 (fun H locs hP hS => ?_)
              refine lv_aload_n hx hb d_LinkAuditModel_reference_84 rfl (lv_at hl 1 rfl) ?_
              refine xg_LinkAuditModel_53 hx hb hta hown hKv hP d_LinkAuditModel_reference_85 ?_
              refine lv_iload hx hb d_LinkAuditModel_reference_88 (lv_at hl 0 rfl) ?_
              refine lv_iconst (v := (1 : Int32)) hx hb d_LinkAuditModel_reference_90 (by decide) ?_
              refine lv_iadd hx hb d_LinkAuditModel_reference_91 ?_
              refine lv_iload_n hx hb d_LinkAuditModel_reference_92 rfl (lv_at hl 3 rfl) ?_
              obtain ⟨g13, hf⟩ := gd_ok hf
              obtain ⟨M18, eM18, hf⟩ := sm_e hf
              refine x_ist hx hb hKv hP (hD _) hS r_c15 r_s15 g13 eM18 d_LinkAuditModel_reference_93 (fun H locs hP hS => ?_)
              refine lv_aload_n hx hb d_LinkAuditModel_reference_94 rfl (lv_at hl 1 rfl) ?_
              refine xg_LinkAuditModel_53 hx hb hta hown hKv hP d_LinkAuditModel_reference_95 ?_
              refine lv_iload hx hb d_LinkAuditModel_reference_98 (lv_at hl 0 rfl) ?_
              refine lv_iconst (v := (2 : Int32)) hx hb d_LinkAuditModel_reference_100 (by decide) ?_
              refine lv_iadd hx hb d_LinkAuditModel_reference_101 ?_
              refine lv_iload_n hx hb d_LinkAuditModel_reference_102 rfl (lv_at hl 4 rfl) ?_
              obtain ⟨g14, hf⟩ := gd_ok hf
              obtain ⟨M19, eM19, hf⟩ := sm_e hf
              refine x_ist hx hb hKv hP (hD _) hS r_c15 r_s15 g14 eM19 d_LinkAuditModel_reference_103 (fun H locs hP hS => ?_)
              refine lv_aload_n hx hb d_LinkAuditModel_reference_104 rfl (lv_at hl 1 rfl) ?_
              refine xg_LinkAuditModel_53 hx hb hta hown hKv hP d_LinkAuditModel_reference_105 ?_
              refine lv_iload hx hb d_LinkAuditModel_reference_108 (lv_at hl 0 rfl) ?_
              refine lv_iconst (v := (3 : Int32)) hx hb d_LinkAuditModel_reference_110 (by decide) ?_
              refine lv_iadd hx hb d_LinkAuditModel_reference_111 ?_
              refine lv_iload hx hb d_LinkAuditModel_reference_112 (lv_at hl 5 rfl) ?_
              obtain ⟨g15, hf⟩ := gd_ok hf
              obtain ⟨M20, eM20, hf⟩ := sm_e hf
              refine x_ist hx hb hKv hP (hD _) hS r_c15 r_s15 g15 eM20 d_LinkAuditModel_reference_114 (fun H locs hP hS => ?_)
              refine lv_aload_n hx hb d_LinkAuditModel_reference_115 rfl (lv_at hl 1 rfl) ?_
              refine xg_LinkAuditModel_53 hx hb hta hown hKv hP d_LinkAuditModel_reference_116 ?_
              refine lv_iload hx hb d_LinkAuditModel_reference_119 (lv_at hl 0 rfl) ?_
              refine lv_iconst (v := (4 : Int32)) hx hb d_LinkAuditModel_reference_121 (by decide) ?_
              refine lv_iadd hx hb d_LinkAuditModel_reference_122 ?_
              refine lv_iload hx hb d_LinkAuditModel_reference_123 (lv_at hl 6 rfl) ?_
              obtain ⟨g16, hf⟩ := gd_ok hf
              obtain ⟨M21, eM21, hf⟩ := sm_e hf
              refine x_ist hx hb hKv hP (hD _) hS r_c15 r_s15 g16 eM21 d_LinkAuditModel_reference_125 (fun H locs hP hS => ?_)
              refine lv_aload_n hx hb d_LinkAuditModel_reference_126 rfl (lv_at hl 1 rfl) ?_
              refine lv_dup hx hb d_LinkAuditModel_reference_127 rfl ?_
              refine xg_LinkAuditModel_115 hx hb hta hown hKv hP d_LinkAuditModel_reference_128 ?_
              refine lv_iconst (v := (1 : Int32)) hx hb d_LinkAuditModel_reference_131 (by decide) ?_
              refine lv_iadd hx hb d_LinkAuditModel_reference_132 ?_
              obtain ⟨M22, eM22, hf⟩ := sm_e hf
              refine xp_LinkAuditModel_115 hx hb hta hown hKv hP (hD _) hS eM22 d_LinkAuditModel_reference_133 (fun H locs hP hS => ?_)
              refine lv_aload_n hx hb d_LinkAuditModel_reference_136 rfl (lv_at hl 1 rfl) ?_
              refine xg_LinkAuditModel_115 hx hb hta hown hKv hP d_LinkAuditModel_reference_137 ?_
              refine lv_iconst (v := (1 : Int32)) hx hb d_LinkAuditModel_reference_140 (by decide) ?_
              refine lv_isub hx hb d_LinkAuditModel_reference_141 ?_
              exact hret hf hP hS d_LinkAuditModel_reference_142
            · have hf := ifp c11 hf
              refine lv_bipush (v := (-2 : Int32)) hx hb d_LinkAuditModel_reference_65 (by decide) ?_
              exact hret hf hP hS d_LinkAuditModel_reference_67
          · have hf := ifp c10 hf
            refine lv_iconst (v := (-1 : Int32)) hx hb d_LinkAuditModel_reference_54 (by decide) ?_
            exact hret hf hP hS d_LinkAuditModel_reference_55
-- LinkAuditModel.found
set_option maxHeartbeats 4000000 in
set_option maxRecDepth 100000 in
theorem c_LinkAuditModel_found {l : Launch} {D : va_G} {cI cL cG cZ : ClassId} {ad : Nat → Nat} {M : Mem} {a1 : Int32} {a2 : Int32} {r : Int32} (hD : ∀ M, va_D (r_A ad) (r_ws cI cL cG cZ ad M)) (hf : f_LinkAuditModel_found M a1 a2 = some r) : Mi l y_LinkAuditModel_found (.code y_LinkAuditModel_found prog_12_method_6_code 5 (some .int) :: ALLW) (rmR 1 23) (Kk D cI cL cG cZ) D vwC (r_A ad) (r_ws cI cL cG cZ ad) [.ref (ad 0), .int a1, .int a2] M M r := by
  refine Mi_ofR (by decide) (Nat.le_of_ble_eq_true rfl) ?_
  intro p e s m args below meth c ls Q X hkk hret hP hl
  obtain ⟨hx, hb, hml, hown, hta⟩ := id X
  have hKv := hkk.1
  have hS : va_S (r_A ad) s.heap s.heap [] := va_S.rf
  have hl : lv_has ls 5 [(0, .ref (ad 0)), (1, .int a1), (2, .int a2)] := hl
  have b72 : ∀ (x1 : Int32) (x2 : Int32) (x3 : Int32) (H : Heap) (locs : List Loc) (ls : Array Slot), f_LinkAuditModel_found_b72 M x1 x2 x3 = some r → va_P D vwC (r_ws cI cL cG cZ ad M) H → va_S (r_A ad) s.heap H locs → lv_has ls 5 [(0, .ref (ad 0)), (1, .int x1), (2, .int x2), (3, .int x3)] → W p l e (rmR 1 23) s m args below meth c H locs 0 0 Q (F0 m 72 ls []) := by
    intro x1 x2 x3 H locs ls hf hP hS hl
    unfold f_LinkAuditModel_found_b72 at hf
    refine lv_iload_n hx hb d_LinkAuditModel_found_72 rfl (lv_at hl 3 rfl) ?_
    refine lv_if_ne (tgt := 85) hx hb d_LinkAuditModel_found_73 (by decide) (fun c1 => ?_) (fun c1 => ?_)
    · have hf := ifn c1 hf
      refine lv_iload_n hx hb d_LinkAuditModel_found_85 rfl (lv_at hl 3 rfl) ?_
      exact hret hf hP hS d_LinkAuditModel_found_86
    · have hf := ifp c1 hf
      refine lv_aload_n hx hb d_LinkAuditModel_found_76 rfl (lv_at hl 0 rfl) ?_
      refine lv_iload_n hx hb d_LinkAuditModel_found_77 rfl (lv_at hl 1 rfl) ?_
      refine lv_iload_n hx hb d_LinkAuditModel_found_78 rfl (lv_at hl 2 rfl) ?_
      obtain ⟨r5, hc2, hf⟩ := bd1_e hf
      refine xvr_LinkAuditModel_100 X hkk hD (Nat.le_of_ble_eq_true rfl) ⟨by dsimp only [rmR]; omega, by dsimp only [rmR]; omega⟩ ⟨Nat.zero_le _, Nat.zero_le _⟩ hc2 hl.1 hP hS d_LinkAuditModel_found_79 (fun H locs hP hS => ?_)
      refine lv_goto (tgt := 86) hx hb d_LinkAuditModel_found_82 (by decide) ?_
      exact hret hf hP hS d_LinkAuditModel_found_86
  have L34 : ∀ (x1 : Int32) (x2 : Int32), ∀ (ke72 : Int32 → Option Int32), ke72 = (fun y3 => f_LinkAuditModel_found_b72 M x1 x2 y3) → ∀ (n34 : Nat) (x3 : Int32) (x4 : Int32) (H : Heap) (locs : List Loc) (ls : Array Slot), f_LinkAuditModel_found_L34 M x1 x2 ke72 n34 x3 x4 = some r → va_P D vwC (r_ws cI cL cG cZ ad M) H → va_S (r_A ad) s.heap H locs → lv_has ls 5 [(0, .ref (ad 0)), (1, .int x1), (2, .int x2), (3, .int x3), (4, .int x4)] → W p l e (rmR 1 23) s m args below meth c H locs 0 0 Q (F0 m 34 ls []) := by
    intro x1 x2 ke72 hke72 n34
    induction n34 with
    | zero => intro x3 x4 H locs ls hf; exact absurd (show (none : Option _) = some _ from hf) (fun q => by cases q)
    | succ n34 ih34 =>
      intro x3 x4 H locs ls hf hP hS hl
      rw [f_LinkAuditModel_found_L34] at hf
      refine lv_iload hx hb d_LinkAuditModel_found_34 (lv_at hl 4 rfl) ?_
      refine lv_aload_n hx hb d_LinkAuditModel_found_36 rfl (lv_at hl 0 rfl) ?_
      refine xg_LinkAuditModel_7 hx hb hta hown hKv hP d_LinkAuditModel_found_37 ?_
      refine lv_iload_n hx hb d_LinkAuditModel_found_40 rfl (lv_at hl 1 rfl) ?_
      obtain ⟨g3, hf⟩ := gd_ok hf
      refine x_ild hx hb hKv hP r_c1 g3 d_LinkAuditModel_found_41 ?_
      refine lv_icmp_ge (tgt := 72) hx hb d_LinkAuditModel_found_42 (by decide) (fun c4 => ?_) (fun c4 => ?_)
      · have hf := ifp c4 hf
        rw [hke72] at hf
        exact b72 x1 x2 x3 _ _ _ hf hP hS (lv_sub hl [0, 1, 2, 3] rfl)
      · have hf := ifn c4 hf
        refine lv_iload_n hx hb d_LinkAuditModel_found_45 rfl (lv_at hl 3 rfl) ?_
        refine lv_if_ne (tgt := 72) hx hb d_LinkAuditModel_found_46 (by decide) (fun c5 => ?_) (fun c5 => ?_)
        · have hf := ifn c5 hf
          rw [hke72] at hf
          exact b72 x1 x2 x3 _ _ _ hf hP hS (lv_sub hl [0, 1, 2, 3] rfl)
        · have hf := ifp c5 hf
          refine lv_aload_n hx hb d_LinkAuditModel_found_49 rfl (lv_at hl 0 rfl) ?_
          refine lv_aload_n hx hb d_LinkAuditModel_found_50 rfl (lv_at hl 0 rfl) ?_
          refine xg_LinkAuditModel_13 hx hb hta hown hKv hP d_LinkAuditModel_found_51 ?_
          refine lv_iconst (v := (3 : Int32)) hx hb d_LinkAuditModel_found_54 (by decide) ?_
          refine lv_iload_n hx hb d_LinkAuditModel_found_55 rfl (lv_at hl 1 rfl) ?_
          refine lv_imul hx hb d_LinkAuditModel_found_56 ?_
          refine lv_iload hx hb d_LinkAuditModel_found_57 (lv_at hl 4 rfl) ?_
          refine lv_iadd hx hb d_LinkAuditModel_found_59 ?_
          obtain ⟨g6, hf⟩ := gd_ok hf
          refine x_ild hx hb hKv hP r_c2 g6 d_LinkAuditModel_found_60 ?_
          refine lv_iload_n hx hb d_LinkAuditModel_found_61 rfl (lv_at hl 2 rfl) ?_
          obtain ⟨r6, hc7, hf⟩ := bd1_e hf
          refine xvr_LinkAuditModel_100 X hkk hD (Nat.le_of_ble_eq_true rfl) ⟨by dsimp only [rmR]; omega, by dsimp only [rmR]; omega⟩ ⟨Nat.zero_le _, Nat.zero_le _⟩ hc7 hl.1 hP hS d_LinkAuditModel_found_62 (fun H locs hP hS => ?_)
          refine lv_istore_n (lv' := [(3, .int r6), (0, .ref (ad 0)), (1, .int x1), (2, .int x2), (4, .int x4)]) hx hb d_LinkAuditModel_found_65 rfl hl (by decide) rfl (fun ls hl => ?_)
          refine lv_iinc (v := (x4 + (1 : Int32))) (lv' := [(4, .int (x4 + (1 : Int32))), (3, .int r6), (0, .ref (ad 0)), (1, .int x1), (2, .int x2)]) hx hb d_LinkAuditModel_found_66 hl (k := 4) rfl rfl (by decide) rfl (fun ls hl => ?_)
          refine lv_goto (tgt := 34) hx hb d_LinkAuditModel_found_69 (by decide) ?_
          exact ih34 r6 (x4 + (1 : Int32)) _ _ _ hf hP hS (lv_sub hl [2, 3, 4, 1, 0] rfl)
  have b17 : ∀ (x1 : Int32) (x2 : Int32) (H : Heap) (locs : List Loc) (ls : Array Slot), f_LinkAuditModel_found_b17 M x1 x2 = some r → va_P D vwC (r_ws cI cL cG cZ ad M) H → va_S (r_A ad) s.heap H locs → lv_has ls 5 [(0, .ref (ad 0)), (1, .int x1), (2, .int x2)] → W p l e (rmR 1 23) s m args below meth c H locs 0 0 Q (F0 m 17 ls []) := by
    intro x1 x2 H locs ls hf hP hS hl
    unfold f_LinkAuditModel_found_b17 at hf
    refine lv_aload_n hx hb d_LinkAuditModel_found_17 rfl (lv_at hl 0 rfl) ?_
    refine lv_iload_n hx hb d_LinkAuditModel_found_18 rfl (lv_at hl 1 rfl) ?_
    refine lv_iload_n hx hb d_LinkAuditModel_found_19 rfl (lv_at hl 2 rfl) ?_
    obtain ⟨r7, hc8, hf⟩ := bd1_e hf
    refine xvr_LinkAuditModel_100 X hkk hD (Nat.le_of_ble_eq_true rfl) ⟨by dsimp only [rmR]; omega, by dsimp only [rmR]; omega⟩ ⟨Nat.zero_le _, Nat.zero_le _⟩ hc8 hl.1 hP hS d_LinkAuditModel_found_20 (fun H locs hP hS => ?_)
    exact hret hf hP hS d_LinkAuditModel_found_23
  unfold f_LinkAuditModel_found at hf
  refine lv_iload_n hx hb d_LinkAuditModel_found_0 rfl (lv_at hl 1 rfl) ?_
  refine lv_if_eq (tgt := 17) hx hb d_LinkAuditModel_found_1 (by decide) (fun c9 => ?_) (fun c9 => ?_)
  · have hf := ifp c9 hf
    exact b17 a1 a2 _ _ _ hf hP hS (lv_sub hl [0, 1, 2] rfl)
  · have hf := ifn c9 hf
    refine lv_aload_n hx hb d_LinkAuditModel_found_4 rfl (lv_at hl 0 rfl) ?_
    refine xg_LinkAuditModel_16 hx hb hta hown hKv hP d_LinkAuditModel_found_5 ?_
    refine lv_iload_n hx hb d_LinkAuditModel_found_8 rfl (lv_at hl 1 rfl) ?_
    obtain ⟨g10, hf⟩ := gd_ok hf
    refine x_ild hx hb hKv hP r_c3 g10 d_LinkAuditModel_found_9 ?_
    refine lv_iload_n hx hb d_LinkAuditModel_found_10 rfl (lv_at hl 2 rfl) ?_
    refine lv_ishr hx hb d_LinkAuditModel_found_11 ?_
    refine lv_iconst (v := (1 : Int32)) hx hb d_LinkAuditModel_found_12 (by decide) ?_
    refine lv_iand hx hb d_LinkAuditModel_found_13 ?_
    refine lv_if_eq (tgt := 24) hx hb d_LinkAuditModel_found_14 (by decide) (fun c11 => ?_) (fun c11 => ?_)
    · have hf := ifp c11 hf
      refine lv_aload_n hx hb d_LinkAuditModel_found_24 rfl (lv_at hl 0 rfl) ?_
      refine lv_iconst (v := (0 : Int32)) hx hb d_LinkAuditModel_found_25 (by decide) ?_
      refine lv_iload_n hx hb d_LinkAuditModel_found_26 rfl (lv_at hl 2 rfl) ?_
      obtain ⟨r8, hc12, hf⟩ := bd1_e hf
      refine xvr_LinkAuditModel_100 X hkk hD (Nat.le_of_ble_eq_true rfl) ⟨by dsimp only [rmR]; omega, by dsimp only [rmR]; omega⟩ ⟨Nat.zero_le _, Nat.zero_le _⟩ hc12 hl.1 hP hS d_LinkAuditModel_found_27 (fun H locs hP hS => ?_)
      refine lv_istore_n (lv' := [(3, .int r8), (0, .ref (ad 0)), (1, .int a1), (2, .int a2)]) hx hb d_LinkAuditModel_found_30 rfl hl (by decide) rfl (fun ls hl => ?_)
      refine lv_iconst (v := (0 : Int32)) hx hb d_LinkAuditModel_found_31 (by decide) ?_
      refine lv_istore (lv' := [(4, .int (0 : Int32)), (3, .int r8), (0, .ref (ad 0)), (1, .int a1), (2, .int a2)]) hx hb d_LinkAuditModel_found_32 hl (by decide) rfl (fun ls hl => ?_)
      exact L34 a1 a2 _ rfl FU r8 (0 : Int32) _ _ _ hf hP hS (lv_sub hl [2, 3, 4, 1, 0] rfl)
    · have hf := ifn c11 hf
      exact b17 a1 a2 _ _ _ hf hP hS (lv_sub hl [0, 1, 2] rfl)
-- LinkAuditModel.find
theorem xvr_LinkAuditModel_132 {p : Program} {l : Launch} {e : Env} {R : Room} {s : State} {m : MethodId} {args : Array Value} {below : List Frame} {meth : Method} {c : Code} {H : Heap} {locs : List Loc} {cells slots : Nat} {Q : State → Prop} {cc : ByteArray} {pc : Nat} {ls : Array Slot} {rest : List Value} {D : va_G} {cI cL cG cZ : ClassId} {ad : Nat → Nat} {M : Mem} {H0 : Heap} {nL : Nat} {a0 : Int32} {a1 : Int32} {r : Int32} (X : CallFix p m c cc nL s args ALLW "LinkAuditModel") (hkk : Kk D cI cL cG cZ s) (hD : ∀ M, va_D (r_A ad) (r_ws cI cL cG cZ ad M)) (hrest : (rest.map fun v => v.category).sum ≤ 8) (hR : 1 + 1 ≤ R.frames ∧ 8 + (5 + 11) + 23 ≤ R.locals) (hcs : cells + 0 ≤ R.cells ∧ slots + 0 ≤ R.slots) (hc : f_LinkAuditModel_found M a0 a1 = some r) (hsz : ls.size = nL) (hP : va_P D vwC (r_ws cI cL cG cZ ad M) H) (hS : va_S (r_A ad) H0 H locs) (hdg : decode cc pc = .ok (.invokevirtual 132, 3))
    (kk : ∀ (H1 : Heap) (locs1 : List Loc), va_P D vwC (r_ws cI cL cG cZ ad M) H1 → va_S (r_A ad) H0 H1 locs1 → W p l e R s m args below meth c H1 locs1 cells slots Q (F0 m (pc + 3) ls (.int r :: rest))) : W p l e R s m args below meth c H locs cells slots Q (F0 m pc ls (.int a1 :: .int a0 :: .ref (ad 0) :: rest)) := by
  have hta := X.2.2.2.2
  exact x_afterI (va_runV (As := [.int a0, .int a1]) (rest := rest) X (c_LinkAuditModel_found hD hc) ⟨callB_of 2 hta (good_all (L := .code y_LinkAuditModel_found prog_12_method_6_code 5 (some .int) :: ALLW) (List.forall_mem_cons.mpr ⟨wm_842, fun _ h => h⟩)) rfl rfl rfl (hta _ wm_11) (hta _ wm_839) (by decide +kernel) hR, hta _ wm_841, hta _ wp_26⟩ ⟨x_blind Kk_w _, va_recv hkk.1 hP (ci := 10) (q0 := 0) rfl r_c0, x_pre Kk_w hkk hP _⟩ rfl rfl hsz rfl (lv_room hrest) hdg hcs) hS kk
set_option maxHeartbeats 4000000 in
set_option maxRecDepth 100000 in
theorem c_LinkAuditModel_find {l : Launch} {D : va_G} {cI cL cG cZ : ClassId} {ad : Nat → Nat} {M : Mem} {a1 : Int32} {a2 : Int32} {r : Int32} (hD : ∀ M, va_D (r_A ad) (r_ws cI cL cG cZ ad M)) (hf : f_LinkAuditModel_find M a1 a2 = some r) : Mi l y_LinkAuditModel_find (.code y_LinkAuditModel_find prog_12_method_42_code 4 (some .int) :: ALLW) (rmR 2 47) (Kk D cI cL cG cZ) D vwC (r_A ad) (r_ws cI cL cG cZ ad) [.ref (ad 0), .int a1, .int a2] M M r := by
  refine Mi_ofR (by decide) (Nat.le_of_ble_eq_true rfl) ?_
  intro p e s m args below meth c ls Q X hkk hret hP hl
  obtain ⟨hx, hb, hml, hown, hta⟩ := id X
  have hKv := hkk.1
  have hS : va_S (r_A ad) s.heap s.heap [] := va_S.rf
  have hl : lv_has ls 4 [(0, .ref (ad 0)), (1, .int a1), (2, .int a2)] := hl
  unfold f_LinkAuditModel_find at hf
  refine lv_iload_n hx hb d_LinkAuditModel_find_0 rfl (lv_at hl 1 rfl) ?_
  refine lv_iconst (v := (0 : Int32)) hx hb d_LinkAuditModel_find_1 (by decide) ?_
  refine lv_iconst (v := (4 : Int32)) hx hb d_LinkAuditModel_find_2 (by decide) ?_
  obtain ⟨r4, hc1, hf⟩ := bd1_e hf
  refine xvr_LinkAuditModel_92 X hkk hD (Nat.le_of_ble_eq_true rfl) ⟨by dsimp only [rmR]; omega, by dsimp only [rmR]; omega⟩ ⟨Nat.zero_le _, Nat.zero_le _⟩ hc1 hl.1 hP hS d_LinkAuditModel_find_3 (fun H locs hP hS => ?_)
  refine lv_if_eq (tgt := 19) hx hb d_LinkAuditModel_find_6 (by decide) (fun c2 => ?_) (fun c2 => ?_)
  · have hf := ifp c2 hf
    refine lv_iconst (v := (-1 : Int32)) hx hb d_LinkAuditModel_find_19 (by decide) ?_
    exact hret hf hP hS d_LinkAuditModel_find_20
  · have hf := ifn c2 hf
    refine lv_iload_n hx hb d_LinkAuditModel_find_9 rfl (lv_at hl 2 rfl) ?_
    refine lv_iconst (v := (0 : Int32)) hx hb d_LinkAuditModel_find_10 (by decide) ?_
    refine lv_bipush (v := (11 : Int32)) hx hb d_LinkAuditModel_find_11 (by decide) ?_
    obtain ⟨r5, hc3, hf⟩ := bd1_e hf
    refine xvr_LinkAuditModel_92 X hkk hD (Nat.le_of_ble_eq_true rfl) ⟨by dsimp only [rmR]; omega, by dsimp only [rmR]; omega⟩ ⟨Nat.zero_le _, Nat.zero_le _⟩ hc3 hl.1 hP hS d_LinkAuditModel_find_13 (fun H locs hP hS => ?_)
    refine lv_if_ne (tgt := 21) hx hb d_LinkAuditModel_find_16 (by decide) (fun c4 => ?_) (fun c4 => ?_)
    · have hf := ifn c4 hf
      refine lv_aload_n hx hb d_LinkAuditModel_find_21 rfl (lv_at hl 0 rfl) ?_
      refine lv_iload_n hx hb d_LinkAuditModel_find_22 rfl (lv_at hl 1 rfl) ?_
      refine lv_iload_n hx hb d_LinkAuditModel_find_23 rfl (lv_at hl 2 rfl) ?_
      obtain ⟨r6, hc5, hf⟩ := bd1_e hf
      refine xvr_LinkAuditModel_132 X hkk hD (Nat.le_of_ble_eq_true rfl) ⟨by dsimp only [rmR]; omega, by dsimp only [rmR]; omega⟩ ⟨Nat.zero_le _, Nat.zero_le _⟩ hc5 hl.1 hP hS d_LinkAuditModel_find_24 (fun H locs hP hS => ?_)
      refine lv_istore_n (lv' := [(3, .int r6), (0, .ref (ad 0)), (1, .int a1), (2, .int a2)]) hx hb d_LinkAuditModel_find_27 rfl hl (by decide) rfl (fun ls hl => ?_)
      refine lv_iload_n hx hb d_LinkAuditModel_find_28 rfl (lv_at hl 0 rfl) ?_
      refine lv_if_ne (tgt := 37) hx hb d_LinkAuditModel_find_29 (by decide) (fun c6 => ?_) (fun c6 => ?_)
      · have hf := ifn c6 hf
        refine lv_iload_n hx hb d_LinkAuditModel_find_37 rfl (lv_at hl 0 rfl) ?_
        exact hret hf hP hS d_LinkAuditModel_find_38
      · have hf := ifp c6 hf
        refine lv_bipush (v := (-3 : Int32)) hx hb d_LinkAuditModel_find_32 (by decide) ?_
        refine lv_goto (tgt := 38) hx hb d_LinkAuditModel_find_34 (by decide) ?_
        exact hret hf hP hS d_LinkAuditModel_find_38
    · have hf := ifp c4 hf
      refine lv_iconst (v := (-1 : Int32)) hx hb d_LinkAuditModel_find_19 (by decide) ?_
      exact hret hf hP hS d_LinkAuditModel_find_20
-- LinkAuditModel.neighbours
set_option maxHeartbeats 4000000 in
set_option maxRecDepth 100000 in
theorem c_LinkAuditModel_neighbours {l : Launch} {D : va_G} {cI cL cG cZ : ClassId} {ad : Nat → Nat} {M : Mem} {a1 : Int32} {a2 : Int32} {r : Int32} (hD : ∀ M, va_D (r_A ad) (r_ws cI cL cG cZ ad M)) (hf : f_LinkAuditModel_neighbours M a1 a2 = some r) : Mi l y_LinkAuditModel_neighbours (.code y_LinkAuditModel_neighbours prog_12_method_13_code 3 (some .boolean) :: ALLW) (rmR 0 0) (Kk D cI cL cG cZ) D vwC (r_A ad) (r_ws cI cL cG cZ ad) [.ref (ad 0), .int a1, .int a2] M M r := by
  refine Mz_ofR (by decide) (Nat.le_of_ble_eq_true rfl) ?_
  intro p e s m args below meth c ls Q X hkk hret hP hl
  obtain ⟨hx, hb, hml, hown, hta⟩ := id X
  have hKv := hkk.1
  have hS : va_S (r_A ad) s.heap s.heap [] := va_S.rf
  have hl : lv_has ls 3 [(0, .ref (ad 0)), (1, .int a1), (2, .int a2)] := hl
  unfold f_LinkAuditModel_neighbours at hf
  refine lv_aload_n hx hb d_LinkAuditModel_neighbours_0 rfl (lv_at hl 0 rfl) ?_
  refine xg_LinkAuditModel_19 hx hb hta hown hKv hP d_LinkAuditModel_neighbours_1 ?_
  refine lv_iload_n hx hb d_LinkAuditModel_neighbours_4 rfl (lv_at hl 1 rfl) ?_
  obtain ⟨g1, hf⟩ := gd_ok hf
  refine x_ild hx hb hKv hP r_c4 g1 d_LinkAuditModel_neighbours_5 ?_
  refine lv_aload_n hx hb d_LinkAuditModel_neighbours_6 rfl (lv_at hl 0 rfl) ?_
  refine xg_LinkAuditModel_19 hx hb hta hown hKv hP d_LinkAuditModel_neighbours_7 ?_
  refine lv_iload_n hx hb d_LinkAuditModel_neighbours_10 rfl (lv_at hl 2 rfl) ?_
  obtain ⟨g2, hf⟩ := gd_ok hf
  refine x_ild hx hb hKv hP r_c4 g2 d_LinkAuditModel_neighbours_11 ?_
  refine lv_icmp_ne (tgt := 38) hx hb d_LinkAuditModel_neighbours_12 (by decide) (fun c3 => ?_) (fun c3 => ?_)
  · have hf := ifn c3 hf
    refine lv_iconst (v := (0 : Int32)) hx hb d_LinkAuditModel_neighbours_38 (by decide) ?_
    exact hret (Or.inl rfl) hf hP hS d_LinkAuditModel_neighbours_39
  · have hf := ifp c3 hf
    refine lv_aload_n hx hb d_LinkAuditModel_neighbours_15 rfl (lv_at hl 0 rfl) ?_
    refine xg_LinkAuditModel_22 hx hb hta hown hKv hP d_LinkAuditModel_neighbours_16 ?_
    refine lv_iload_n hx hb d_LinkAuditModel_neighbours_19 rfl (lv_at hl 1 rfl) ?_
    obtain ⟨g4, hf⟩ := gd_ok hf
    refine x_ild hx hb hKv hP r_c5 g4 d_LinkAuditModel_neighbours_20 ?_
    refine lv_iconst (v := (4 : Int32)) hx hb d_LinkAuditModel_neighbours_21 (by decide) ?_
    refine lv_idiv hx hb d_LinkAuditModel_neighbours_22 (by decide) ?_
    refine lv_aload_n hx hb d_LinkAuditModel_neighbours_23 rfl (lv_at hl 0 rfl) ?_
    refine xg_LinkAuditModel_22 hx hb hta hown hKv hP d_LinkAuditModel_neighbours_24 ?_
    refine lv_iload_n hx hb d_LinkAuditModel_neighbours_27 rfl (lv_at hl 2 rfl) ?_
    obtain ⟨g5, hf⟩ := gd_ok hf
    refine x_ild hx hb hKv hP r_c5 g5 d_LinkAuditModel_neighbours_28 ?_
    refine lv_iconst (v := (4 : Int32)) hx hb d_LinkAuditModel_neighbours_29 (by decide) ?_
    refine lv_idiv hx hb d_LinkAuditModel_neighbours_30 (by decide) ?_
    refine lv_icmp_ne (tgt := 38) hx hb d_LinkAuditModel_neighbours_31 (by decide) (fun c6 => ?_) (fun c6 => ?_)
    · have hf := ifn c6 hf
      refine lv_iconst (v := (0 : Int32)) hx hb d_LinkAuditModel_neighbours_38 (by decide) ?_
      exact hret (Or.inl rfl) hf hP hS d_LinkAuditModel_neighbours_39
    · have hf := ifp c6 hf
      refine lv_iconst (v := (1 : Int32)) hx hb d_LinkAuditModel_neighbours_34 (by decide) ?_
      refine lv_goto (tgt := 39) hx hb d_LinkAuditModel_neighbours_35 (by decide) ?_
      exact hret (Or.inr rfl) hf hP hS d_LinkAuditModel_neighbours_39
-- LinkAuditModel.mayUse
theorem xvr_LinkAuditModel_118 {p : Program} {l : Launch} {e : Env} {R : Room} {s : State} {m : MethodId} {args : Array Value} {below : List Frame} {meth : Method} {c : Code} {H : Heap} {locs : List Loc} {cells slots : Nat} {Q : State → Prop} {cc : ByteArray} {pc : Nat} {ls : Array Slot} {rest : List Value} {D : va_G} {cI cL cG cZ : ClassId} {ad : Nat → Nat} {M : Mem} {H0 : Heap} {nL : Nat} {a0 : Int32} {a1 : Int32} {r : Int32} (X : CallFix p m c cc nL s args ALLW "LinkAuditModel") (hkk : Kk D cI cL cG cZ s) (hD : ∀ M, va_D (r_A ad) (r_ws cI cL cG cZ ad M)) (hrest : (rest.map fun v => v.category).sum ≤ 8) (hR : 0 + 1 ≤ R.frames ∧ 8 + (3 + 11) + 0 ≤ R.locals) (hcs : cells + 0 ≤ R.cells ∧ slots + 0 ≤ R.slots) (hc : f_LinkAuditModel_neighbours M a0 a1 = some r) (hsz : ls.size = nL) (hP : va_P D vwC (r_ws cI cL cG cZ ad M) H) (hS : va_S (r_A ad) H0 H locs) (hdg : decode cc pc = .ok (.invokevirtual 118, 3))
    (kk : ∀ (H1 : Heap) (locs1 : List Loc), va_P D vwC (r_ws cI cL cG cZ ad M) H1 → va_S (r_A ad) H0 H1 locs1 → W p l e R s m args below meth c H1 locs1 cells slots Q (F0 m (pc + 3) ls (.int r :: rest))) : W p l e R s m args below meth c H locs cells slots Q (F0 m pc ls (.int a1 :: .int a0 :: .ref (ad 0) :: rest)) := by
  have hta := X.2.2.2.2
  exact x_afterI (va_runV (As := [.int a0, .int a1]) (rest := rest) X (c_LinkAuditModel_neighbours hD hc) ⟨callB_of 2 hta (good_all (L := .code y_LinkAuditModel_neighbours prog_12_method_13_code 3 (some .boolean) :: ALLW) (List.forall_mem_cons.mpr ⟨wm_862, fun _ h => h⟩)) rfl rfl rfl (hta _ wm_11) (hta _ wm_859) (by decide +kernel) hR, hta _ wm_861, hta _ wp_30⟩ ⟨x_blind Kk_w _, va_recv hkk.1 hP (ci := 10) (q0 := 0) rfl r_c0, x_pre Kk_w hkk hP _⟩ rfl rfl hsz rfl (lv_room hrest) hdg hcs) hS kk
set_option maxHeartbeats 4000000 in
set_option maxRecDepth 100000 in
theorem c_LinkAuditModel_mayUse {l : Launch} {D : va_G} {cI cL cG cZ : ClassId} {ad : Nat → Nat} {M : Mem} {a1 : Int32} {a2 : Int32} {r : Int32} (hD : ∀ M, va_D (r_A ad) (r_ws cI cL cG cZ ad M)) (hf : f_LinkAuditModel_mayUse M a1 a2 = some r) : Mi l y_LinkAuditModel_mayUse (.code y_LinkAuditModel_mayUse prog_12_method_14_code 3 (some .boolean) :: ALLW) (rmR 1 22) (Kk D cI cL cG cZ) D vwC (r_A ad) (r_ws cI cL cG cZ ad) [.ref (ad 0), .int a1, .int a2] M M r := by
  refine Mz_ofR (by decide) (Nat.le_of_ble_eq_true rfl) ?_
  intro p e s m args below meth c ls Q X hkk hret hP hl
  obtain ⟨hx, hb, hml, hown, hta⟩ := id X
  have hKv := hkk.1
  have hS : va_S (r_A ad) s.heap s.heap [] := va_S.rf
  have hl : lv_has ls 3 [(0, .ref (ad 0)), (1, .int a1), (2, .int a2)] := hl
  unfold f_LinkAuditModel_mayUse at hf
  refine lv_aload_n hx hb d_LinkAuditModel_mayUse_0 rfl (lv_at hl 0 rfl) ?_
  refine xg_LinkAuditModel_25 hx hb hta hown hKv hP d_LinkAuditModel_mayUse_1 ?_
  refine lv_iload_n hx hb d_LinkAuditModel_mayUse_4 rfl (lv_at hl 2 rfl) ?_
  obtain ⟨g1, hf⟩ := gd_ok hf
  refine x_ild hx hb hKv hP r_c6 g1 d_LinkAuditModel_mayUse_5 ?_
  refine lv_iconst (v := (1 : Int32)) hx hb d_LinkAuditModel_mayUse_6 (by decide) ?_
  refine lv_iand hx hb d_LinkAuditModel_mayUse_7 ?_
  refine lv_if_ne (tgt := 20) hx hb d_LinkAuditModel_mayUse_8 (by decide) (fun c2 => ?_) (fun c2 => ?_)
  · have hf := ifn c2 hf
    refine lv_iconst (v := (1 : Int32)) hx hb d_LinkAuditModel_mayUse_20 (by decide) ?_
    refine lv_goto (tgt := 25) hx hb d_LinkAuditModel_mayUse_21 (by decide) ?_
    exact hret (Or.inr rfl) hf hP hS d_LinkAuditModel_mayUse_25
  · have hf := ifp c2 hf
    refine lv_aload_n hx hb d_LinkAuditModel_mayUse_11 rfl (lv_at hl 0 rfl) ?_
    refine lv_iload_n hx hb d_LinkAuditModel_mayUse_12 rfl (lv_at hl 2 rfl) ?_
    refine lv_iload_n hx hb d_LinkAuditModel_mayUse_13 rfl (lv_at hl 1 rfl) ?_
    obtain ⟨r2, hc3, hf⟩ := bd1_e hf
    refine xvr_LinkAuditModel_118 X hkk hD (Nat.le_of_ble_eq_true rfl) ⟨by dsimp only [rmR]; omega, by dsimp only [rmR]; omega⟩ ⟨Nat.zero_le _, Nat.zero_le _⟩ hc3 hl.1 hP hS d_LinkAuditModel_mayUse_14 (fun H locs hP hS => ?_)
    refine lv_if_eq (tgt := 24) hx hb d_LinkAuditModel_mayUse_17 (by decide) (fun c4 => ?_) (fun c4 => ?_)
    · have hf := ifp c4 hf
      refine lv_iconst (v := (0 : Int32)) hx hb d_LinkAuditModel_mayUse_24 (by decide) ?_
      exact hret (Or.inl rfl) hf hP hS d_LinkAuditModel_mayUse_25
    · have hf := ifn c4 hf
      refine lv_iconst (v := (1 : Int32)) hx hb d_LinkAuditModel_mayUse_20 (by decide) ?_
      refine lv_goto (tgt := 25) hx hb d_LinkAuditModel_mayUse_21 (by decide) ?_
      exact hret (Or.inr rfl) hf hP hS d_LinkAuditModel_mayUse_25
-- LinkAuditModel.fits
theorem xvr_LinkAuditModel_122 {p : Program} {l : Launch} {e : Env} {R : Room} {s : State} {m : MethodId} {args : Array Value} {below : List Frame} {meth : Method} {c : Code} {H : Heap} {locs : List Loc} {cells slots : Nat} {Q : State → Prop} {cc : ByteArray} {pc : Nat} {ls : Array Slot} {rest : List Value} {D : va_G} {cI cL cG cZ : ClassId} {ad : Nat → Nat} {M : Mem} {H0 : Heap} {nL : Nat} {a0 : Int32} {a1 : Int32} {r : Int32} (X : CallFix p m c cc nL s args ALLW "LinkAuditModel") (hkk : Kk D cI cL cG cZ s) (hD : ∀ M, va_D (r_A ad) (r_ws cI cL cG cZ ad M)) (hrest : (rest.map fun v => v.category).sum ≤ 8) (hR : 1 + 1 ≤ R.frames ∧ 8 + (3 + 11) + 22 ≤ R.locals) (hcs : cells + 0 ≤ R.cells ∧ slots + 0 ≤ R.slots) (hc : f_LinkAuditModel_mayUse M a0 a1 = some r) (hsz : ls.size = nL) (hP : va_P D vwC (r_ws cI cL cG cZ ad M) H) (hS : va_S (r_A ad) H0 H locs) (hdg : decode cc pc = .ok (.invokevirtual 122, 3))
    (kk : ∀ (H1 : Heap) (locs1 : List Loc), va_P D vwC (r_ws cI cL cG cZ ad M) H1 → va_S (r_A ad) H0 H1 locs1 → W p l e R s m args below meth c H1 locs1 cells slots Q (F0 m (pc + 3) ls (.int r :: rest))) : W p l e R s m args below meth c H locs cells slots Q (F0 m pc ls (.int a1 :: .int a0 :: .ref (ad 0) :: rest)) := by
  have hta := X.2.2.2.2
  exact x_afterI (va_runV (As := [.int a0, .int a1]) (rest := rest) X (c_LinkAuditModel_mayUse hD hc) ⟨callB_of 2 hta (good_all (L := .code y_LinkAuditModel_mayUse prog_12_method_14_code 3 (some .boolean) :: ALLW) (List.forall_mem_cons.mpr ⟨wm_858, fun _ h => h⟩)) rfl rfl rfl (hta _ wm_11) (hta _ wm_855) (by decide +kernel) hR, hta _ wm_857, hta _ wp_29⟩ ⟨x_blind Kk_w _, va_recv hkk.1 hP (ci := 10) (q0 := 0) rfl r_c0, x_pre Kk_w hkk hP _⟩ rfl rfl hsz rfl (lv_room hrest) hdg hcs) hS kk
set_option maxHeartbeats 4000000 in
set_option maxRecDepth 100000 in
theorem c_LinkAuditModel_fits {l : Launch} {D : va_G} {cI cL cG cZ : ClassId} {ad : Nat → Nat} {M : Mem} {a1 : Int32} {a2 : Int32} {a3 : Int32} {r : Int32} (hD : ∀ M, va_D (r_A ad) (r_ws cI cL cG cZ ad M)) (hf : f_LinkAuditModel_fits M a1 a2 a3 = some r) : Mi l y_LinkAuditModel_fits (.code y_LinkAuditModel_fits prog_12_method_16_code 5 (some .int) :: ALLW) (rmR 2 44) (Kk D cI cL cG cZ) D vwC (r_A ad) (r_ws cI cL cG cZ ad) [.ref (ad 0), .int a1, .int a2, .int a3] M M r := by
  refine Mi_ofR (by decide) (Nat.le_of_ble_eq_true rfl) ?_
  intro p e s m args below meth c ls Q X hkk hret hP hl
  obtain ⟨hx, hb, hml, hown, hta⟩ := id X
  have hKv := hkk.1
  have hS : va_S (r_A ad) s.heap s.heap [] := va_S.rf
  have hl : lv_has ls 5 [(0, .ref (ad 0)), (1, .int a1), (2, .int a2), (3, .int a3)] := hl
  have b37 : ∀ (x1 : Int32) (x3 : Int32) (t0 : Int32) (H : Heap) (locs : List Loc) (ls : Array Slot), f_LinkAuditModel_fits_b37 M x1 x3 t0 = some r → va_P D vwC (r_ws cI cL cG cZ ad M) H → va_S (r_A ad) s.heap H locs → lv_has ls 5 [(0, .ref (ad 0)), (1, .int x1), (3, .int x3)] → W p l e (rmR 2 44) s m args below meth c H locs 0 0 Q (F0 m 37 ls [.int t0]) := by
    intro x1 x3 t0 H locs ls hf hP hS hl
    unfold f_LinkAuditModel_fits_b37 at hf
    refine lv_istore (lv' := [(4, .int t0), (0, .ref (ad 0)), (1, .int x1), (3, .int x3)]) hx hb d_LinkAuditModel_fits_37 hl (by decide) rfl (fun ls hl => ?_)
    refine lv_iload hx hb d_LinkAuditModel_fits_39 (lv_at hl 0 rfl) ?_
    refine lv_if_eq (tgt := 49) hx hb d_LinkAuditModel_fits_41 (by decide) (fun c1 => ?_) (fun c1 => ?_)
    · have hf := ifp c1 hf
      refine lv_aload_n hx hb d_LinkAuditModel_fits_49 rfl (lv_at hl 1 rfl) ?_
      refine lv_iload_n hx hb d_LinkAuditModel_fits_50 rfl (lv_at hl 2 rfl) ?_
      refine lv_iload_n hx hb d_LinkAuditModel_fits_51 rfl (lv_at hl 3 rfl) ?_
      obtain ⟨r3, hc2, hf⟩ := bd1_e hf
      refine xvr_LinkAuditModel_122 X hkk hD (Nat.le_of_ble_eq_true rfl) ⟨by dsimp only [rmR]; omega, by dsimp only [rmR]; omega⟩ ⟨Nat.zero_le _, Nat.zero_le _⟩ hc2 hl.1 hP hS d_LinkAuditModel_fits_52 (fun H locs hP hS => ?_)
      refine lv_if_eq (tgt := 62) hx hb d_LinkAuditModel_fits_55 (by decide) (fun c3 => ?_) (fun c3 => ?_)
      · have hf := ifp c3 hf
        refine lv_bipush (v := (-6 : Int32)) hx hb d_LinkAuditModel_fits_62 (by decide) ?_
        exact hret hf hP hS d_LinkAuditModel_fits_64
      · have hf := ifn c3 hf
        refine lv_iconst (v := (0 : Int32)) hx hb d_LinkAuditModel_fits_58 (by decide) ?_
        refine lv_goto (tgt := 64) hx hb d_LinkAuditModel_fits_59 (by decide) ?_
        exact hret hf hP hS d_LinkAuditModel_fits_64
    · have hf := ifn c1 hf
      refine lv_bipush (v := (-5 : Int32)) hx hb d_LinkAuditModel_fits_44 (by decide) ?_
      refine lv_goto (tgt := 64) hx hb d_LinkAuditModel_fits_46 (by decide) ?_
      exact hret hf hP hS d_LinkAuditModel_fits_64
  unfold f_LinkAuditModel_fits at hf
  refine lv_iload_n hx hb d_LinkAuditModel_fits_0 rfl (lv_at hl 2 rfl) ?_
  refine lv_if_ne (tgt := 24) hx hb d_LinkAuditModel_fits_1 (by decide) (fun c4 => ?_) (fun c4 => ?_)
  · have hf := ifn c4 hf
    refine lv_aload_n hx hb d_LinkAuditModel_fits_24 rfl (lv_at hl 0 rfl) ?_
    refine lv_iload_n hx hb d_LinkAuditModel_fits_25 rfl (lv_at hl 3 rfl) ?_
    obtain ⟨r4, hc5, hf⟩ := bd1_e hf
    refine xvr_LinkAuditModel_111 X hkk hD (Nat.le_of_ble_eq_true rfl) ⟨by dsimp only [rmR]; omega, by dsimp only [rmR]; omega⟩ ⟨Nat.zero_le _, Nat.zero_le _⟩ hc5 hl.1 hP hS d_LinkAuditModel_fits_26 (fun H locs hP hS => ?_)
    refine lv_if_ne (tgt := 36) hx hb d_LinkAuditModel_fits_29 (by decide) (fun c6 => ?_) (fun c6 => ?_)
    · have hf := ifn c6 hf
      refine lv_iconst (v := (0 : Int32)) hx hb d_LinkAuditModel_fits_36 (by decide) ?_
      exact b37 a1 a3 (0 : Int32) _ _ _ hf hP hS (lv_sub hl [0, 1, 3] rfl)
    · have hf := ifp c6 hf
      refine lv_iconst (v := (1 : Int32)) hx hb d_LinkAuditModel_fits_32 (by decide) ?_
      refine lv_goto (tgt := 37) hx hb d_LinkAuditModel_fits_33 (by decide) ?_
      exact b37 a1 a3 (1 : Int32) _ _ _ hf hP hS (lv_sub hl [0, 1, 3] rfl)
  · have hf := ifp c4 hf
    refine lv_aload_n hx hb d_LinkAuditModel_fits_4 rfl (lv_at hl 0 rfl) ?_
    refine xg_LinkAuditModel_25 hx hb hta hown hKv hP d_LinkAuditModel_fits_5 ?_
    refine lv_iload_n hx hb d_LinkAuditModel_fits_8 rfl (lv_at hl 3 rfl) ?_
    obtain ⟨g7, hf⟩ := gd_ok hf
    refine x_ild hx hb hKv hP r_c6 g7 d_LinkAuditModel_fits_9 ?_
    refine lv_bipush (v := (10 : Int32)) hx hb d_LinkAuditModel_fits_10 (by decide) ?_
    refine lv_iand hx hb d_LinkAuditModel_fits_12 ?_
    refine lv_if_eq (tgt := 20) hx hb d_LinkAuditModel_fits_13 (by decide) (fun c8 => ?_) (fun c8 => ?_)
    · have hf := ifp c8 hf
      refine lv_iconst (v := (0 : Int32)) hx hb d_LinkAuditModel_fits_20 (by decide) ?_
      refine lv_goto (tgt := 37) hx hb d_LinkAuditModel_fits_21 (by decide) ?_
      exact b37 a1 a3 (0 : Int32) _ _ _ hf hP hS (lv_sub hl [0, 1, 3] rfl)
    · have hf := ifn c8 hf
      refine lv_iconst (v := (1 : Int32)) hx hb d_LinkAuditModel_fits_16 (by decide) ?_
      refine lv_goto (tgt := 37) hx hb d_LinkAuditModel_fits_17 (by decide) ?_
      exact b37 a1 a3 (1 : Int32) _ _ _ hf hP hS (lv_sub hl [0, 1, 3] rfl)
-- LinkAuditModel.wanted
set_option maxHeartbeats 4000000 in
set_option maxRecDepth 100000 in
theorem c_LinkAuditModel_wanted {l : Launch} {D : va_G} {cI cL cG cZ : ClassId} {ad : Nat → Nat} {M : Mem} {a1 : Int32} {a2 : Int32} {r : Int32} (hD : ∀ M, va_D (r_A ad) (r_ws cI cL cG cZ ad M)) (hf : f_LinkAuditModel_wanted M a1 a2 = some r) : Mi l y_LinkAuditModel_wanted (.code y_LinkAuditModel_wanted prog_12_method_15_code 3 (some .int) :: ALLW) (rmR 0 0) (Kk D cI cL cG cZ) D vwC (r_A ad) (r_ws cI cL cG cZ ad) [.ref (ad 0), .int a1, .int a2] M M r := by
  refine Mi_ofR (by decide) (Nat.le_of_ble_eq_true rfl) ?_
  intro p e s m args below meth c ls Q X hkk hret hP hl
  obtain ⟨hx, hb, hml, hown, hta⟩ := id X
  have hKv := hkk.1
  have hS : va_S (r_A ad) s.heap s.heap [] := va_S.rf
  have hl : lv_has ls 3 [(0, .ref (ad 0)), (1, .int a1), (2, .int a2)] := hl
  unfold f_LinkAuditModel_wanted at hf
  refine lv_iload_n hx hb d_LinkAuditModel_wanted_0 rfl (lv_at hl 2 rfl) ?_
  refine lv_if_ne (tgt := 26) hx hb d_LinkAuditModel_wanted_1 (by decide) (fun c1 => ?_) (fun c1 => ?_)
  · have hf := ifn c1 hf
    refine lv_aload_n hx hb d_LinkAuditModel_wanted_26 rfl (lv_at hl 0 rfl) ?_
    refine xg_LinkAuditModel_31 hx hb hta hown hKv hP d_LinkAuditModel_wanted_27 ?_
    refine lv_iload_n hx hb d_LinkAuditModel_wanted_30 rfl (lv_at hl 1 rfl) ?_
    obtain ⟨g2, hf⟩ := gd_ok hf
    refine x_ild hx hb hKv hP r_c8 g2 d_LinkAuditModel_wanted_31 ?_
    refine lv_iload_n hx hb d_LinkAuditModel_wanted_32 rfl (lv_at hl 2 rfl) ?_
    refine lv_iconst (v := (1 : Int32)) hx hb d_LinkAuditModel_wanted_33 (by decide) ?_
    refine lv_isub hx hb d_LinkAuditModel_wanted_34 ?_
    refine lv_ishr hx hb d_LinkAuditModel_wanted_35 ?_
    refine lv_iconst (v := (1 : Int32)) hx hb d_LinkAuditModel_wanted_36 (by decide) ?_
    refine lv_iand hx hb d_LinkAuditModel_wanted_37 ?_
    refine lv_if_eq (tgt := 47) hx hb d_LinkAuditModel_wanted_38 (by decide) (fun c3 => ?_) (fun c3 => ?_)
    · have hf := ifp c3 hf
      refine lv_iconst (v := (-1 : Int32)) hx hb d_LinkAuditModel_wanted_47 (by decide) ?_
      exact hret hf hP hS d_LinkAuditModel_wanted_48
    · have hf := ifn c3 hf
      refine lv_iload_n hx hb d_LinkAuditModel_wanted_41 rfl (lv_at hl 2 rfl) ?_
      refine lv_iconst (v := (1 : Int32)) hx hb d_LinkAuditModel_wanted_42 (by decide) ?_
      refine lv_isub hx hb d_LinkAuditModel_wanted_43 ?_
      refine lv_goto (tgt := 48) hx hb d_LinkAuditModel_wanted_44 (by decide) ?_
      exact hret hf hP hS d_LinkAuditModel_wanted_48
  · have hf := ifp c1 hf
    refine lv_aload_n hx hb d_LinkAuditModel_wanted_4 rfl (lv_at hl 0 rfl) ?_
    refine xg_LinkAuditModel_28 hx hb hta hown hKv hP d_LinkAuditModel_wanted_5 ?_
    refine lv_iload_n hx hb d_LinkAuditModel_wanted_8 rfl (lv_at hl 1 rfl) ?_
    obtain ⟨g4, hf⟩ := gd_ok hf
    refine x_ild hx hb hKv hP r_c7 g4 d_LinkAuditModel_wanted_9 ?_
    refine lv_bipush (v := (12 : Int32)) hx hb d_LinkAuditModel_wanted_10 (by decide) ?_
    refine lv_icmp_ne (tgt := 19) hx hb d_LinkAuditModel_wanted_12 (by decide) (fun c5 => ?_) (fun c5 => ?_)
    · have hf := ifn c5 hf
      refine lv_aload_n hx hb d_LinkAuditModel_wanted_19 rfl (lv_at hl 0 rfl) ?_
      refine xg_LinkAuditModel_28 hx hb hta hown hKv hP d_LinkAuditModel_wanted_20 ?_
      refine lv_iload_n hx hb d_LinkAuditModel_wanted_23 rfl (lv_at hl 1 rfl) ?_
      obtain ⟨g6, hf⟩ := gd_ok hf
      refine x_ild hx hb hKv hP r_c7 g6 d_LinkAuditModel_wanted_24 ?_
      exact hret hf hP hS d_LinkAuditModel_wanted_25
    · have hf := ifp c5 hf
      refine lv_iconst (v := (-1 : Int32)) hx hb d_LinkAuditModel_wanted_15 (by decide) ?_
      refine lv_goto (tgt := 25) hx hb d_LinkAuditModel_wanted_16 (by decide) ?_
      exact hret hf hP hS d_LinkAuditModel_wanted_25
-- LinkAuditModel.loadCode
theorem xg_LinkAuditModel_71 {p : Program} {l : Launch} {e : Env} {R : Room} {s : State} {m : MethodId} {args : Array Value} {below : List Frame} {meth : Method} {c : Code} {H : Heap} {locs : List Loc} {cells slots : Nat} {Q : State → Prop} {cc : ByteArray} {pc : Nat} {ls : Array Slot} {rest : List Value} {D : va_G} {cI cL cG cZ : ClassId} {ad : Nat → Nat} {M : Mem} (hx : p.tables.exec = Jvm.exec) (hb : c.code = cc) (hta : ∀ w ∈ ALLW, w.before args s = true) (hown : s.vm.findClass "LinkAuditModel" = some m.cls) (hK : va_K D vwC [(cI, .int), (cL, .long), (cG, .array .int), (cZ, .boolean)] s) (hP : va_P D vwC (r_ws cI cL cG cZ ad M) H) (hdg : decode cc pc = .ok (.getfield 71, 3))
    (kk : W p l e R s m args below meth c H locs cells slots Q (F0 m (pc + 3) ls (.ref (ad 21) :: rest))) : W p l e R s m args below meth c H locs cells slots Q (F0 m pc ls (.ref (ad 0) :: rest)) :=
  va_get (D := D) (ci := 10) (v := .ref (ad 21)) (C := "LinkAuditModel") (T := T_LinkAuditModel) (N := 31) hx hb hta i_LinkAuditModel hown hK hP 0 r_c0 rfl 23 (by decide) (hta _ wm_724) (fun _ h9 => h9) rfl hdg kk
theorem xg_LinkAuditModel_74 {p : Program} {l : Launch} {e : Env} {R : Room} {s : State} {m : MethodId} {args : Array Value} {below : List Frame} {meth : Method} {c : Code} {H : Heap} {locs : List Loc} {cells slots : Nat} {Q : State → Prop} {cc : ByteArray} {pc : Nat} {ls : Array Slot} {rest : List Value} {D : va_G} {cI cL cG cZ : ClassId} {ad : Nat → Nat} {M : Mem} (hx : p.tables.exec = Jvm.exec) (hb : c.code = cc) (hta : ∀ w ∈ ALLW, w.before args s = true) (hown : s.vm.findClass "LinkAuditModel" = some m.cls) (hK : va_K D vwC [(cI, .int), (cL, .long), (cG, .array .int), (cZ, .boolean)] s) (hP : va_P D vwC (r_ws cI cL cG cZ ad M) H) (hdg : decode cc pc = .ok (.getfield 74, 3))
    (kk : W p l e R s m args below meth c H locs cells slots Q (F0 m (pc + 3) ls (.ref (ad 22) :: rest))) : W p l e R s m args below meth c H locs cells slots Q (F0 m pc ls (.ref (ad 0) :: rest)) :=
  va_get (D := D) (ci := 10) (v := .ref (ad 22)) (C := "LinkAuditModel") (T := T_LinkAuditModel) (N := 31) hx hb hta i_LinkAuditModel hown hK hP 0 r_c0 rfl 24 (by decide) (hta _ wm_725) (fun _ h9 => h9) rfl hdg kk
theorem xvr_LinkAuditModel_129 {p : Program} {l : Launch} {e : Env} {R : Room} {s : State} {m : MethodId} {args : Array Value} {below : List Frame} {meth : Method} {c : Code} {H : Heap} {locs : List Loc} {cells slots : Nat} {Q : State → Prop} {cc : ByteArray} {pc : Nat} {ls : Array Slot} {rest : List Value} {D : va_G} {cI cL cG cZ : ClassId} {ad : Nat → Nat} {M : Mem} {H0 : Heap} {nL : Nat} {a0 : Int32} {a1 : Int32} {r : Int32} (X : CallFix p m c cc nL s args ALLW "LinkAuditModel") (hkk : Kk D cI cL cG cZ s) (hD : ∀ M, va_D (r_A ad) (r_ws cI cL cG cZ ad M)) (hrest : (rest.map fun v => v.category).sum ≤ 8) (hR : 0 + 1 ≤ R.frames ∧ 8 + (3 + 11) + 0 ≤ R.locals) (hcs : cells + 0 ≤ R.cells ∧ slots + 0 ≤ R.slots) (hc : f_LinkAuditModel_wanted M a0 a1 = some r) (hsz : ls.size = nL) (hP : va_P D vwC (r_ws cI cL cG cZ ad M) H) (hS : va_S (r_A ad) H0 H locs) (hdg : decode cc pc = .ok (.invokevirtual 129, 3))
    (kk : ∀ (H1 : Heap) (locs1 : List Loc), va_P D vwC (r_ws cI cL cG cZ ad M) H1 → va_S (r_A ad) H0 H1 locs1 → W p l e R s m args below meth c H1 locs1 cells slots Q (F0 m (pc + 3) ls (.int r :: rest))) : W p l e R s m args below meth c H locs cells slots Q (F0 m pc ls (.int a1 :: .int a0 :: .ref (ad 0) :: rest)) := by
  have hta := X.2.2.2.2
  exact x_afterI (va_runV (As := [.int a0, .int a1]) (rest := rest) X (c_LinkAuditModel_wanted hD hc) ⟨callB_of 2 hta (good_all (L := .code y_LinkAuditModel_wanted prog_12_method_15_code 3 (some .int) :: ALLW) (List.forall_mem_cons.mpr ⟨wm_866, fun _ h => h⟩)) rfl rfl rfl (hta _ wm_11) (hta _ wm_863) (by decide +kernel) hR, hta _ wm_865, hta _ wp_31⟩ ⟨x_blind Kk_w _, va_recv hkk.1 hP (ci := 10) (q0 := 0) rfl r_c0, x_pre Kk_w hkk hP _⟩ rfl rfl hsz rfl (lv_room hrest) hdg hcs) hS kk
theorem xvr_LinkAuditModel_125 {p : Program} {l : Launch} {e : Env} {R : Room} {s : State} {m : MethodId} {args : Array Value} {below : List Frame} {meth : Method} {c : Code} {H : Heap} {locs : List Loc} {cells slots : Nat} {Q : State → Prop} {cc : ByteArray} {pc : Nat} {ls : Array Slot} {rest : List Value} {D : va_G} {cI cL cG cZ : ClassId} {ad : Nat → Nat} {M : Mem} {H0 : Heap} {nL : Nat} {a0 : Int32} {a1 : Int32} {a2 : Int32} {r : Int32} (X : CallFix p m c cc nL s args ALLW "LinkAuditModel") (hkk : Kk D cI cL cG cZ s) (hD : ∀ M, va_D (r_A ad) (r_ws cI cL cG cZ ad M)) (hrest : (rest.map fun v => v.category).sum ≤ 8) (hR : 2 + 1 ≤ R.frames ∧ 8 + (5 + 11) + 44 ≤ R.locals) (hcs : cells + 0 ≤ R.cells ∧ slots + 0 ≤ R.slots) (hc : f_LinkAuditModel_fits M a0 a1 a2 = some r) (hsz : ls.size = nL) (hP : va_P D vwC (r_ws cI cL cG cZ ad M) H) (hS : va_S (r_A ad) H0 H locs) (hdg : decode cc pc = .ok (.invokevirtual 125, 3))
    (kk : ∀ (H1 : Heap) (locs1 : List Loc), va_P D vwC (r_ws cI cL cG cZ ad M) H1 → va_S (r_A ad) H0 H1 locs1 → W p l e R s m args below meth c H1 locs1 cells slots Q (F0 m (pc + 3) ls (.int r :: rest))) : W p l e R s m args below meth c H locs cells slots Q (F0 m pc ls (.int a2 :: .int a1 :: .int a0 :: .ref (ad 0) :: rest)) := by
  have hta := X.2.2.2.2
  exact x_afterI (va_runV (As := [.int a0, .int a1, .int a2]) (rest := rest) X (c_LinkAuditModel_fits hD hc) ⟨callB_of 3 hta (good_all (L := .code y_LinkAuditModel_fits prog_12_method_16_code 5 (some .int) :: ALLW) (List.forall_mem_cons.mpr ⟨wm_854, fun _ h => h⟩)) rfl rfl rfl (hta _ wm_11) (hta _ wm_851) (by decide +kernel) hR, hta _ wm_853, hta _ wp_28⟩ ⟨x_blind Kk_w _, va_recv hkk.1 hP (ci := 10) (q0 := 0) rfl r_c0, x_pre Kk_w hkk hP _⟩ rfl rfl hsz rfl (lv_room hrest) hdg hcs) hS kk
set_option maxHeartbeats 4000000 in
set_option maxRecDepth 100000 in
theorem c_LinkAuditModel_loadCode {l : Launch} {D : va_G} {cI cL cG cZ : ClassId} {ad : Nat → Nat} {M M' : Mem} {a1 : Int32} {r : Int32} (hD : ∀ M, va_D (r_A ad) (r_ws cI cL cG cZ ad M)) (hf : f_LinkAuditModel_loadCode M a1 = some (r, M')) : Mi l y_LinkAuditModel_loadCode (.code y_LinkAuditModel_loadCode prog_12_method_17_code 9 (some .int) :: ALLW) (rmR 3 68) (Kk D cI cL cG cZ) D vwC (r_A ad) (r_ws cI cL cG cZ ad) [.ref (ad 0), .int a1] M M' r := by
  refine Mi_of (by decide) (Nat.le_of_ble_eq_true rfl) ?_
  intro p e s m args below meth c ls Q X hkk hret hP hl
  obtain ⟨hx, hb, hml, hown, hta⟩ := id X
  have hKv := hkk.1
  have hS : va_S (r_A ad) s.heap s.heap [] := va_S.rf
  have hl : lv_has ls 9 [(0, .ref (ad 0)), (1, .int a1)] := hl
  have L18 : ∀ (ke202 : Int32 → Mem → Option (Int32 × Mem)), ke202 = (fun y3 M11 => some (y3, M11)) → ∀ (n18 : Nat) (x2 : Int32) (x3 : Int32) (M : Mem) (H : Heap) (locs : List Loc) (ls : Array Slot), f_LinkAuditModel_loadCode_L18 ke202 n18 x2 x3 M = some (r, M') → va_P D vwC (r_ws cI cL cG cZ ad M) H → va_S (r_A ad) s.heap H locs → lv_has ls 9 [(0, .ref (ad 0)), (2, .int x2), (3, .int x3)] → W p l e (rmR 3 68) s m args below meth c H locs 0 0 Q (F0 m 18 ls []) := by
    intro ke202 hke202 n18
    induction n18 with
    | zero => intro x2 x3 M H locs ls hf; exact absurd (show (none : Option _) = some _ from hf) (fun q => by cases q)
    | succ n18 ih18 =>
      intro x2 x3 M H locs ls hf hP hS hl
      rw [f_LinkAuditModel_loadCode_L18] at hf
      have L154 : ∀ (M : Mem) (x2 : Int32) (x7 : Int32), ∀ (ke181 : Int32 → Option (Int32 × Mem)), ke181 = (fun y3 => gd (ok x2 20) (sm (u1 M 21 x2.toNatClampNeg x7) (fun M12 => gd (ok x2 20) (sm (u1 M12 22 x2.toNatClampNeg (0 : Int32)) (fun M13 => f_LinkAuditModel_loadCode_L18 ke202 n18 (x2 + (1 : Int32)) y3 M13))))) → ∀ (n154 : Nat) (x3 : Int32) (x8 : Int32) (H : Heap) (locs : List Loc) (ls : Array Slot), f_LinkAuditModel_loadCode_L154 M x2 x7 ke181 n154 x3 x8 = some (r, M') → va_P D vwC (r_ws cI cL cG cZ ad M) H → va_S (r_A ad) s.heap H locs → lv_has ls 9 [(0, .ref (ad 0)), (2, .int x2), (3, .int x3), (7, .int x7), (8, .int x8)] → W p l e (rmR 3 68) s m args below meth c H locs 0 0 Q (F0 m 154 ls []) := by
        intro M x2 x7 ke181 hke181 n154
        induction n154 with
        | zero => intro x3 x8 H locs ls hf; exact absurd (show (none : Option _) = some _ from hf) (fun q => by cases q)
        | succ n154 ih154 =>
          intro x3 x8 H locs ls hf hP hS hl
          rw [f_LinkAuditModel_loadCode_L154] at hf
          refine lv_iload hx hb d_LinkAuditModel_loadCode_154 (lv_at hl 4 rfl) ?_
          refine lv_iload_n hx hb d_LinkAuditModel_loadCode_156 rfl (lv_at hl 1 rfl) ?_
          refine lv_icmp_ge (tgt := 181) hx hb d_LinkAuditModel_loadCode_157 (by decide) (fun c1 => ?_) (fun c1 => ?_)
          · have hf := ifp c1 hf
            rw [hke181] at hf
            refine lv_aload_n hx hb d_LinkAuditModel_loadCode_181 rfl (lv_at hl 0 rfl) ?_
            refine xg_LinkAuditModel_71 hx hb hta hown hKv hP d_LinkAuditModel_loadCode_182 ?_
            refine lv_iload_n hx hb d_LinkAuditModel_loadCode_185 rfl (lv_at hl 1 rfl) ?_
            refine lv_iload hx hb d_LinkAuditModel_loadCode_186 (lv_at hl 3 rfl) ?_
            obtain ⟨g2, hf⟩ := gd_ok hf
            obtain ⟨M14, eM14, hf⟩ := sm_e hf
            refine x_ist hx hb hKv hP (hD _) hS r_c21 r_s21 g2 eM14 d_LinkAuditModel_loadCode_188 (fun H locs hP hS => ?_)
            refine lv_aload_n hx hb d_LinkAuditModel_loadCode_189 rfl (lv_at hl 0 rfl) ?_
            refine xg_LinkAuditModel_74 hx hb hta hown hKv hP d_LinkAuditModel_loadCode_190 ?_
            refine lv_iload_n hx hb d_LinkAuditModel_loadCode_193 rfl (lv_at hl 1 rfl) ?_
            refine lv_iconst (v := (0 : Int32)) hx hb d_LinkAuditModel_loadCode_194 (by decide) ?_
            obtain ⟨g3, hf⟩ := gd_ok hf
            obtain ⟨M15, eM15, hf⟩ := sm_e hf
            refine x_ist hx hb hKv hP (hD _) hS r_c22 r_s22 g3 eM15 d_LinkAuditModel_loadCode_195 (fun H locs hP hS => ?_)
            refine lv_iinc (v := (x2 + (1 : Int32))) (lv' := [(2, .int (x2 + (1 : Int32))), (0, .ref (ad 0)), (3, .int x3), (7, .int x7), (8, .int x8)]) hx hb d_LinkAuditModel_loadCode_196 hl (k := 1) rfl rfl (by decide) rfl (fun ls hl => ?_)
            refine lv_goto (tgt := 18) hx hb d_LinkAuditModel_loadCode_199 (by decide) ?_
            exact ih18 (x2 + (1 : Int32)) x3 M15 _ _ _ hf hP hS (lv_sub hl [1, 0, 2] rfl)
          · have hf := ifn c1 hf
            refine lv_aload_n hx hb d_LinkAuditModel_loadCode_160 rfl (lv_at hl 0 rfl) ?_
            refine xg_LinkAuditModel_71 hx hb hta hown hKv hP d_LinkAuditModel_loadCode_161 ?_
            refine lv_iload hx hb d_LinkAuditModel_loadCode_164 (lv_at hl 4 rfl) ?_
            obtain ⟨g4, hf⟩ := gd_ok hf
            refine x_ild hx hb hKv hP r_c21 g4 d_LinkAuditModel_loadCode_166 ?_
            refine lv_iload hx hb d_LinkAuditModel_loadCode_167 (lv_at hl 3 rfl) ?_
            refine lv_icmp_ne (tgt := 175) hx hb d_LinkAuditModel_loadCode_169 (by decide) (fun c5 => ?_) (fun c5 => ?_)
            · have hf := ifn c5 hf
              refine lv_iinc (v := (x8 + (1 : Int32))) (lv' := [(8, .int (x8 + (1 : Int32))), (0, .ref (ad 0)), (2, .int x2), (3, .int x3), (7, .int x7)]) hx hb d_LinkAuditModel_loadCode_175 hl (k := 4) rfl rfl (by decide) rfl (fun ls hl => ?_)
              refine lv_goto (tgt := 154) hx hb d_LinkAuditModel_loadCode_178 (by decide) ?_
              exact ih154 x3 (x8 + (1 : Int32)) _ _ _ hf hP hS (lv_sub hl [1, 2, 3, 4, 0] rfl)
            · have hf := ifp c5 hf
              refine lv_bipush (v := (-4 : Int32)) hx hb d_LinkAuditModel_loadCode_172 (by decide) ?_
              refine lv_istore_n (lv' := [(3, .int (-4 : Int32)), (0, .ref (ad 0)), (2, .int x2), (7, .int x7), (8, .int x8)]) hx hb d_LinkAuditModel_loadCode_174 rfl hl (by decide) rfl (fun ls hl => ?_)
              refine lv_iinc (v := (x8 + (1 : Int32))) (lv' := [(8, .int (x8 + (1 : Int32))), (3, .int (-4 : Int32)), (0, .ref (ad 0)), (2, .int x2), (7, .int x7)]) hx hb d_LinkAuditModel_loadCode_175 hl (k := 4) rfl rfl (by decide) rfl (fun ls hl => ?_)
              refine lv_goto (tgt := 154) hx hb d_LinkAuditModel_loadCode_178 (by decide) ?_
              exact ih154 (-4 : Int32) (x8 + (1 : Int32)) _ _ _ hf hP hS (lv_sub hl [2, 3, 1, 4, 0] rfl)
      have b151 : ∀ (M : Mem) (x2 : Int32) (x3 : Int32) (x7 : Int32) (H : Heap) (locs : List Loc) (ls : Array Slot), f_LinkAuditModel_loadCode_b151 M x2 x3 x7 (f_LinkAuditModel_loadCode_L18 ke202 n18) ke202 = some (r, M') → va_P D vwC (r_ws cI cL cG cZ ad M) H → va_S (r_A ad) s.heap H locs → lv_has ls 9 [(0, .ref (ad 0)), (2, .int x2), (3, .int x3), (7, .int x7)] → W p l e (rmR 3 68) s m args below meth c H locs 0 0 Q (F0 m 151 ls []) := by
        intro M x2 x3 x7 H locs ls hf hP hS hl
        unfold f_LinkAuditModel_loadCode_b151 at hf
        refine lv_iconst (v := (0 : Int32)) hx hb d_LinkAuditModel_loadCode_151 (by decide) ?_
        refine lv_istore (lv' := [(8, .int (0 : Int32)), (0, .ref (ad 0)), (2, .int x2), (3, .int x3), (7, .int x7)]) hx hb d_LinkAuditModel_loadCode_152 hl (by decide) rfl (fun ls hl => ?_)
        exact L154 M x2 x7 _ rfl FU x3 (0 : Int32) _ _ _ hf hP hS (lv_sub hl [1, 2, 3, 4, 0] rfl)
      refine lv_iload_n hx hb d_LinkAuditModel_loadCode_18 rfl (lv_at hl 1 rfl) ?_
      refine lv_if_le (tgt := 202) hx hb d_LinkAuditModel_loadCode_19 (by decide) (fun c6 => ?_) (fun c6 => ?_)
      · have hf := ifp c6 hf
        rw [hke202] at hf
        refine lv_iload_n hx hb d_LinkAuditModel_loadCode_202 rfl (lv_at hl 2 rfl) ?_
        exact hret hf hP hS d_LinkAuditModel_loadCode_203
      · have hf := ifn c6 hf
        refine lv_iload_n hx hb d_LinkAuditModel_loadCode_22 rfl (lv_at hl 2 rfl) ?_
        refine lv_if_ne (tgt := 202) hx hb d_LinkAuditModel_loadCode_23 (by decide) (fun c7 => ?_) (fun c7 => ?_)
        · have hf := ifn c7 hf
          rw [hke202] at hf
          refine lv_iload_n hx hb d_LinkAuditModel_loadCode_202 rfl (lv_at hl 2 rfl) ?_
          exact hret hf hP hS d_LinkAuditModel_loadCode_203
        · have hf := ifp c7 hf
          refine lv_aload_n hx hb d_LinkAuditModel_loadCode_26 rfl (lv_at hl 0 rfl) ?_
          refine xg_LinkAuditModel_71 hx hb hta hown hKv hP d_LinkAuditModel_loadCode_27 ?_
          refine lv_iload_n hx hb d_LinkAuditModel_loadCode_30 rfl (lv_at hl 1 rfl) ?_
          refine lv_iconst (v := (1 : Int32)) hx hb d_LinkAuditModel_loadCode_31 (by decide) ?_
          refine lv_isub hx hb d_LinkAuditModel_loadCode_32 ?_
          obtain ⟨g8, hf⟩ := gd_ok hf
          refine x_ild hx hb hKv hP r_c21 g8 d_LinkAuditModel_loadCode_33 ?_
          refine lv_istore (lv' := [(4, .int (M.1 21 ((x2 - (1 : Int32))).toNatClampNeg)), (0, .ref (ad 0)), (2, .int x2), (3, .int x3)]) hx hb d_LinkAuditModel_loadCode_34 hl (by decide) rfl (fun ls hl => ?_)
          refine lv_aload_n hx hb d_LinkAuditModel_loadCode_36 rfl (lv_at hl 1 rfl) ?_
          refine xg_LinkAuditModel_74 hx hb hta hown hKv hP d_LinkAuditModel_loadCode_37 ?_
          refine lv_iload_n hx hb d_LinkAuditModel_loadCode_40 rfl (lv_at hl 2 rfl) ?_
          refine lv_iconst (v := (1 : Int32)) hx hb d_LinkAuditModel_loadCode_41 (by decide) ?_
          refine lv_isub hx hb d_LinkAuditModel_loadCode_42 ?_
          obtain ⟨g9, hf⟩ := gd_ok hf
          refine x_ild hx hb hKv hP r_c22 g9 d_LinkAuditModel_loadCode_43 ?_
          refine lv_istore (lv' := [(5, .int (M.1 22 ((x2 - (1 : Int32))).toNatClampNeg)), (4, .int (M.1 21 ((x2 - (1 : Int32))).toNatClampNeg)), (0, .ref (ad 0)), (2, .int x2), (3, .int x3)]) hx hb d_LinkAuditModel_loadCode_44 hl (by decide) rfl (fun ls hl => ?_)
          refine lv_iload hx hb d_LinkAuditModel_loadCode_46 (lv_at hl 0 rfl) ?_
          refine lv_bipush (v := (13 : Int32)) hx hb d_LinkAuditModel_loadCode_48 (by decide) ?_
          refine lv_icmp_ne (tgt := 98) hx hb d_LinkAuditModel_loadCode_50 (by decide) (fun c10 => ?_) (fun c10 => ?_)
          · have hf := ifn c10 hf
            refine lv_aload_n hx hb d_LinkAuditModel_loadCode_98 rfl (lv_at hl 2 rfl) ?_
            refine lv_iload hx hb d_LinkAuditModel_loadCode_99 (lv_at hl 1 rfl) ?_
            refine lv_iload hx hb d_LinkAuditModel_loadCode_101 (lv_at hl 0 rfl) ?_
            obtain ⟨r16, hc11, hf⟩ := bd1_e hf
            refine xvr_LinkAuditModel_129 X hkk hD (Nat.le_of_ble_eq_true rfl) ⟨by dsimp only [rmR]; omega, by dsimp only [rmR]; omega⟩ ⟨Nat.zero_le _, Nat.zero_le _⟩ hc11 hl.1 hP hS d_LinkAuditModel_loadCode_103 (fun H locs hP hS => ?_)
            refine lv_istore (lv' := [(6, .int r16), (5, .int (M.1 22 ((x2 - (1 : Int32))).toNatClampNeg)), (4, .int (M.1 21 ((x2 - (1 : Int32))).toNatClampNeg)), (0, .ref (ad 0)), (2, .int x2), (3, .int x3)]) hx hb d_LinkAuditModel_loadCode_106 hl (by decide) rfl (fun ls hl => ?_)
            refine lv_iload hx hb d_LinkAuditModel_loadCode_108 (lv_at hl 0 rfl) ?_
            refine lv_if_ge (tgt := 128) hx hb d_LinkAuditModel_loadCode_110 (by decide) (fun c12 => ?_) (fun c12 => ?_)
            · have hf := ifp c12 hf
              refine lv_aload_n hx hb d_LinkAuditModel_loadCode_128 rfl (lv_at hl 3 rfl) ?_
              refine lv_aload_n hx hb d_LinkAuditModel_loadCode_129 rfl (lv_at hl 3 rfl) ?_
              refine xg_LinkAuditModel_19 hx hb hta hown hKv hP d_LinkAuditModel_loadCode_130 ?_
              refine lv_iload hx hb d_LinkAuditModel_loadCode_133 (lv_at hl 2 rfl) ?_
              obtain ⟨g13, hf⟩ := gd_ok hf
              refine x_ild hx hb hKv hP r_c4 g13 d_LinkAuditModel_loadCode_135 ?_
              refine lv_iload hx hb d_LinkAuditModel_loadCode_136 (lv_at hl 0 rfl) ?_
              obtain ⟨r17, hc14, hf⟩ := bd1_e hf
              refine xvr_LinkAuditModel_132 X hkk hD (Nat.le_of_ble_eq_true rfl) ⟨by dsimp only [rmR]; omega, by dsimp only [rmR]; omega⟩ ⟨Nat.zero_le _, Nat.zero_le _⟩ hc14 hl.1 hP hS d_LinkAuditModel_loadCode_138 (fun H locs hP hS => ?_)
              refine lv_istore (lv' := [(7, .int r17), (6, .int r16), (5, .int (M.1 22 ((x2 - (1 : Int32))).toNatClampNeg)), (4, .int (M.1 21 ((x2 - (1 : Int32))).toNatClampNeg)), (0, .ref (ad 0)), (2, .int x2), (3, .int x3)]) hx hb d_LinkAuditModel_loadCode_141 hl (by decide) rfl (fun ls hl => ?_)
              refine lv_iload hx hb d_LinkAuditModel_loadCode_143 (lv_at hl 0 rfl) ?_
              refine lv_if_ne (tgt := 151) hx hb d_LinkAuditModel_loadCode_145 (by decide) (fun c15 => ?_) (fun c15 => ?_)
              · have hf := ifn c15 hf
                exact b151 M x2 x3 r17 _ _ _ hf hP hS (lv_sub hl [4, 5, 6, 0] rfl)
              · have hf := ifp c15 hf
                refine lv_bipush (v := (-3 : Int32)) hx hb d_LinkAuditModel_loadCode_148 (by decide) ?_
                refine lv_istore_n (lv' := [(3, .int (-3 : Int32)), (7, .int r17), (6, .int r16), (5, .int (M.1 22 ((x2 - (1 : Int32))).toNatClampNeg)), (4, .int (M.1 21 ((x2 - (1 : Int32))).toNatClampNeg)), (0, .ref (ad 0)), (2, .int x2)]) hx hb d_LinkAuditModel_loadCode_150 rfl hl (by decide) rfl (fun ls hl => ?_)
                exact b151 M x2 (-3 : Int32) r17 _ _ _ hf hP hS (lv_sub hl [5, 6, 0, 1] rfl)
            · have hf := ifn c12 hf
              refine lv_aload_n hx hb d_LinkAuditModel_loadCode_113 rfl (lv_at hl 3 rfl) ?_
              refine xg_LinkAuditModel_74 hx hb hta hown hKv hP d_LinkAuditModel_loadCode_114 ?_
              refine lv_iload_n hx hb d_LinkAuditModel_loadCode_117 rfl (lv_at hl 4 rfl) ?_
              refine lv_iconst (v := (1 : Int32)) hx hb d_LinkAuditModel_loadCode_118 (by decide) ?_
              refine lv_isub hx hb d_LinkAuditModel_loadCode_119 ?_
              refine lv_dup2_11 hx hb d_LinkAuditModel_loadCode_120 rfl rfl ?_
              obtain ⟨g16, hf⟩ := gd_ok hf
              refine x_ild hx hb hKv hP r_c22 g16 d_LinkAuditModel_loadCode_121 ?_
              refine lv_iconst (v := (1 : Int32)) hx hb d_LinkAuditModel_loadCode_122 (by decide) ?_
              refine lv_iadd hx hb d_LinkAuditModel_loadCode_123 ?_
              obtain ⟨g17, hf⟩ := gd_ok hf
              obtain ⟨M18, eM18, hf⟩ := sm_e hf
              refine x_ist hx hb hKv hP (hD _) hS r_c22 r_s22 g17 eM18 d_LinkAuditModel_loadCode_124 (fun H locs hP hS => ?_)
              refine lv_goto (tgt := 18) hx hb d_LinkAuditModel_loadCode_125 (by decide) ?_
              exact ih18 x2 x3 M18 _ _ _ hf hP hS (lv_sub hl [3, 4, 5] rfl)
          · have hf := ifp c10 hf
            refine lv_iinc (v := (x2 + (-1 : Int32))) (lv' := [(2, .int (x2 + (-1 : Int32))), (5, .int (M.1 22 ((x2 - (1 : Int32))).toNatClampNeg)), (4, .int (M.1 21 ((x2 - (1 : Int32))).toNatClampNeg)), (0, .ref (ad 0)), (3, .int x3)]) hx hb d_LinkAuditModel_loadCode_53 hl (k := 3) rfl rfl (by decide) rfl (fun ls hl => ?_)
            refine lv_iload_n hx hb d_LinkAuditModel_loadCode_56 rfl (lv_at hl 0 rfl) ?_
            refine lv_if_le (tgt := 18) hx hb d_LinkAuditModel_loadCode_57 (by decide) (fun c18 => ?_) (fun c18 => ?_)
            · have hf := ifp c18 hf
              exact ih18 (x2 + (-1 : Int32)) x3 M _ _ _ hf hP hS (lv_sub hl [3, 0, 4] rfl)
            · have hf := ifn c18 hf
              refine lv_aload_n hx hb d_LinkAuditModel_loadCode_60 rfl (lv_at hl 3 rfl) ?_
              refine lv_aload_n hx hb d_LinkAuditModel_loadCode_61 rfl (lv_at hl 3 rfl) ?_
              refine xg_LinkAuditModel_71 hx hb hta hown hKv hP d_LinkAuditModel_loadCode_62 ?_
              refine lv_iload_n hx hb d_LinkAuditModel_loadCode_65 rfl (lv_at hl 0 rfl) ?_
              refine lv_iconst (v := (1 : Int32)) hx hb d_LinkAuditModel_loadCode_66 (by decide) ?_
              refine lv_isub hx hb d_LinkAuditModel_loadCode_67 ?_
              obtain ⟨g19, hf⟩ := gd_ok hf
              refine x_ild hx hb hKv hP r_c21 g19 d_LinkAuditModel_loadCode_68 ?_
              refine lv_aload_n hx hb d_LinkAuditModel_loadCode_69 rfl (lv_at hl 3 rfl) ?_
              refine xg_LinkAuditModel_74 hx hb hta hown hKv hP d_LinkAuditModel_loadCode_70 ?_
              refine lv_iload_n hx hb d_LinkAuditModel_loadCode_73 rfl (lv_at hl 0 rfl) ?_
              refine lv_iconst (v := (1 : Int32)) hx hb d_LinkAuditModel_loadCode_74 (by decide) ?_
              refine lv_isub hx hb d_LinkAuditModel_loadCode_75 ?_
              obtain ⟨g20, hf⟩ := gd_ok hf
              refine x_ild hx hb hKv hP r_c22 g20 d_LinkAuditModel_loadCode_76 ?_
              refine lv_iload hx hb d_LinkAuditModel_loadCode_77 (lv_at hl 2 rfl) ?_
              obtain ⟨r19, hc21, hf⟩ := bd1_e hf
              refine xvr_LinkAuditModel_125 X hkk hD (Nat.le_of_ble_eq_true rfl) ⟨by dsimp only [rmR]; omega, by dsimp only [rmR]; omega⟩ ⟨Nat.zero_le _, Nat.zero_le _⟩ hc21 hl.1 hP hS d_LinkAuditModel_loadCode_79 (fun H locs hP hS => ?_)
              refine lv_istore_n (lv' := [(3, .int r19), (2, .int (x2 + (-1 : Int32))), (5, .int (M.1 22 ((x2 - (1 : Int32))).toNatClampNeg)), (4, .int (M.1 21 ((x2 - (1 : Int32))).toNatClampNeg)), (0, .ref (ad 0))]) hx hb d_LinkAuditModel_loadCode_82 rfl hl (by decide) rfl (fun ls hl => ?_)
              refine lv_aload_n hx hb d_LinkAuditModel_loadCode_83 rfl (lv_at hl 4 rfl) ?_
              refine xg_LinkAuditModel_74 hx hb hta hown hKv hP d_LinkAuditModel_loadCode_84 ?_
              refine lv_iload_n hx hb d_LinkAuditModel_loadCode_87 rfl (lv_at hl 1 rfl) ?_
              refine lv_iconst (v := (1 : Int32)) hx hb d_LinkAuditModel_loadCode_88 (by decide) ?_
              refine lv_isub hx hb d_LinkAuditModel_loadCode_89 ?_
              refine lv_dup2_11 hx hb d_LinkAuditModel_loadCode_90 rfl rfl ?_
              obtain ⟨g22, hf⟩ := gd_ok hf
              refine x_ild hx hb hKv hP r_c22 g22 d_LinkAuditModel_loadCode_91 ?_
              refine lv_iconst (v := (1 : Int32)) hx hb d_LinkAuditModel_loadCode_92 (by decide) ?_
              refine lv_iadd hx hb d_LinkAuditModel_loadCode_93 ?_
              obtain ⟨g23, hf⟩ := gd_ok hf
              obtain ⟨M20, eM20, hf⟩ := sm_e hf
              refine x_ist hx hb hKv hP (hD _) hS r_c22 r_s22 g23 eM20 d_LinkAuditModel_loadCode_94 (fun H locs hP hS => ?_)
              refine lv_goto (tgt := 18) hx hb d_LinkAuditModel_loadCode_95 (by decide) ?_
              exact ih18 (x2 + (-1 : Int32)) r19 M20 _ _ _ hf hP hS (lv_sub hl [4, 1, 0] rfl)
  unfold f_LinkAuditModel_loadCode at hf
  refine lv_iconst (v := (1 : Int32)) hx hb d_LinkAuditModel_loadCode_0 (by decide) ?_
  refine lv_istore_n (lv' := [(2, .int (1 : Int32)), (0, .ref (ad 0)), (1, .int a1)]) hx hb d_LinkAuditModel_loadCode_1 rfl hl (by decide) rfl (fun ls hl => ?_)
  refine lv_iconst (v := (0 : Int32)) hx hb d_LinkAuditModel_loadCode_2 (by decide) ?_
  refine lv_istore_n (lv' := [(3, .int (0 : Int32)), (2, .int (1 : Int32)), (0, .ref (ad 0)), (1, .int a1)]) hx hb d_LinkAuditModel_loadCode_3 rfl hl (by decide) rfl (fun ls hl => ?_)
  refine lv_aload_n hx hb d_LinkAuditModel_loadCode_4 rfl (lv_at hl 2 rfl) ?_
  refine xg_LinkAuditModel_71 hx hb hta hown hKv hP d_LinkAuditModel_loadCode_5 ?_
  refine lv_iconst (v := (0 : Int32)) hx hb d_LinkAuditModel_loadCode_8 (by decide) ?_
  refine lv_iload_n hx hb d_LinkAuditModel_loadCode_9 rfl (lv_at hl 3 rfl) ?_
  obtain ⟨g24, hf⟩ := gd_ok hf
  obtain ⟨M21, eM21, hf⟩ := sm_e hf
  refine x_ist hx hb hKv hP (hD _) hS r_c21 r_s21 g24 eM21 d_LinkAuditModel_loadCode_10 (fun H locs hP hS => ?_)
  refine lv_aload_n hx hb d_LinkAuditModel_loadCode_11 rfl (lv_at hl 2 rfl) ?_
  refine xg_LinkAuditModel_74 hx hb hta hown hKv hP d_LinkAuditModel_loadCode_12 ?_
  refine lv_iconst (v := (0 : Int32)) hx hb d_LinkAuditModel_loadCode_15 (by decide) ?_
  refine lv_iconst (v := (0 : Int32)) hx hb d_LinkAuditModel_loadCode_16 (by decide) ?_
  obtain ⟨g25, hf⟩ := gd_ok hf
  obtain ⟨M22, eM22, hf⟩ := sm_e hf
  refine x_ist hx hb hKv hP (hD _) hS r_c22 r_s22 g25 eM22 d_LinkAuditModel_loadCode_17 (fun H locs hP hS => ?_)
  exact L18  _ rfl FU (1 : Int32) (0 : Int32) M22 _ _ _ hf hP hS (lv_sub hl [2, 1, 0] rfl)
