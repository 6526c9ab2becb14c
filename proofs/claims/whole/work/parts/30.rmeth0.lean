-- LinkAuditModel.in
set_option maxHeartbeats 4000000 in
set_option maxRecDepth 100000 in
theorem c_LinkAuditModel_in {l : Launch} {D : va_G} {cI cL cG cZ : ClassId} {ad : Nat → Nat} {M : Mem} {a0 : Int32} {a1 : Int32} {a2 : Int32} {r : Int32} (hD : ∀ M, va_D (e_A ad) (e_ws cI cL cG cZ ad M)) (hf : f_LinkAuditModel_in a0 a1 a2 = some r) : Mi l y_LinkAuditModel_in (.code y_LinkAuditModel_in prog_12_method_2_code 3 (some .boolean) :: ALLW) (rmR 0 0) (Kk D cI cL cG cZ) D vwC (e_A ad) (e_ws cI cL cG cZ ad) [.int a0, .int a1, .int a2] M M r := by
  refine Mz_ofR (by decide) (Nat.le_of_ble_eq_true rfl) ?_
  intro p e s m args below meth c ls Q X hkk hret hP hl
  obtain ⟨hx, hb, hml, hown, hta⟩ := id X
  have hKv := hkk.1
  have hS : va_S (e_A ad) s.heap s.heap [] := va_S.rf
  have hl : lv_has ls 3 [(0, .int a0), (1, .int a1), (2, .int a2)] := hl
  unfold f_LinkAuditModel_in at hf
  refine lv_iload_n hx hb d_LinkAuditModel_in_0 rfl (lv_at hl 0 rfl) ?_
  refine lv_iload_n hx hb d_LinkAuditModel_in_1 rfl (lv_at hl 1 rfl) ?_
  refine lv_icmp_lt (tgt := 14) hx hb d_LinkAuditModel_in_2 (by decide) (fun c1 => ?_) (fun c1 => ?_)
  · have hf := ifp c1 hf
    refine lv_iconst (v := (0 : Int32)) hx hb d_LinkAuditModel_in_14 (by decide) ?_
    exact hret (Or.inl rfl) hf hP hS d_LinkAuditModel_in_15
  · have hf := ifn c1 hf
    refine lv_iload_n hx hb d_LinkAuditModel_in_5 rfl (lv_at hl 0 rfl) ?_
    refine lv_iload_n hx hb d_LinkAuditModel_in_6 rfl (lv_at hl 2 rfl) ?_
    refine lv_icmp_gt (tgt := 14) hx hb d_LinkAuditModel_in_7 (by decide) (fun c2 => ?_) (fun c2 => ?_)
    · have hf := ifp c2 hf
      refine lv_iconst (v := (0 : Int32)) hx hb d_LinkAuditModel_in_14 (by decide) ?_
      exact hret (Or.inl rfl) hf hP hS d_LinkAuditModel_in_15
    · have hf := ifn c2 hf
      refine lv_iconst (v := (1 : Int32)) hx hb d_LinkAuditModel_in_10 (by decide) ?_
      refine lv_goto (tgt := 15) hx hb d_LinkAuditModel_in_11 (by decide) ?_
      exact hret (Or.inr rfl) hf hP hS d_LinkAuditModel_in_15
-- LinkAuditModel.provide
theorem xg_LinkAuditModel_7 {p : Program} {l : Launch} {e : Env} {R : Room} {s : State} {m : MethodId} {args : Array Value} {below : List Frame} {meth : Method} {c : Code} {H : Heap} {locs : List Loc} {cells slots : Nat} {Q : State → Prop} {cc : ByteArray} {pc : Nat} {ls : Array Slot} {rest : List Value} {D : va_G} {cI cL cG cZ : ClassId} {ad : Nat → Nat} {M : Mem} (hx : p.tables.exec = Jvm.exec) (hb : c.code = cc) (hta : ∀ w ∈ ALLW, w.before args s = true) (hown : s.vm.findClass "LinkAuditModel" = some m.cls) (hK : va_K D vwC [(cI, .int), (cL, .long), (cG, .array .int), (cZ, .boolean)] s) (hP : va_P D vwC (r_ws cI cL cG cZ ad M) H) (hdg : decode cc pc = .ok (.getfield 7, 3))
    (kk : W p l e R s m args below meth c H locs cells slots Q (F0 m (pc + 3) ls (.ref (ad 1) :: rest))) : W p l e R s m args below meth c H locs cells slots Q (F0 m pc ls (.ref (ad 0) :: rest)) :=
  va_get (D := D) (ci := 10) (v := .ref (ad 1)) (C := "LinkAuditModel") (T := T_LinkAuditModel) (N := 31) hx hb hta i_LinkAuditModel hown hK hP 0 r_c0 rfl 0 (by decide) (hta _ wm_701) (fun _ h9 => h9) rfl hdg kk
theorem xg_LinkAuditModel_13 {p : Program} {l : Launch} {e : Env} {R : Room} {s : State} {m : MethodId} {args : Array Value} {below : List Frame} {meth : Method} {c : Code} {H : Heap} {locs : List Loc} {cells slots : Nat} {Q : State → Prop} {cc : ByteArray} {pc : Nat} {ls : Array Slot} {rest : List Value} {D : va_G} {cI cL cG cZ : ClassId} {ad : Nat → Nat} {M : Mem} (hx : p.tables.exec = Jvm.exec) (hb : c.code = cc) (hta : ∀ w ∈ ALLW, w.before args s = true) (hown : s.vm.findClass "LinkAuditModel" = some m.cls) (hK : va_K D vwC [(cI, .int), (cL, .long), (cG, .array .int), (cZ, .boolean)] s) (hP : va_P D vwC (r_ws cI cL cG cZ ad M) H) (hdg : decode cc pc = .ok (.getfield 13, 3))
    (kk : W p l e R s m args below meth c H locs cells slots Q (F0 m (pc + 3) ls (.ref (ad 2) :: rest))) : W p l e R s m args below meth c H locs cells slots Q (F0 m pc ls (.ref (ad 0) :: rest)) :=
  va_get (D := D) (ci := 10) (v := .ref (ad 2)) (C := "LinkAuditModel") (T := T_LinkAuditModel) (N := 31) hx hb hta i_LinkAuditModel hown hK hP 0 r_c0 rfl 1 (by decide) (hta _ wm_702) (fun _ h9 => h9) rfl hdg kk
theorem xvr_LinkAuditModel_92 {p : Program} {l : Launch} {e : Env} {R : Room} {s : State} {m : MethodId} {args : Array Value} {below : List Frame} {meth : Method} {c : Code} {H : Heap} {locs : List Loc} {cells slots : Nat} {Q : State → Prop} {cc : ByteArray} {pc : Nat} {ls : Array Slot} {rest : List Value} {D : va_G} {cI cL cG cZ : ClassId} {ad : Nat → Nat} {M : Mem} {H0 : Heap} {nL : Nat} {a0 : Int32} {a1 : Int32} {a2 : Int32} {r : Int32} (X : CallFix p m c cc nL s args ALLW "LinkAuditModel") (hkk : Kk D cI cL cG cZ s) (hD : ∀ M, va_D (r_A ad) (r_ws cI cL cG cZ ad M)) (hrest : (rest.map fun v => v.category).sum ≤ 8) (hR : 0 + 1 ≤ R.frames ∧ 8 + (3 + 11) + 0 ≤ R.locals) (hcs : cells + 0 ≤ R.cells ∧ slots + 0 ≤ R.slots) (hc : f_LinkAuditModel_in a0 a1 a2 = some r) (hsz : ls.size = nL) (hP : va_P D vwC (r_ws cI cL cG cZ ad M) H) (hS : va_S (r_A ad) H0 H locs) (hdg : decode cc pc = .ok (.invokestatic 92, 3))
    (kk : ∀ (H1 : Heap) (locs1 : List Loc), va_P D vwC (r_ws cI cL cG cZ ad M) H1 → va_S (r_A ad) H0 H1 locs1 → W p l e R s m args below meth c H1 locs1 cells slots Q (F0 m (pc + 3) ls (.int r :: rest))) : W p l e R s m args below meth c H locs cells slots Q (F0 m pc ls (.int a2 :: .int a1 :: .int a0 :: rest)) := by
  have hta := X.2.2.2.2
  exact x_after0I e_no (va_runS (As := [.int a0, .int a1, .int a2]) (rest := rest) X (c_LinkAuditModel_in (ad := ad) (M := M) e_D hc) ⟨callB_of 3 hta (good_all (L := .code y_LinkAuditModel_in prog_12_method_2_code 3 (some .boolean) :: ALLW) (List.forall_mem_cons.mpr ⟨wm_802, fun _ h => h⟩)) rfl rfl rfl (hta _ wm_11) (hta _ wm_800) (by decide +kernel) hR, hta _ wm_801⟩ ⟨x_blind Kk_w _, x_pre Kk_w hkk e_P _⟩ rfl rfl hsz rfl (lv_room hrest) hdg hcs) hP hS kk
set_option maxHeartbeats 4000000 in
set_option maxRecDepth 100000 in
theorem c_LinkAuditModel_provide {l : Launch} {D : va_G} {cI cL cG cZ : ClassId} {ad : Nat → Nat} {M M' : Mem} {a1 : Int32} {a2 : Int32} {r : Int32} (hD : ∀ M, va_D (r_A ad) (r_ws cI cL cG cZ ad M)) (hf : f_LinkAuditModel_provide M a1 a2 = some (r, M')) : Mi l y_LinkAuditModel_provide (.code y_LinkAuditModel_provide prog_12_method_3_code 4 (some .int) :: ALLW) (rmR 1 22) (Kk D cI cL cG cZ) D vwC (r_A ad) (r_ws cI cL cG cZ ad) [.ref (ad 0), .int a1, .int a2] M M' r := by
  refine Mi_of (by decide) (Nat.le_of_ble_eq_true rfl) ?_
  intro p e s m args below meth c ls Q X hkk hret hP hl
  obtain ⟨hx, hb, hml, hown, hta⟩ := id X
  have hKv := hkk.1
  have hS : va_S (r_A ad) s.heap s.heap [] := va_S.rf
  have hl : lv_has ls 4 [(0, .ref (ad 0)), (1, .int a1), (2, .int a2)] := hl
  have L27 : ∀ (M : Mem) (x1 : Int32) (x2 : Int32), ∀ (ke51 : Option (Int32 × Mem)), ke51 = (some ((-1 : Int32), M)) → ∀ (ke59 : Option (Int32 × Mem)), ke59 = (gd (ok x1 5) (if (M.1 1 x1.toNatClampNeg) = (3 : Int32) then some ((-2 : Int32), M) else gd (ok x1 5) (gd (ok (((3 : Int32) * x1) + (M.1 1 x1.toNatClampNeg)) 15) (sm (u1 M 2 (((((3 : Int32) * x1) + (M.1 1 x1.toNatClampNeg))).toNatClampNeg) x2) (fun M5 => gd (ok x1 5) (gd (ok x1 5) (sm (u1 M5 1 x1.toNatClampNeg ((M5.1 1 x1.toNatClampNeg) + (1 : Int32))) (fun M6 => gd (ok x1 5) (some ((M6.1 1 x1.toNatClampNeg), M6)))))))))) → ∀ (n27 : Nat) (x3 : Int32) (H : Heap) (locs : List Loc) (ls : Array Slot), f_LinkAuditModel_provide_L27 M x1 x2 ke51 ke59 n27 x3 = some (r, M') → va_P D vwC (r_ws cI cL cG cZ ad M) H → va_S (r_A ad) s.heap H locs → lv_has ls 4 [(0, .ref (ad 0)), (1, .int x1), (2, .int x2), (3, .int x3)] → W p l e (rmR 1 22) s m args below meth c H locs 0 0 Q (F0 m 27 ls []) := by
    intro M x1 x2 ke51 hke51 ke59 hke59 n27
    induction n27 with
    | zero => intro x3 H locs ls hf; exact absurd (show (none : Option _) = some _ from hf) (fun q => by cases q)
    | succ n27 ih27 =>
      intro x3 H locs ls hf hP hS hl
      rw [f_LinkAuditModel_provide_L27] at hf
      refine lv_iload_n hx hb d_LinkAuditModel_provide_27 rfl (lv_at hl 3 rfl) ?_
      refine lv_aload_n hx hb d_LinkAuditModel_provide_28 rfl (lv_at hl 0 rfl) ?_
      refine xg_LinkAuditModel_7 hx hb hta hown hKv hP d_LinkAuditModel_provide_29 ?_
      refine lv_iload_n hx hb d_LinkAuditModel_provide_32 rfl (lv_at hl 1 rfl) ?_
      obtain ⟨g1, hf⟩ := gd_ok hf
      refine x_ild hx hb hKv hP r_c1 g1 d_LinkAuditModel_provide_33 ?_
      refine lv_icmp_ge (tgt := 59) hx hb d_LinkAuditModel_provide_34 (by decide) (fun c2 => ?_) (fun c2 => ?_)
      · have hf := ifp c2 hf
        rw [hke59] at hf
        refine lv_aload_n hx hb d_LinkAuditModel_provide_59 rfl (lv_at hl 0 rfl) ?_
        refine xg_LinkAuditModel_7 hx hb hta hown hKv hP d_LinkAuditModel_provide_60 ?_
        refine lv_iload_n hx hb d_LinkAuditModel_provide_63 rfl (lv_at hl 1 rfl) ?_
        obtain ⟨g3, hf⟩ := gd_ok hf
        refine x_ild hx hb hKv hP r_c1 g3 d_LinkAuditModel_provide_64 ?_
        refine lv_iconst (v := (3 : Int32)) hx hb d_LinkAuditModel_provide_65 (by decide) ?_
        refine lv_icmp_ne (tgt := 72) hx hb d_LinkAuditModel_provide_66 (by decide) (fun c4 => ?_) (fun c4 => ?_)
        · have hf := ifn c4 hf
          refine lv_aload_n hx hb d_LinkAuditModel_provide_72 rfl (lv_at hl 0 rfl) ?_
          refine xg_LinkAuditModel_13 hx hb hta hown hKv hP d_LinkAuditModel_provide_73 ?_
          refine lv_iconst (v := (3 : Int32)) hx hb d_LinkAuditModel_provide_76 (by decide) ?_
          refine lv_iload_n hx hb d_LinkAuditModel_provide_77 rfl (lv_at hl 1 rfl) ?_
          refine lv_imul hx hb d_LinkAuditModel_provide_78 ?_
          refine lv_aload_n hx hb d_LinkAuditModel_provide_79 rfl (lv_at hl 0 rfl) ?_
          refine xg_LinkAuditModel_7 hx hb hta hown hKv hP d_LinkAuditModel_provide_80 ?_
          refine lv_iload_n hx hb d_LinkAuditModel_provide_83 rfl (lv_at hl 1 rfl) ?_
          obtain ⟨g5, hf⟩ := gd_ok hf
          refine x_ild hx hb hKv hP r_c1 g5 d_LinkAuditModel_provide_84 ?_
          refine lv_iadd hx hb d_LinkAuditModel_provide_85 ?_
          refine lv_iload_n hx hb d_LinkAuditModel_provide_86 rfl (lv_at hl 2 rfl) ?_
          obtain ⟨g6, hf⟩ := gd_ok hf
          obtain ⟨M7, eM7, hf⟩ := sm_e hf
          refine x_ist hx hb hKv hP (hD _) hS r_c2 r_s2 g6 eM7 d_LinkAuditModel_provide_87 (fun H locs hP hS => ?_)
          refine lv_aload_n hx hb d_LinkAuditModel_provide_88 rfl (lv_at hl 0 rfl) ?_
          refine xg_LinkAuditModel_7 hx hb hta hown hKv hP d_LinkAuditModel_provide_89 ?_
          refine lv_iload_n hx hb d_LinkAuditModel_provide_92 rfl (lv_at hl 1 rfl) ?_
          refine lv_dup2_11 hx hb d_LinkAuditModel_provide_93 rfl rfl ?_
          obtain ⟨g7, hf⟩ := gd_ok hf
          refine x_ild hx hb hKv hP r_c1 g7 d_LinkAuditModel_provide_94 ?_
          refine lv_iconst (v := (1 : Int32)) hx hb d_LinkAuditModel_provide_95 (by decide) ?_
          refine lv_iadd hx hb d_LinkAuditModel_provide_96 ?_
          obtain ⟨g8, hf⟩ := gd_ok hf
          obtain ⟨M8, eM8, hf⟩ := sm_e hf
          refine x_ist hx hb hKv hP (hD _) hS r_c1 r_s1 g8 eM8 d_LinkAuditModel_provide_97 (fun H locs hP hS => ?_)
          refine lv_aload_n hx hb d_LinkAuditModel_provide_98 rfl (lv_at hl 0 rfl) ?_
          refine xg_LinkAuditModel_7 hx hb hta hown hKv hP d_LinkAuditModel_provide_99 ?_
          refine lv_iload_n hx hb d_LinkAuditModel_provide_102 rfl (lv_at hl 1 rfl) ?_
          obtain ⟨g9, hf⟩ := gd_ok hf
          refine x_ild hx hb hKv hP r_c1 g9 d_LinkAuditModel_provide_103 ?_
          exact hret hf hP hS d_LinkAuditModel_provide_104
        · have hf := ifp c4 hf
          refine lv_bipush (v := (-2 : Int32)) hx hb d_LinkAuditModel_provide_69 (by decide) ?_
          exact hret hf hP hS d_LinkAuditModel_provide_71
      · have hf := ifn c2 hf
        refine lv_aload_n hx hb d_LinkAuditModel_provide_37 rfl (lv_at hl 0 rfl) ?_
        refine xg_LinkAuditModel_13 hx hb hta hown hKv hP d_LinkAuditModel_provide_38 ?_
        refine lv_iconst (v := (3 : Int32)) hx hb d_LinkAuditModel_provide_41 (by decide) ?_
        refine lv_iload_n hx hb d_LinkAuditModel_provide_42 rfl (lv_at hl 1 rfl) ?_
        refine lv_imul hx hb d_LinkAuditModel_provide_43 ?_
        refine lv_iload_n hx hb d_LinkAuditModel_provide_44 rfl (lv_at hl 3 rfl) ?_
        refine lv_iadd hx hb d_LinkAuditModel_provide_45 ?_
        obtain ⟨g10, hf⟩ := gd_ok hf
        refine x_ild hx hb hKv hP r_c2 g10 d_LinkAuditModel_provide_46 ?_
        refine lv_iload_n hx hb d_LinkAuditModel_provide_47 rfl (lv_at hl 2 rfl) ?_
        refine lv_icmp_ne (tgt := 53) hx hb d_LinkAuditModel_provide_48 (by decide) (fun c11 => ?_) (fun c11 => ?_)
        · have hf := ifn c11 hf
          refine lv_iinc (v := (x3 + (1 : Int32))) (lv' := [(3, .int (x3 + (1 : Int32))), (0, .ref (ad 0)), (1, .int x1), (2, .int x2)]) hx hb d_LinkAuditModel_provide_53 hl (k := 3) rfl rfl (by decide) rfl (fun ls hl => ?_)
          refine lv_goto (tgt := 27) hx hb d_LinkAuditModel_provide_56 (by decide) ?_
          exact ih27 (x3 + (1 : Int32)) _ _ _ hf hP hS (lv_sub hl [1, 2, 3, 0] rfl)
        · have hf := ifp c11 hf
          rw [hke51] at hf
          refine lv_iconst (v := (-1 : Int32)) hx hb d_LinkAuditModel_provide_51 (by decide) ?_
          exact hret hf hP hS d_LinkAuditModel_provide_52
  unfold f_LinkAuditModel_provide at hf
  refine lv_iload_n hx hb d_LinkAuditModel_provide_0 rfl (lv_at hl 1 rfl) ?_
  refine lv_iconst (v := (1 : Int32)) hx hb d_LinkAuditModel_provide_1 (by decide) ?_
  refine lv_iconst (v := (4 : Int32)) hx hb d_LinkAuditModel_provide_2 (by decide) ?_
  obtain ⟨r9, hc12, hf⟩ := bd1_e hf
  refine xvr_LinkAuditModel_92 X hkk hD (Nat.le_of_ble_eq_true rfl) ⟨by dsimp only [rmR]; omega, by dsimp only [rmR]; omega⟩ ⟨Nat.zero_le _, Nat.zero_le _⟩ hc12 hl.1 hP hS d_LinkAuditModel_provide_3 (fun H locs hP hS => ?_)
  refine lv_if_eq (tgt := 23) hx hb d_LinkAuditModel_provide_6 (by decide) (fun c13 => ?_) (fun c13 => ?_)
  · have hf := ifp c13 hf
    refine lv_iconst (v := (-1 : Int32)) hx hb d_LinkAuditModel_provide_23 (by decide) ?_
    exact hret hf hP hS d_LinkAuditModel_provide_24
  · have hf := ifn c13 hf
    refine lv_iload_n hx hb d_LinkAuditModel_provide_9 rfl (lv_at hl 2 rfl) ?_
    refine lv_iconst (v := (0 : Int32)) hx hb d_LinkAuditModel_provide_10 (by decide) ?_
    refine lv_iconst (v := (4 : Int32)) hx hb d_LinkAuditModel_provide_11 (by decide) ?_
    obtain ⟨r10, hc14, hf⟩ := bd1_e hf
    refine xvr_LinkAuditModel_92 X hkk hD (Nat.le_of_ble_eq_true rfl) ⟨by dsimp only [rmR]; omega, by dsimp only [rmR]; omega⟩ ⟨Nat.zero_le _, Nat.zero_le _⟩ hc14 hl.1 hP hS d_LinkAuditModel_provide_12 (fun H locs hP hS => ?_)
    refine lv_if_eq (tgt := 23) hx hb d_LinkAuditModel_provide_15 (by decide) (fun c15 => ?_) (fun c15 => ?_)
    · have hf := ifp c15 hf
      refine lv_iconst (v := (-1 : Int32)) hx hb d_LinkAuditModel_provide_23 (by decide) ?_
      exact hret hf hP hS d_LinkAuditModel_provide_24
    · have hf := ifn c15 hf
      refine lv_iload_n hx hb d_LinkAuditModel_provide_18 rfl (lv_at hl 1 rfl) ?_
      refine lv_iload_n hx hb d_LinkAuditModel_provide_19 rfl (lv_at hl 2 rfl) ?_
      refine lv_icmp_ne (tgt := 25) hx hb d_LinkAuditModel_provide_20 (by decide) (fun c16 => ?_) (fun c16 => ?_)
      · have hf := ifn c16 hf
        refine lv_iconst (v := (0 : Int32)) hx hb d_LinkAuditModel_provide_25 (by decide) ?_
        refine lv_istore_n (lv' := [(3, .int (0 : Int32)), (0, .ref (ad 0)), (1, .int a1), (2, .int a2)]) hx hb d_LinkAuditModel_provide_26 rfl hl (by decide) rfl (fun ls hl => ?_)
        exact L27 M a1 a2 _ rfl _ rfl FU (0 : Int32) _ _ _ hf hP hS (lv_sub hl [1, 2, 3, 0] rfl)
      · have hf := ifp c16 hf
        refine lv_iconst (v := (-1 : Int32)) hx hb d_LinkAuditModel_provide_23 (by decide) ?_
        exact hret hf hP hS d_LinkAuditModel_provide_24
-- LinkAuditModel.mask
theorem xg_LinkAuditModel_16 {p : Program} {l : Launch} {e : Env} {R : Room} {s : State} {m : MethodId} {args : Array Value} {below : List Frame} {meth : Method} {c : Code} {H : Heap} {locs : List Loc} {cells slots : Nat} {Q : State → Prop} {cc : ByteArray} {pc : Nat} {ls : Array Slot} {rest : List Value} {D : va_G} {cI cL cG cZ : ClassId} {ad : Nat → Nat} {M : Mem} (hx : p.tables.exec = Jvm.exec) (hb : c.code = cc) (hta : ∀ w ∈ ALLW, w.before args s = true) (hown : s.vm.findClass "LinkAuditModel" = some m.cls) (hK : va_K D vwC [(cI, .int), (cL, .long), (cG, .array .int), (cZ, .boolean)] s) (hP : va_P D vwC (r_ws cI cL cG cZ ad M) H) (hdg : decode cc pc = .ok (.getfield 16, 3))
    (kk : W p l e R s m args below meth c H locs cells slots Q (F0 m (pc + 3) ls (.ref (ad 3) :: rest))) : W p l e R s m args below meth c H locs cells slots Q (F0 m pc ls (.ref (ad 0) :: rest)) :=
  va_get (D := D) (ci := 10) (v := .ref (ad 3)) (C := "LinkAuditModel") (T := T_LinkAuditModel) (N := 31) hx hb hta i_LinkAuditModel hown hK hP 0 r_c0 rfl 2 (by decide) (hta _ wm_703) (fun _ h9 => h9) rfl hdg kk
set_option maxHeartbeats 4000000 in
set_option maxRecDepth 100000 in
theorem c_LinkAuditModel_mask {l : Launch} {D : va_G} {cI cL cG cZ : ClassId} {ad : Nat → Nat} {M M' : Mem} {a1 : Int32} {a2 : Int32} {a3 : Int32} {r : Int32} (hD : ∀ M, va_D (r_A ad) (r_ws cI cL cG cZ ad M)) (hf : f_LinkAuditModel_mask M a1 a2 a3 = some (r, M')) : Mi l y_LinkAuditModel_mask (.code y_LinkAuditModel_mask prog_12_method_4_code 4 (some .int) :: ALLW) (rmR 1 22) (Kk D cI cL cG cZ) D vwC (r_A ad) (r_ws cI cL cG cZ ad) [.ref (ad 0), .int a1, .int a2, .int a3] M M' r := by
  refine Mi_of (by decide) (Nat.le_of_ble_eq_true rfl) ?_
  intro p e s m args below meth c ls Q X hkk hret hP hl
  obtain ⟨hx, hb, hml, hown, hta⟩ := id X
  have hKv := hkk.1
  have hS : va_S (r_A ad) s.heap s.heap [] := va_S.rf
  have hl : lv_has ls 4 [(0, .ref (ad 0)), (1, .int a1), (2, .int a2), (3, .int a3)] := hl
  have b55 : ∀ (M : Mem) (t1 : Int32) (t2 : Int32) (H : Heap) (locs : List Loc) (ls : Array Slot), f_LinkAuditModel_mask_b55 M t1 t2 = some (r, M') → va_P D vwC (r_ws cI cL cG cZ ad M) H → va_S (r_A ad) s.heap H locs → lv_has ls 4 [] → W p l e (rmR 1 22) s m args below meth c H locs 0 0 Q (F0 m 55 ls [.int t2, .int t1, .ref (ad 3)]) := by
    intro M t1 t2 H locs ls hf hP hS hl
    unfold f_LinkAuditModel_mask_b55 at hf
    obtain ⟨g1, hf⟩ := gd_ok hf
    obtain ⟨M4, eM4, hf⟩ := sm_e hf
    refine x_ist hx hb hKv hP (hD _) hS r_c3 r_s3 g1 eM4 d_LinkAuditModel_mask_55 (fun H locs hP hS => ?_)
    refine lv_iconst (v := (0 : Int32)) hx hb d_LinkAuditModel_mask_56 (by decide) ?_
    exact hret hf hP hS d_LinkAuditModel_mask_57
  unfold f_LinkAuditModel_mask at hf
  refine lv_iload_n hx hb d_LinkAuditModel_mask_0 rfl (lv_at hl 1 rfl) ?_
  refine lv_iconst (v := (1 : Int32)) hx hb d_LinkAuditModel_mask_1 (by decide) ?_
  refine lv_iconst (v := (4 : Int32)) hx hb d_LinkAuditModel_mask_2 (by decide) ?_
  obtain ⟨r5, hc2, hf⟩ := bd1_e hf
  refine xvr_LinkAuditModel_92 X hkk hD (Nat.le_of_ble_eq_true rfl) ⟨by dsimp only [rmR]; omega, by dsimp only [rmR]; omega⟩ ⟨Nat.zero_le _, Nat.zero_le _⟩ hc2 hl.1 hP hS d_LinkAuditModel_mask_3 (fun H locs hP hS => ?_)
  refine lv_if_eq (tgt := 19) hx hb d_LinkAuditModel_mask_6 (by decide) (fun c3 => ?_) (fun c3 => ?_)
  · have hf := ifp c3 hf
    refine lv_iconst (v := (-1 : Int32)) hx hb d_LinkAuditModel_mask_19 (by decide) ?_
    exact hret hf hP hS d_LinkAuditModel_mask_20
  · have hf := ifn c3 hf
    refine lv_iload_n hx hb d_LinkAuditModel_mask_9 rfl (lv_at hl 2 rfl) ?_
    refine lv_iconst (v := (0 : Int32)) hx hb d_LinkAuditModel_mask_10 (by decide) ?_
    refine lv_bipush (v := (11 : Int32)) hx hb d_LinkAuditModel_mask_11 (by decide) ?_
    obtain ⟨r6, hc4, hf⟩ := bd1_e hf
    refine xvr_LinkAuditModel_92 X hkk hD (Nat.le_of_ble_eq_true rfl) ⟨by dsimp only [rmR]; omega, by dsimp only [rmR]; omega⟩ ⟨Nat.zero_le _, Nat.zero_le _⟩ hc4 hl.1 hP hS d_LinkAuditModel_mask_13 (fun H locs hP hS => ?_)
    refine lv_if_ne (tgt := 21) hx hb d_LinkAuditModel_mask_16 (by decide) (fun c5 => ?_) (fun c5 => ?_)
    · have hf := ifn c5 hf
      refine lv_aload_n hx hb d_LinkAuditModel_mask_21 rfl (lv_at hl 0 rfl) ?_
      refine xg_LinkAuditModel_16 hx hb hta hown hKv hP d_LinkAuditModel_mask_22 ?_
      refine lv_iload_n hx hb d_LinkAuditModel_mask_25 rfl (lv_at hl 1 rfl) ?_
      refine lv_iload_n hx hb d_LinkAuditModel_mask_26 rfl (lv_at hl 3 rfl) ?_
      refine lv_if_eq (tgt := 43) hx hb d_LinkAuditModel_mask_27 (by decide) (fun c6 => ?_) (fun c6 => ?_)
      · have hf := ifp c6 hf
        refine lv_aload_n hx hb d_LinkAuditModel_mask_43 rfl (lv_at hl 0 rfl) ?_
        refine xg_LinkAuditModel_16 hx hb hta hown hKv hP d_LinkAuditModel_mask_44 ?_
        refine lv_iload_n hx hb d_LinkAuditModel_mask_47 rfl (lv_at hl 1 rfl) ?_
        obtain ⟨g7, hf⟩ := gd_ok hf
        refine x_ild hx hb hKv hP r_c3 g7 d_LinkAuditModel_mask_48 ?_
        refine lv_iconst (v := (1 : Int32)) hx hb d_LinkAuditModel_mask_49 (by decide) ?_
        refine lv_iload_n hx hb d_LinkAuditModel_mask_50 rfl (lv_at hl 2 rfl) ?_
        refine lv_ishl hx hb d_LinkAuditModel_mask_51 ?_
        refine lv_iconst (v := (-1 : Int32)) hx hb d_LinkAuditModel_mask_52 (by decide) ?_
        refine lv_ixor hx hb d_LinkAuditModel_mask_53 ?_
        refine lv_iand hx hb d_LinkAuditModel_mask_54 ?_
        exact b55 M a1 ((M.1 3 a1.toNatClampNeg) &&& (((1 : Int32) <<< (a2 &&& 31)) ^^^ (-1 : Int32))) _ _ _ hf hP hS (lv_sub hl [] rfl)
      · have hf := ifn c6 hf
        refine lv_aload_n hx hb d_LinkAuditModel_mask_30 rfl (lv_at hl 0 rfl) ?_
        refine xg_LinkAuditModel_16 hx hb hta hown hKv hP d_LinkAuditModel_mask_31 ?_
        refine lv_iload_n hx hb d_LinkAuditModel_mask_34 rfl (lv_at hl 1 rfl) ?_
        obtain ⟨g8, hf⟩ := gd_ok hf
        refine x_ild hx hb hKv hP r_c3 g8 d_LinkAuditModel_mask_35 ?_
        refine lv_iconst (v := (1 : Int32)) hx hb d_LinkAuditModel_mask_36 (by decide) ?_
        refine lv_iload_n hx hb d_LinkAuditModel_mask_37 rfl (lv_at hl 2 rfl) ?_
        refine lv_ishl hx hb d_LinkAuditModel_mask_38 ?_
        refine lv_ior hx hb d_LinkAuditModel_mask_39 ?_
        refine lv_goto (tgt := 55) hx hb d_LinkAuditModel_mask_40 (by decide) ?_
        exact b55 M a1 ((M.1 3 a1.toNatClampNeg) ||| ((1 : Int32) <<< (a2 &&& 31))) _ _ _ hf hP hS (lv_sub hl [] rfl)
    · have hf := ifp c5 hf
      refine lv_iconst (v := (-1 : Int32)) hx hb d_LinkAuditModel_mask_19 (by decide) ?_
      exact hret hf hP hS d_LinkAuditModel_mask_20
-- LinkAuditModel.own
theorem xg_LinkAuditModel_96 {p : Program} {l : Launch} {e : Env} {R : Room} {s : State} {m : MethodId} {args : Array Value} {below : List Frame} {meth : Method} {c : Code} {H : Heap} {locs : List Loc} {cells slots : Nat} {Q : State → Prop} {cc : ByteArray} {pc : Nat} {ls : Array Slot} {rest : List Value} {D : va_G} {cI cL cG cZ : ClassId} {ad : Nat → Nat} {M : Mem} (hx : p.tables.exec = Jvm.exec) (hb : c.code = cc) (hta : ∀ w ∈ ALLW, w.before args s = true) (hown : s.vm.findClass "LinkAuditModel" = some m.cls) (hK : va_K D vwC [(cI, .int), (cL, .long), (cG, .array .int), (cZ, .boolean)] s) (hP : va_P D vwC (r_ws cI cL cG cZ ad M) H) (hdg : decode cc pc = .ok (.getfield 96, 3))
    (kk : W p l e R s m args below meth c H locs cells slots Q (F0 m (pc + 3) ls (.int (M.1 0 3) :: rest))) : W p l e R s m args below meth c H locs cells slots Q (F0 m pc ls (.ref (ad 0) :: rest)) :=
  va_get (D := D) (ci := 10) (v := .int (M.1 0 3)) (C := "LinkAuditModel") (T := T_LinkAuditModel) (N := 31) hx hb hta i_LinkAuditModel hown hK hP 0 r_c0 rfl 3 (by decide) (hta _ wm_704) (fun _ h9 => h9) rfl hdg kk
theorem xg_LinkAuditModel_19 {p : Program} {l : Launch} {e : Env} {R : Room} {s : State} {m : MethodId} {args : Array Value} {below : List Frame} {meth : Method} {c : Code} {H : Heap} {locs : List Loc} {cells slots : Nat} {Q : State → Prop} {cc : ByteArray} {pc : Nat} {ls : Array Slot} {rest : List Value} {D : va_G} {cI cL cG cZ : ClassId} {ad : Nat → Nat} {M : Mem} (hx : p.tables.exec = Jvm.exec) (hb : c.code = cc) (hta : ∀ w ∈ ALLW, w.before args s = true) (hown : s.vm.findClass "LinkAuditModel" = some m.cls) (hK : va_K D vwC [(cI, .int), (cL, .long), (cG, .array .int), (cZ, .boolean)] s) (hP : va_P D vwC (r_ws cI cL cG cZ ad M) H) (hdg : decode cc pc = .ok (.getfield 19, 3))
    (kk : W p l e R s m args below meth c H locs cells slots Q (F0 m (pc + 3) ls (.ref (ad 4) :: rest))) : W p l e R s m args below meth c H locs cells slots Q (F0 m pc ls (.ref (ad 0) :: rest)) :=
  va_get (D := D) (ci := 10) (v := .ref (ad 4)) (C := "LinkAuditModel") (T := T_LinkAuditModel) (N := 31) hx hb hta i_LinkAuditModel hown hK hP 0 r_c0 rfl 4 (by decide) (hta _ wm_705) (fun _ h9 => h9) rfl hdg kk
theorem xg_LinkAuditModel_22 {p : Program} {l : Launch} {e : Env} {R : Room} {s : State} {m : MethodId} {args : Array Value} {below : List Frame} {meth : Method} {c : Code} {H : Heap} {locs : List Loc} {cells slots : Nat} {Q : State → Prop} {cc : ByteArray} {pc : Nat} {ls : Array Slot} {rest : List Value} {D : va_G} {cI cL cG cZ : ClassId} {ad : Nat → Nat} {M : Mem} (hx : p.tables.exec = Jvm.exec) (hb : c.code = cc) (hta : ∀ w ∈ ALLW, w.before args s = true) (hown : s.vm.findClass "LinkAuditModel" = some m.cls) (hK : va_K D vwC [(cI, .int), (cL, .long), (cG, .array .int), (cZ, .boolean)] s) (hP : va_P D vwC (r_ws cI cL cG cZ ad M) H) (hdg : decode cc pc = .ok (.getfield 22, 3))
    (kk : W p l e R s m args below meth c H locs cells slots Q (F0 m (pc + 3) ls (.ref (ad 5) :: rest))) : W p l e R s m args below meth c H locs cells slots Q (F0 m pc ls (.ref (ad 0) :: rest)) :=
  va_get (D := D) (ci := 10) (v := .ref (ad 5)) (C := "LinkAuditModel") (T := T_LinkAuditModel) (N := 31) hx hb hta i_LinkAuditModel hown hK hP 0 r_c0 rfl 5 (by decide) (hta _ wm_706) (fun _ h9 => h9) rfl hdg kk
set_option maxHeartbeats 4000000 in
set_option maxRecDepth 100000 in
theorem c_LinkAuditModel_own {l : Launch} {D : va_G} {cI cL cG cZ : ClassId} {ad : Nat → Nat} {M : Mem} {a1 : Int32} {a2 : Int32} {r : Int32} (hD : ∀ M, va_D (r_A ad) (r_ws cI cL cG cZ ad M)) (hf : f_LinkAuditModel_own M a1 a2 = some r) : Mi l y_LinkAuditModel_own (.code y_LinkAuditModel_own prog_12_method_5_code 4 (some .int) :: ALLW) (rmR 0 0) (Kk D cI cL cG cZ) D vwC (r_A ad) (r_ws cI cL cG cZ ad) [.ref (ad 0), .int a1, .int a2] M M r := by
  refine Mi_ofR (by decide) (Nat.le_of_ble_eq_true rfl) ?_
  intro p e s m args below meth c ls Q X hkk hret hP hl
  obtain ⟨hx, hb, hml, hown, hta⟩ := id X
  have hKv := hkk.1
  have hS : va_S (r_A ad) s.heap s.heap [] := va_S.rf
  have hl : lv_has ls 4 [(0, .ref (ad 0)), (1, .int a1), (2, .int a2)] := hl
  have L2 : ∀ (x1 : Int32) (x2 : Int32), ∀ (ke30 : Int32 → Option Int32), ke30 = (fun y3 => some (y3)) → ∀ (ke38 : Option Int32), ke38 = (some ((0 : Int32))) → ∀ (n2 : Nat) (x3 : Int32) (H : Heap) (locs : List Loc) (ls : Array Slot), f_LinkAuditModel_own_L2 M x1 x2 ke30 ke38 n2 x3 = some r → va_P D vwC (r_ws cI cL cG cZ ad M) H → va_S (r_A ad) s.heap H locs → lv_has ls 4 [(0, .ref (ad 0)), (1, .int x1), (2, .int x2), (3, .int x3)] → W p l e (rmR 0 0) s m args below meth c H locs 0 0 Q (F0 m 2 ls []) := by
    intro x1 x2 ke30 hke30 ke38 hke38 n2
    induction n2 with
    | zero => intro x3 H locs ls hf; exact absurd (show (none : Option _) = some _ from hf) (fun q => by cases q)
    | succ n2 ih2 =>
      intro x3 H locs ls hf hP hS hl
      rw [f_LinkAuditModel_own_L2] at hf
      refine lv_iload_n hx hb d_LinkAuditModel_own_2 rfl (lv_at hl 3 rfl) ?_
      refine lv_aload_n hx hb d_LinkAuditModel_own_3 rfl (lv_at hl 0 rfl) ?_
      refine xg_LinkAuditModel_96 hx hb hta hown hKv hP d_LinkAuditModel_own_4 ?_
      refine lv_icmp_gt (tgt := 38) hx hb d_LinkAuditModel_own_7 (by decide) (fun c1 => ?_) (fun c1 => ?_)
      · have hf := ifp c1 hf
        rw [hke38] at hf
        refine lv_iconst (v := (0 : Int32)) hx hb d_LinkAuditModel_own_38 (by decide) ?_
        exact hret hf hP hS d_LinkAuditModel_own_39
      · have hf := ifn c1 hf
        refine lv_aload_n hx hb d_LinkAuditModel_own_10 rfl (lv_at hl 0 rfl) ?_
        refine xg_LinkAuditModel_19 hx hb hta hown hKv hP d_LinkAuditModel_own_11 ?_
        refine lv_iload_n hx hb d_LinkAuditModel_own_14 rfl (lv_at hl 3 rfl) ?_
        obtain ⟨g2, hf⟩ := gd_ok hf
        refine x_ild hx hb hKv hP r_c4 g2 d_LinkAuditModel_own_15 ?_
        refine lv_iload_n hx hb d_LinkAuditModel_own_16 rfl (lv_at hl 1 rfl) ?_
        refine lv_icmp_ne (tgt := 32) hx hb d_LinkAuditModel_own_17 (by decide) (fun c3 => ?_) (fun c3 => ?_)
        · have hf := ifn c3 hf
          refine lv_iinc (v := (x3 + (1 : Int32))) (lv' := [(3, .int (x3 + (1 : Int32))), (0, .ref (ad 0)), (1, .int x1), (2, .int x2)]) hx hb d_LinkAuditModel_own_32 hl (k := 3) rfl rfl (by decide) rfl (fun ls hl => ?_)
          refine lv_goto (tgt := 2) hx hb d_LinkAuditModel_own_35 (by decide) ?_
          exact ih2 (x3 + (1 : Int32)) _ _ _ hf hP hS (lv_sub hl [1, 2, 3, 0] rfl)
        · have hf := ifp c3 hf
          refine lv_aload_n hx hb d_LinkAuditModel_own_20 rfl (lv_at hl 0 rfl) ?_
          refine xg_LinkAuditModel_22 hx hb hta hown hKv hP d_LinkAuditModel_own_21 ?_
          refine lv_iload_n hx hb d_LinkAuditModel_own_24 rfl (lv_at hl 3 rfl) ?_
          obtain ⟨g4, hf⟩ := gd_ok hf
          refine x_ild hx hb hKv hP r_c5 g4 d_LinkAuditModel_own_25 ?_
          refine lv_iload_n hx hb d_LinkAuditModel_own_26 rfl (lv_at hl 2 rfl) ?_
          refine lv_icmp_ne (tgt := 32) hx hb d_LinkAuditModel_own_27 (by decide) (fun c5 => ?_) (fun c5 => ?_)
          · have hf := ifn c5 hf
            refine lv_iinc (v := (x3 + (1 : Int32))) (lv' := [(3, .int (x3 + (1 : Int32))), (0, .ref (ad 0)), (1, .int x1), (2, .int x2)]) hx hb d_LinkAuditModel_own_32 hl (k := 3) rfl rfl (by decide) rfl (fun ls hl => ?_)
            refine lv_goto (tgt := 2) hx hb d_LinkAuditModel_own_35 (by decide) ?_
            exact ih2 (x3 + (1 : Int32)) _ _ _ hf hP hS (lv_sub hl [1, 2, 3, 0] rfl)
          · have hf := ifp c5 hf
            rw [hke30] at hf
            refine lv_iload_n hx hb d_LinkAuditModel_own_30 rfl (lv_at hl 3 rfl) ?_
            exact hret hf hP hS d_LinkAuditModel_own_31
  unfold f_LinkAuditModel_own at hf
  refine lv_iconst (v := (1 : Int32)) hx hb d_LinkAuditModel_own_0 (by decide) ?_
  refine lv_istore_n (lv' := [(3, .int (1 : Int32)), (0, .ref (ad 0)), (1, .int a1), (2, .int a2)]) hx hb d_LinkAuditModel_own_1 rfl hl (by decide) rfl (fun ls hl => ?_)
  exact L2 a1 a2 _ rfl _ rfl FU (1 : Int32) _ _ _ hf hP hS (lv_sub hl [1, 2, 3, 0] rfl)
-- LinkAuditModel.define
theorem xvr_LinkAuditModel_100 {p : Program} {l : Launch} {e : Env} {R : Room} {s : State} {m : MethodId} {args : Array Value} {below : List Frame} {meth : Method} {c : Code} {H : Heap} {locs : List Loc} {cells slots : Nat} {Q : State → Prop} {cc : ByteArray} {pc : Nat} {ls : Array Slot} {rest : List Value} {D : va_G} {cI cL cG cZ : ClassId} {ad : Nat → Nat} {M : Mem} {H0 : Heap} {nL : Nat} {a0 : Int32} {a1 : Int32} {r : Int32} (X : CallFix p m c cc nL s args ALLW "LinkAuditModel") (hkk : Kk D cI cL cG cZ s) (hD : ∀ M, va_D (r_A ad) (r_ws cI cL cG cZ ad M)) (hrest : (rest.map fun v => v.category).sum ≤ 8) (hR : 0 + 1 ≤ R.frames ∧ 8 + (4 + 11) + 0 ≤ R.locals) (hcs : cells + 0 ≤ R.cells ∧ slots + 0 ≤ R.slots) (hc : f_LinkAuditModel_own M a0 a1 = some r) (hsz : ls.size = nL) (hP : va_P D vwC (r_ws cI cL cG cZ ad M) H) (hS : va_S (r_A ad) H0 H locs) (hdg : decode cc pc = .ok (.invokevirtual 100, 3))
    (kk : ∀ (H1 : Heap) (locs1 : List Loc), va_P D vwC (r_ws cI cL cG cZ ad M) H1 → va_S (r_A ad) H0 H1 locs1 → W p l e R s m args below meth c H1 locs1 cells slots Q (F0 m (pc + 3) ls (.int r :: rest))) : W p l e R s m args below meth c H locs cells slots Q (F0 m pc ls (.int a1 :: .int a0 :: .ref (ad 0) :: rest)) := by
  have hta := X.2.2.2.2
  exact x_afterI (va_runV (As := [.int a0, .int a1]) (rest := rest) X (c_LinkAuditModel_own hD hc) ⟨callB_of 2 hta (good_all (L := .code y_LinkAuditModel_own prog_12_method_5_code 4 (some .int) :: ALLW) (List.forall_mem_cons.mpr ⟨wm_814, fun _ h => h⟩)) rfl rfl rfl (hta _ wm_11) (hta _ wm_811) (by decide +kernel) hR, hta _ wm_813, hta _ wp_23⟩ ⟨x_blind Kk_w _, va_recv hkk.1 hP (ci := 10) (q0 := 0) rfl r_c0, x_pre Kk_w hkk hP _⟩ rfl rfl hsz rfl (lv_room hrest) hdg hcs) hS kk
theorem xp_LinkAuditModel_96 {p : Program} {l : Launch} {e : Env} {R : Room} {s : State} {m : MethodId} {args : Array Value} {below : List Frame} {meth : Method} {c : Code} {H : Heap} {locs : List Loc} {cells slots : Nat} {Q : State → Prop} {cc : ByteArray} {pc : Nat} {ls : Array Slot} {rest : List Value} {D : va_G} {cI cL cG cZ : ClassId} {ad : Nat → Nat} {M : Mem} {H0 : Heap} {M1 : Mem} {x : Int32} (hx : p.tables.exec = Jvm.exec) (hb : c.code = cc) (hta : ∀ w ∈ ALLW, w.before args s = true) (hown : s.vm.findClass "LinkAuditModel" = some m.cls) (hK : va_K D vwC [(cI, .int), (cL, .long), (cG, .array .int), (cZ, .boolean)] s) (hP : va_P D vwC (r_ws cI cL cG cZ ad M) H) (hD : va_D (r_A ad) (r_ws cI cL cG cZ ad M)) (hS : va_S (r_A ad) H0 H locs) (eM : M1 = u1 M 0 3 x) (hdg : decode cc pc = .ok (.putfield 96, 3))
    (kk : ∀ (H1 : Heap) (locs1 : List Loc), va_P D vwC (r_ws cI cL cG cZ ad M1) H1 → va_S (r_A ad) H0 H1 locs1 → W p l e R s m args below meth c H1 locs1 cells slots Q (F0 m (pc + 3) ls rest)) : W p l e R s m args below meth c H locs cells slots Q (F0 m pc ls (.int x :: .ref (ad 0) :: rest)) := by
  refine va_put (D := D) (ci := 10) (v := .int x) (ty := .int) (C := "LinkAuditModel") (T := T_LinkAuditModel) (N := 31) hx hb hta i_LinkAuditModel t_LinkAuditModel t_LinkAuditModel_ok n_LinkAuditModel hown hK hP hD hS 0 r_c0 rfl 3 (by decide) (hta _ wm_704) (fun _ h9 => h9) rfl (by decide +kernel) rfl rfl (Nat.le_of_ble_eq_true rfl) hdg (fun H1 locs1 h1 _ h3 => kk H1 locs1 ?_ h3)
  rw [eM]
  exact h1
theorem xg_LinkAuditModel_25 {p : Program} {l : Launch} {e : Env} {R : Room} {s : State} {m : MethodId} {args : Array Value} {below : List Frame} {meth : Method} {c : Code} {H : Heap} {locs : List Loc} {cells slots : Nat} {Q : State → Prop} {cc : ByteArray} {pc : Nat} {ls : Array Slot} {rest : List Value} {D : va_G} {cI cL cG cZ : ClassId} {ad : Nat → Nat} {M : Mem} (hx : p.tables.exec = Jvm.exec) (hb : c.code = cc) (hta : ∀ w ∈ ALLW, w.before args s = true) (hown : s.vm.findClass "LinkAuditModel" = some m.cls) (hK : va_K D vwC [(cI, .int), (cL, .long), (cG, .array .int), (cZ, .boolean)] s) (hP : va_P D vwC (r_ws cI cL cG cZ ad M) H) (hdg : decode cc pc = .ok (.getfield 25, 3))
    (kk : W p l e R s m args below meth c H locs cells slots Q (F0 m (pc + 3) ls (.ref (ad 6) :: rest))) : W p l e R s m args below meth c H locs cells slots Q (F0 m pc ls (.ref (ad 0) :: rest)) :=
  va_get (D := D) (ci := 10) (v := .ref (ad 6)) (C := "LinkAuditModel") (T := T_LinkAuditModel) (N := 31) hx hb hta i_LinkAuditModel hown hK hP 0 r_c0 rfl 6 (by decide) (hta _ wm_707) (fun _ h9 => h9) rfl hdg kk
theorem xg_LinkAuditModel_28 {p : Program} {l : Launch} {e : Env} {R : Room} {s : State} {m : MethodId} {args : Array Value} {below : List Frame} {meth : Method} {c : Code} {H : Heap} {locs : List Loc} {cells slots : Nat} {Q : State → Prop} {cc : ByteArray} {pc : Nat} {ls : Array Slot} {rest : List Value} {D : va_G} {cI cL cG cZ : ClassId} {ad : Nat → Nat} {M : Mem} (hx : p.tables.exec = Jvm.exec) (hb : c.code = cc) (hta : ∀ w ∈ ALLW, w.before args s = true) (hown : s.vm.findClass "LinkAuditModel" = some m.cls) (hK : va_K D vwC [(cI, .int), (cL, .long), (cG, .array .int), (cZ, .boolean)] s) (hP : va_P D vwC (r_ws cI cL cG cZ ad M) H) (hdg : decode cc pc = .ok (.getfield 28, 3))
    (kk : W p l e R s m args below meth c H locs cells slots Q (F0 m (pc + 3) ls (.ref (ad 7) :: rest))) : W p l e R s m args below meth c H locs cells slots Q (F0 m pc ls (.ref (ad 0) :: rest)) :=
  va_get (D := D) (ci := 10) (v := .ref (ad 7)) (C := "LinkAuditModel") (T := T_LinkAuditModel) (N := 31) hx hb hta i_LinkAuditModel hown hK hP 0 r_c0 rfl 7 (by decide) (hta _ wm_708) (fun _ h9 => h9) rfl hdg kk
theorem xg_LinkAuditModel_31 {p : Program} {l : Launch} {e : Env} {R : Room} {s : State} {m : MethodId} {args : Array Value} {below : List Frame} {meth : Method} {c : Code} {H : Heap} {locs : List Loc} {cells slots : Nat} {Q : State → Prop} {cc : ByteArray} {pc : Nat} {ls : Array Slot} {rest : List Value} {D : va_G} {cI cL cG cZ : ClassId} {ad : Nat → Nat} {M : Mem} (hx : p.tables.exec = Jvm.exec) (hb : c.code = cc) (hta : ∀ w ∈ ALLW, w.before args s = true) (hown : s.vm.findClass "LinkAuditModel" = some m.cls) (hK : va_K D vwC [(cI, .int), (cL, .long), (cG, .array .int), (cZ, .boolean)] s) (hP : va_P D vwC (r_ws cI cL cG cZ ad M) H) (hdg : decode cc pc = .ok (.getfield 31, 3))
    (kk : W p l e R s m args below meth c H locs cells slots Q (F0 m (pc + 3) ls (.ref (ad 8) :: rest))) : W p l e R s m args below meth c H locs cells slots Q (F0 m pc ls (.ref (ad 0) :: rest)) :=
  va_get (D := D) (ci := 10) (v := .ref (ad 8)) (C := "LinkAuditModel") (T := T_LinkAuditModel) (N := 31) hx hb hta i_LinkAuditModel hown hK hP 0 r_c0 rfl 8 (by decide) (hta _ wm_709) (fun _ h9 => h9) rfl hdg kk
set_option maxHeartbeats 4000000 in
set_option maxRecDepth 100000 in
theorem c_LinkAuditModel_define {l : Launch} {D : va_G} {cI cL cG cZ : ClassId} {ad : Nat → Nat} {M M' : Mem} {a1 : Int32} {a2 : Int32} {a3 : Int32} {a4 : Int32} {a5 : Int32} {r : Int32} (hD : ∀ M, va_D (r_A ad) (r_ws cI cL cG cZ ad M)) (hf : f_LinkAuditModel_define M a1 a2 a3 a4 a5 = some (r, M')) : Mi l y_LinkAuditModel_define (.code y_LinkAuditModel_define prog_12_method_7_code 6 (some .int) :: ALLW) (rmR 1 23) (Kk D cI cL cG cZ) D vwC (r_A ad) (r_ws cI cL cG cZ ad) [.ref (ad 0), .int a1, .int a2, .int a3, .int a4, .int a5] M M' r := by
  refine Mi_of (by decide) (Nat.le_of_ble_eq_true rfl) ?_
  intro p e s m args below meth c ls Q X hkk hret hP hl
  obtain ⟨hx, hb, hml, hown, hta⟩ := id X
  have hKv := hkk.1
  have hS : va_S (r_A ad) s.heap s.heap [] := va_S.rf
  have hl : lv_has ls 6 [(0, .ref (ad 0)), (1, .int a1), (2, .int a2), (3, .int a3), (4, .int a4), (5, .int a5)] := hl
  have b74 : ∀ (M : Mem) (x1 : Int32) (x2 : Int32) (x3 : Int32) (x4 : Int32) (x5 : Int32) (H : Heap) (locs : List Loc) (ls : Array Slot), f_LinkAuditModel_define_b74 M x1 x2 x3 x4 x5 = some (r, M') → va_P D vwC (r_ws cI cL cG cZ ad M) H → va_S (r_A ad) s.heap H locs → lv_has ls 6 [(0, .ref (ad 0)), (1, .int x1), (2, .int x2), (3, .int x3), (4, .int x4), (5, .int x5)] → W p l e (rmR 1 23) s m args below meth c H locs 0 0 Q (F0 m 74 ls []) := by
    intro M x1 x2 x3 x4 x5 H locs ls hf hP hS hl
    unfold f_LinkAuditModel_define_b74 at hf
    refine lv_aload_n hx hb d_LinkAuditModel_define_74 rfl (lv_at hl 0 rfl) ?_
    refine lv_iload_n hx hb d_LinkAuditModel_define_75 rfl (lv_at hl 1 rfl) ?_
    refine lv_iload_n hx hb d_LinkAuditModel_define_76 rfl (lv_at hl 2 rfl) ?_
    obtain ⟨r13, hc1, hf⟩ := bd1_e hf
    refine xvr_LinkAuditModel_100 X hkk hD (Nat.le_of_ble_eq_true rfl) ⟨by dsimp only [rmR]; omega, by dsimp only [rmR]; omega⟩ ⟨Nat.zero_le _, Nat.zero_le _⟩ hc1 hl.1 hP hS d_LinkAuditModel_define_77 (fun H locs hP hS => ?_)
    refine lv_if_le (tgt := 85) hx hb d_LinkAuditModel_define_80 (by decide) (fun c2 => ?_) (fun c2 => ?_)
    · have hf := ifp c2 hf
      refine lv_aload_n hx hb d_LinkAuditModel_define_85 rfl (lv_at hl 0 rfl) ?_
      refine xg_LinkAuditModel_96 hx hb hta hown hKv hP d_LinkAuditModel_define_86 ?_
      refine lv_bipush (v := (16 : Int32)) hx hb d_LinkAuditModel_define_89 (by decide) ?_
      refine lv_icmp_ne (tgt := 97) hx hb d_LinkAuditModel_define_91 (by decide) (fun c3 => ?_) (fun c3 => ?_)
      · have hf := ifn c3 hf
        refine lv_aload_n hx hb d_LinkAuditModel_define_97 rfl (lv_at hl 0 rfl) ?_
        refine lv_dup hx hb d_LinkAuditModel_define_98 rfl ?_
        refine xg_LinkAuditModel_96 hx hb hta hown hKv hP d_LinkAuditModel_define_99 ?_
        refine lv_iconst (v := (1 : Int32)) hx hb d_LinkAuditModel_define_102 (by decide) ?_
        refine lv_iadd hx hb d_LinkAuditModel_define_103 ?_
        obtain ⟨M14, eM14, hf⟩ := sm_e hf
        refine xp_LinkAuditModel_96 hx hb hta hown hKv hP (hD _) hS eM14 d_LinkAuditModel_define_104 (fun H locs hP hS => ?_)
        refine lv_aload_n hx hb d_LinkAuditModel_define_107 rfl (lv_at hl 0 rfl) ?_
        refine xg_LinkAuditModel_19 hx hb hta hown hKv hP d_LinkAuditModel_define_108 ?_
        refine lv_aload_n hx hb d_LinkAuditModel_define_111 rfl (lv_at hl 0 rfl) ?_
        refine xg_LinkAuditModel_96 hx hb hta hown hKv hP d_LinkAuditModel_define_112 ?_
        refine lv_iload_n hx hb d_LinkAuditModel_define_115 rfl (lv_at hl 1 rfl) ?_
        obtain ⟨g4, hf⟩ := gd_ok hf
        obtain ⟨M15, eM15, hf⟩ := sm_e hf
        refine x_ist hx hb hKv hP (hD _) hS r_c4 r_s4 g4 eM15 d_LinkAuditModel_define_116 (fun H locs hP hS => ?_)
        refine lv_aload_n hx hb d_LinkAuditModel_define_117 rfl (lv_at hl 0 rfl) ?_
        refine xg_LinkAuditModel_22 hx hb hta hown hKv hP d_LinkAuditModel_define_118 ?_
        refine lv_aload_n hx hb d_LinkAuditModel_define_121 rfl (lv_at hl 0 rfl) ?_
        refine xg_LinkAuditModel_96 hx hb hta hown hKv hP d_LinkAuditModel_define_122 ?_
        refine lv_iload_n hx hb d_LinkAuditModel_define_125 rfl (lv_at hl 2 rfl) ?_
        obtain ⟨g5, hf⟩ := gd_ok hf
        obtain ⟨M16, eM16, hf⟩ := sm_e hf
        refine x_ist hx hb hKv hP (hD _) hS r_c5 r_s5 g5 eM16 d_LinkAuditModel_define_126 (fun H locs hP hS => ?_)
        refine lv_aload_n hx hb d_LinkAuditModel_define_127 rfl (lv_at hl 0 rfl) ?_
        refine xg_LinkAuditModel_25 hx hb hta hown hKv hP d_LinkAuditModel_define_128 ?_
        refine lv_aload_n hx hb d_LinkAuditModel_define_131 rfl (lv_at hl 0 rfl) ?_
        refine xg_LinkAuditModel_96 hx hb hta hown hKv hP d_LinkAuditModel_define_132 ?_
        refine lv_iload_n hx hb d_LinkAuditModel_define_135 rfl (lv_at hl 3 rfl) ?_
        obtain ⟨g6, hf⟩ := gd_ok hf
        obtain ⟨M17, eM17, hf⟩ := sm_e hf
        refine x_ist hx hb hKv hP (hD _) hS r_c6 r_s6 g6 eM17 d_LinkAuditModel_define_136 (fun H locs hP hS => ?_)
        refine lv_aload_n hx hb d_LinkAuditModel_define_137 rfl (lv_at hl 0 rfl) ?_
        refine xg_LinkAuditModel_28 hx hb hta hown hKv hP d_LinkAuditModel_define_138 ?_
        refine lv_aload_n hx hb d_LinkAuditModel_define_141 rfl (lv_at hl 0 rfl) ?_
        refine xg_LinkAuditModel_96 hx hb hta hown hKv hP d_LinkAuditModel_define_142 ?_
        refine lv_iload hx hb d_LinkAuditModel_define_145 (lv_at hl 4 rfl) ?_
        obtain ⟨g7, hf⟩ := gd_ok hf
        obtain ⟨M18, eM18, hf⟩ := sm_e hf
        refine x_ist hx hb hKv hP (hD _) hS r_c7 r_s7 g7 eM18 d_LinkAuditModel_define_147 (fun H locs hP hS => ?_)
        refine lv_aload_n hx hb d_LinkAuditModel_define_148 rfl (lv_at hl 0 rfl) ?_
        refine xg_LinkAuditModel_31 hx hb hta hown hKv hP d_LinkAuditModel_define_149 ?_
        refine lv_aload_n hx hb d_LinkAuditModel_define_152 rfl (lv_at hl 0 rfl) ?_
        refine xg_LinkAuditModel_96 hx hb hta hown hKv hP d_LinkAuditModel_define_153 ?_
        refine lv_iload hx hb d_LinkAuditModel_define_156 (lv_at hl 5 rfl) ?_
        obtain ⟨g8, hf⟩ := gd_ok hf
        obtain ⟨M19, eM19, hf⟩ := sm_e hf
        refine x_ist hx hb hKv hP (hD _) hS r_c8 r_s8 g8 eM19 d_LinkAuditModel_define_158 (fun H locs hP hS => ?_)
        refine lv_aload_n hx hb d_LinkAuditModel_define_159 rfl (lv_at hl 0 rfl) ?_
        refine xg_LinkAuditModel_96 hx hb hta hown hKv hP d_LinkAuditModel_define_160 ?_
        exact hret hf hP hS d_LinkAuditModel_define_163
      · have hf := ifp c3 hf
        refine lv_bipush (v := (-2 : Int32)) hx hb d_LinkAuditModel_define_94 (by decide) ?_
        exact hret hf hP hS d_LinkAuditModel_define_96
    · have hf := ifn c2 hf
      refine lv_iconst (v := (-1 : Int32)) hx hb d_LinkAuditModel_define_83 (by decide) ?_
      exact hret hf hP hS d_LinkAuditModel_define_84
  unfold f_LinkAuditModel_define at hf
  refine lv_iload_n hx hb d_LinkAuditModel_define_0 rfl (lv_at hl 1 rfl) ?_
  refine lv_iconst (v := (0 : Int32)) hx hb d_LinkAuditModel_define_1 (by decide) ?_
  refine lv_iconst (v := (4 : Int32)) hx hb d_LinkAuditModel_define_2 (by decide) ?_
  obtain ⟨r20, hc9, hf⟩ := bd1_e hf
  refine xvr_LinkAuditModel_92 X hkk hD (Nat.le_of_ble_eq_true rfl) ⟨by dsimp only [rmR]; omega, by dsimp only [rmR]; omega⟩ ⟨Nat.zero_le _, Nat.zero_le _⟩ hc9 hl.1 hP hS d_LinkAuditModel_define_3 (fun H locs hP hS => ?_)
  refine lv_if_eq (tgt := 52) hx hb d_LinkAuditModel_define_6 (by decide) (fun c10 => ?_) (fun c10 => ?_)
  · have hf := ifp c10 hf
    refine lv_iconst (v := (-1 : Int32)) hx hb d_LinkAuditModel_define_52 (by decide) ?_
    exact hret hf hP hS d_LinkAuditModel_define_53
  · have hf := ifn c10 hf
    refine lv_iload_n hx hb d_LinkAuditModel_define_9 rfl (lv_at hl 2 rfl) ?_
    refine lv_iconst (v := (0 : Int32)) hx hb d_LinkAuditModel_define_10 (by decide) ?_
    refine lv_bipush (v := (11 : Int32)) hx hb d_LinkAuditModel_define_11 (by decide) ?_
    obtain ⟨r21, hc11, hf⟩ := bd1_e hf
    refine xvr_LinkAuditModel_92 X hkk hD (Nat.le_of_ble_eq_true rfl) ⟨by dsimp only [rmR]; omega, by dsimp only [rmR]; omega⟩ ⟨Nat.zero_le _, Nat.zero_le _⟩ hc11 hl.1 hP hS d_LinkAuditModel_define_13 (fun H locs hP hS => ?_)
    refine lv_if_eq (tgt := 52) hx hb d_LinkAuditModel_define_16 (by decide) (fun c12 => ?_) (fun c12 => ?_)
    · have hf := ifp c12 hf
      refine lv_iconst (v := (-1 : Int32)) hx hb d_LinkAuditModel_define_52 (by decide) ?_
      exact hret hf hP hS d_LinkAuditModel_define_53
    · have hf := ifn c12 hf
      refine lv_iload_n hx hb d_LinkAuditModel_define_19 rfl (lv_at hl 3 rfl) ?_
      refine lv_iconst (v := (0 : Int32)) hx hb d_LinkAuditModel_define_20 (by decide) ?_
      refine lv_bipush (v := (15 : Int32)) hx hb d_LinkAuditModel_define_21 (by decide) ?_
      obtain ⟨r22, hc13, hf⟩ := bd1_e hf
      refine xvr_LinkAuditModel_92 X hkk hD (Nat.le_of_ble_eq_true rfl) ⟨by dsimp only [rmR]; omega, by dsimp only [rmR]; omega⟩ ⟨Nat.zero_le _, Nat.zero_le _⟩ hc13 hl.1 hP hS d_LinkAuditModel_define_23 (fun H locs hP hS => ?_)
      refine lv_if_eq (tgt := 52) hx hb d_LinkAuditModel_define_26 (by decide) (fun c14 => ?_) (fun c14 => ?_)
      · have hf := ifp c14 hf
        refine lv_iconst (v := (-1 : Int32)) hx hb d_LinkAuditModel_define_52 (by decide) ?_
        exact hret hf hP hS d_LinkAuditModel_define_53
      · have hf := ifn c14 hf
        refine lv_iload hx hb d_LinkAuditModel_define_29 (lv_at hl 4 rfl) ?_
        refine lv_iconst (v := (0 : Int32)) hx hb d_LinkAuditModel_define_31 (by decide) ?_
        refine lv_bipush (v := (12 : Int32)) hx hb d_LinkAuditModel_define_32 (by decide) ?_
        obtain ⟨r23, hc15, hf⟩ := bd1_e hf
        refine xvr_LinkAuditModel_92 X hkk hD (Nat.le_of_ble_eq_true rfl) ⟨by dsimp only [rmR]; omega, by dsimp only [rmR]; omega⟩ ⟨Nat.zero_le _, Nat.zero_le _⟩ hc15 hl.1 hP hS d_LinkAuditModel_define_34 (fun H locs hP hS => ?_)
        refine lv_if_eq (tgt := 52) hx hb d_LinkAuditModel_define_37 (by decide) (fun c16 => ?_) (fun c16 => ?_)
        · have hf := ifp c16 hf
          refine lv_iconst (v := (-1 : Int32)) hx hb d_LinkAuditModel_define_52 (by decide) ?_
          exact hret hf hP hS d_LinkAuditModel_define_53
        · have hf := ifn c16 hf
          refine lv_iload hx hb d_LinkAuditModel_define_40 (lv_at hl 5 rfl) ?_
          refine lv_iconst (v := (0 : Int32)) hx hb d_LinkAuditModel_define_42 (by decide) ?_
          refine lv_sipush (v := (4095 : Int32)) hx hb d_LinkAuditModel_define_43 (by decide) ?_
          obtain ⟨r24, hc17, hf⟩ := bd1_e hf
          refine xvr_LinkAuditModel_92 X hkk hD (Nat.le_of_ble_eq_true rfl) ⟨by dsimp only [rmR]; omega, by dsimp only [rmR]; omega⟩ ⟨Nat.zero_le _, Nat.zero_le _⟩ hc17 hl.1 hP hS d_LinkAuditModel_define_46 (fun H locs hP hS => ?_)
          refine lv_if_ne (tgt := 54) hx hb d_LinkAuditModel_define_49 (by decide) (fun c18 => ?_) (fun c18 => ?_)
          · have hf := ifn c18 hf
            refine lv_iload_n hx hb d_LinkAuditModel_define_54 rfl (lv_at hl 3 rfl) ?_
            refine lv_bipush (v := (8 : Int32)) hx hb d_LinkAuditModel_define_55 (by decide) ?_
            refine lv_iand hx hb d_LinkAuditModel_define_57 ?_
            refine lv_if_eq (tgt := 74) hx hb d_LinkAuditModel_define_58 (by decide) (fun c19 => ?_) (fun c19 => ?_)
            · have hf := ifp c19 hf
              exact b74 M a1 a2 a3 a4 a5 _ _ _ hf hP hS (lv_sub hl [0, 1, 2, 3, 4, 5] rfl)
            · have hf := ifn c19 hf
              refine lv_iload hx hb d_LinkAuditModel_define_61 (lv_at hl 4 rfl) ?_
              refine lv_bipush (v := (12 : Int32)) hx hb d_LinkAuditModel_define_63 (by decide) ?_
              refine lv_icmp_lt (tgt := 83) hx hb d_LinkAuditModel_define_65 (by decide) (fun c20 => ?_) (fun c20 => ?_)
              · have hf := ifp c20 hf
                refine lv_iconst (v := (-1 : Int32)) hx hb d_LinkAuditModel_define_83 (by decide) ?_
                exact hret hf hP hS d_LinkAuditModel_define_84
              · have hf := ifn c20 hf
                refine lv_iload_n hx hb d_LinkAuditModel_define_68 rfl (lv_at hl 3 rfl) ?_
                refine lv_iconst (v := (2 : Int32)) hx hb d_LinkAuditModel_define_69 (by decide) ?_
                refine lv_iand hx hb d_LinkAuditModel_define_70 ?_
                refine lv_if_ne (tgt := 83) hx hb d_LinkAuditModel_define_71 (by decide) (fun c21 => ?_) (fun c21 => ?_)
                · have hf := ifn c21 hf
                  refine lv_iconst (v := (-1 : Int32)) hx hb d_LinkAuditModel_define_83 (by decide) ?_
                  exact hret hf hP hS d_LinkAuditModel_define_84
                · have hf := ifp c21 hf
                  exact b74 M a1 a2 a3 a4 a5 _ _ _ hf hP hS (lv_sub hl [0, 1, 2, 3, 4, 5] rfl)
          · have hf := ifp c18 hf
            refine lv_iconst (v := (-1 : Int32)) hx hb d_LinkAuditModel_define_52 (by decide) ?_
            exact hret hf hP hS d_LinkAuditModel_define_53
-- LinkAuditModel.add
theorem xg_LinkAuditModel_104 {p : Program} {l : Launch} {e : Env} {R : Room} {s : State} {m : MethodId} {args : Array Value} {below : List Frame} {meth : Method} {c : Code} {H : Heap} {locs : List Loc} {cells slots : Nat} {Q : State → Prop} {cc : ByteArray} {pc : Nat} {ls : Array Slot} {rest : List Value} {D : va_G} {cI cL cG cZ : ClassId} {ad : Nat → Nat} {M : Mem} (hx : p.tables.exec = Jvm.exec) (hb : c.code = cc) (hta : ∀ w ∈ ALLW, w.before args s = true) (hown : s.vm.findClass "LinkAuditModel" = some m.cls) (hK : va_K D vwC [(cI, .int), (cL, .long), (cG, .array .int), (cZ, .boolean)] s) (hP : va_P D vwC (r_ws cI cL cG cZ ad M) H) (hdg : decode cc pc = .ok (.getfield 104, 3))
    (kk : W p l e R s m args below meth c H locs cells slots Q (F0 m (pc + 3) ls (.int (M.1 0 9) :: rest))) : W p l e R s m args below meth c H locs cells slots Q (F0 m pc ls (.ref (ad 0) :: rest)) :=
  va_get (D := D) (ci := 10) (v := .int (M.1 0 9)) (C := "LinkAuditModel") (T := T_LinkAuditModel) (N := 31) hx hb hta i_LinkAuditModel hown hK hP 0 r_c0 rfl 9 (by decide) (hta _ wm_710) (fun _ h9 => h9) rfl hdg kk
theorem xp_LinkAuditModel_104 {p : Program} {l : Launch} {e : Env} {R : Room} {s : State} {m : MethodId} {args : Array Value} {below : List Frame} {meth : Method} {c : Code} {H : Heap} {locs : List Loc} {cells slots : Nat} {Q : State → Prop} {cc : ByteArray} {pc : Nat} {ls : Array Slot} {rest : List Value} {D : va_G} {cI cL cG cZ : ClassId} {ad : Nat → Nat} {M : Mem} {H0 : Heap} {M1 : Mem} {x : Int32} (hx : p.tables.exec = Jvm.exec) (hb : c.code = cc) (hta : ∀ w ∈ ALLW, w.before args s = true) (hown : s.vm.findClass "LinkAuditModel" = some m.cls) (hK : va_K D vwC [(cI, .int), (cL, .long), (cG, .array .int), (cZ, .boolean)] s) (hP : va_P D vwC (r_ws cI cL cG cZ ad M) H) (hD : va_D (r_A ad) (r_ws cI cL cG cZ ad M)) (hS : va_S (r_A ad) H0 H locs) (eM : M1 = u1 M 0 9 x) (hdg : decode cc pc = .ok (.putfield 104, 3))
    (kk : ∀ (H1 : Heap) (locs1 : List Loc), va_P D vwC (r_ws cI cL cG cZ ad M1) H1 → va_S (r_A ad) H0 H1 locs1 → W p l e R s m args below meth c H1 locs1 cells slots Q (F0 m (pc + 3) ls rest)) : W p l e R s m args below meth c H locs cells slots Q (F0 m pc ls (.int x :: .ref (ad 0) :: rest)) := by
  refine va_put (D := D) (ci := 10) (v := .int x) (ty := .int) (C := "LinkAuditModel") (T := T_LinkAuditModel) (N := 31) hx hb hta i_LinkAuditModel t_LinkAuditModel t_LinkAuditModel_ok n_LinkAuditModel hown hK hP hD hS 0 r_c0 rfl 9 (by decide) (hta _ wm_710) (fun _ h9 => h9) rfl (by decide +kernel) rfl rfl (Nat.le_of_ble_eq_true rfl) hdg (fun H1 locs1 h1 _ h3 => kk H1 locs1 ?_ h3)
  rw [eM]
  exact h1
theorem xg_LinkAuditModel_34 {p : Program} {l : Launch} {e : Env} {R : Room} {s : State} {m : MethodId} {args : Array Value} {below : List Frame} {meth : Method} {c : Code} {H : Heap} {locs : List Loc} {cells slots : Nat} {Q : State → Prop} {cc : ByteArray} {pc : Nat} {ls : Array Slot} {rest : List Value} {D : va_G} {cI cL cG cZ : ClassId} {ad : Nat → Nat} {M : Mem} (hx : p.tables.exec = Jvm.exec) (hb : c.code = cc) (hta : ∀ w ∈ ALLW, w.before args s = true) (hown : s.vm.findClass "LinkAuditModel" = some m.cls) (hK : va_K D vwC [(cI, .int), (cL, .long), (cG, .array .int), (cZ, .boolean)] s) (hP : va_P D vwC (r_ws cI cL cG cZ ad M) H) (hdg : decode cc pc = .ok (.getfield 34, 3))
    (kk : W p l e R s m args below meth c H locs cells slots Q (F0 m (pc + 3) ls (.ref (ad 9) :: rest))) : W p l e R s m args below meth c H locs cells slots Q (F0 m pc ls (.ref (ad 0) :: rest)) :=
  va_get (D := D) (ci := 10) (v := .ref (ad 9)) (C := "LinkAuditModel") (T := T_LinkAuditModel) (N := 31) hx hb hta i_LinkAuditModel hown hK hP 0 r_c0 rfl 10 (by decide) (hta _ wm_711) (fun _ h9 => h9) rfl hdg kk
theorem xg_LinkAuditModel_37 {p : Program} {l : Launch} {e : Env} {R : Room} {s : State} {m : MethodId} {args : Array Value} {below : List Frame} {meth : Method} {c : Code} {H : Heap} {locs : List Loc} {cells slots : Nat} {Q : State → Prop} {cc : ByteArray} {pc : Nat} {ls : Array Slot} {rest : List Value} {D : va_G} {cI cL cG cZ : ClassId} {ad : Nat → Nat} {M : Mem} (hx : p.tables.exec = Jvm.exec) (hb : c.code = cc) (hta : ∀ w ∈ ALLW, w.before args s = true) (hown : s.vm.findClass "LinkAuditModel" = some m.cls) (hK : va_K D vwC [(cI, .int), (cL, .long), (cG, .array .int), (cZ, .boolean)] s) (hP : va_P D vwC (r_ws cI cL cG cZ ad M) H) (hdg : decode cc pc = .ok (.getfield 37, 3))
    (kk : W p l e R s m args below meth c H locs cells slots Q (F0 m (pc + 3) ls (.ref (ad 10) :: rest))) : W p l e R s m args below meth c H locs cells slots Q (F0 m pc ls (.ref (ad 0) :: rest)) :=
  va_get (D := D) (ci := 10) (v := .ref (ad 10)) (C := "LinkAuditModel") (T := T_LinkAuditModel) (N := 31) hx hb hta i_LinkAuditModel hown hK hP 0 r_c0 rfl 11 (by decide) (hta _ wm_712) (fun _ h9 => h9) rfl hdg kk
theorem xg_LinkAuditModel_41 {p : Program} {l : Launch} {e : Env} {R : Room} {s : State} {m : MethodId} {args : Array Value} {below : List Frame} {meth : Method} {c : Code} {H : Heap} {locs : List Loc} {cells slots : Nat} {Q : State → Prop} {cc : ByteArray} {pc : Nat} {ls : Array Slot} {rest : List Value} {D : va_G} {cI cL cG cZ : ClassId} {ad : Nat → Nat} {M : Mem} (hx : p.tables.exec = Jvm.exec) (hb : c.code = cc) (hta : ∀ w ∈ ALLW, w.before args s = true) (hown : s.vm.findClass "LinkAuditModel" = some m.cls) (hK : va_K D vwC [(cI, .int), (cL, .long), (cG, .array .int), (cZ, .boolean)] s) (hP : va_P D vwC (r_ws cI cL cG cZ ad M) H) (hdg : decode cc pc = .ok (.getfield 41, 3))
    (kk : W p l e R s m args below meth c H locs cells slots Q (F0 m (pc + 3) ls (.ref (ad 11) :: rest))) : W p l e R s m args below meth c H locs cells slots Q (F0 m pc ls (.ref (ad 0) :: rest)) :=
  va_get (D := D) (ci := 10) (v := .ref (ad 11)) (C := "LinkAuditModel") (T := T_LinkAuditModel) (N := 31) hx hb hta i_LinkAuditModel hown hK hP 0 r_c0 rfl 12 (by decide) (hta _ wm_713) (fun _ h9 => h9) rfl hdg kk
theorem xg_LinkAuditModel_44 {p : Program} {l : Launch} {e : Env} {R : Room} {s : State} {m : MethodId} {args : Array Value} {below : List Frame} {meth : Method} {c : Code} {H : Heap} {locs : List Loc} {cells slots : Nat} {Q : State → Prop} {cc : ByteArray} {pc : Nat} {ls : Array Slot} {rest : List Value} {D : va_G} {cI cL cG cZ : ClassId} {ad : Nat → Nat} {M : Mem} (hx : p.tables.exec = Jvm.exec) (hb : c.code = cc) (hta : ∀ w ∈ ALLW, w.before args s = true) (hown : s.vm.findClass "LinkAuditModel" = some m.cls) (hK : va_K D vwC [(cI, .int), (cL, .long), (cG, .array .int), (cZ, .boolean)] s) (hP : va_P D vwC (r_ws cI cL cG cZ ad M) H) (hdg : decode cc pc = .ok (.getfield 44, 3))
    (kk : W p l e R s m args below meth c H locs cells slots Q (F0 m (pc + 3) ls (.ref (ad 12) :: rest))) : W p l e R s m args below meth c H locs cells slots Q (F0 m pc ls (.ref (ad 0) :: rest)) :=
  va_get (D := D) (ci := 10) (v := .ref (ad 12)) (C := "LinkAuditModel") (T := T_LinkAuditModel) (N := 31) hx hb hta i_LinkAuditModel hown hK hP 0 r_c0 rfl 13 (by decide) (hta _ wm_714) (fun _ h9 => h9) rfl hdg kk
theorem xg_LinkAuditModel_47 {p : Program} {l : Launch} {e : Env} {R : Room} {s : State} {m : MethodId} {args : Array Value} {below : List Frame} {meth : Method} {c : Code} {H : Heap} {locs : List Loc} {cells slots : Nat} {Q : State → Prop} {cc : ByteArray} {pc : Nat} {ls : Array Slot} {rest : List Value} {D : va_G} {cI cL cG cZ : ClassId} {ad : Nat → Nat} {M : Mem} (hx : p.tables.exec = Jvm.exec) (hb : c.code = cc) (hta : ∀ w ∈ ALLW, w.before args s = true) (hown : s.vm.findClass "LinkAuditModel" = some m.cls) (hK : va_K D vwC [(cI, .int), (cL, .long), (cG, .array .int), (cZ, .boolean)] s) (hP : va_P D vwC (r_ws cI cL cG cZ ad M) H) (hdg : decode cc pc = .ok (.getfield 47, 3))
    (kk : W p l e R s m args below meth c H locs cells slots Q (F0 m (pc + 3) ls (.ref (ad 13) :: rest))) : W p l e R s m args below meth c H locs cells slots Q (F0 m pc ls (.ref (ad 0) :: rest)) :=
  va_get (D := D) (ci := 10) (v := .ref (ad 13)) (C := "LinkAuditModel") (T := T_LinkAuditModel) (N := 31) hx hb hta i_LinkAuditModel hown hK hP 0 r_c0 rfl 14 (by decide) (hta _ wm_715) (fun _ h9 => h9) rfl hdg kk
theorem xg_LinkAuditModel_50 {p : Program} {l : Launch} {e : Env} {R : Room} {s : State} {m : MethodId} {args : Array Value} {below : List Frame} {meth : Method} {c : Code} {H : Heap} {locs : List Loc} {cells slots : Nat} {Q : State → Prop} {cc : ByteArray} {pc : Nat} {ls : Array Slot} {rest : List Value} {D : va_G} {cI cL cG cZ : ClassId} {ad : Nat → Nat} {M : Mem} (hx : p.tables.exec = Jvm.exec) (hb : c.code = cc) (hta : ∀ w ∈ ALLW, w.before args s = true) (hown : s.vm.findClass "LinkAuditModel" = some m.cls) (hK : va_K D vwC [(cI, .int), (cL, .long), (cG, .array .int), (cZ, .boolean)] s) (hP : va_P D vwC (r_ws cI cL cG cZ ad M) H) (hdg : decode cc pc = .ok (.getfield 50, 3))
    (kk : W p l e R s m args below meth c H locs cells slots Q (F0 m (pc + 3) ls (.ref (ad 14) :: rest))) : W p l e R s m args below meth c H locs cells slots Q (F0 m pc ls (.ref (ad 0) :: rest)) :=
  va_get (D := D) (ci := 10) (v := .ref (ad 14)) (C := "LinkAuditModel") (T := T_LinkAuditModel) (N := 31) hx hb hta i_LinkAuditModel hown hK hP 0 r_c0 rfl 15 (by decide) (hta _ wm_716) (fun _ h9 => h9) rfl hdg kk
set_option maxHeartbeats 4000000 in
set_option maxRecDepth 100000 in
theorem c_LinkAuditModel_add {l : Launch} {D : va_G} {cI cL cG cZ : ClassId} {ad : Nat → Nat} {M M' : Mem} {a1 : Int32} {a2 : Int32} {a3 : Int32} {a4 : Int32} {a5 : Int32} {a6 : Int32} {r : Int32} (hD : ∀ M, va_D (r_A ad) (r_ws cI cL cG cZ ad M)) (hf : f_LinkAuditModel_add M a1 a2 a3 a4 a5 a6 = some (r, M')) : Mi l y_LinkAuditModel_add (.code y_LinkAuditModel_add prog_12_method_9_code 8 (some .int) :: ALLW) (rmR 0 0) (Kk D cI cL cG cZ) D vwC (r_A ad) (r_ws cI cL cG cZ ad) [.ref (ad 0), .int a1, .int a2, .int a3, .int a4, .int a5, .int a6] M M' r := by
  refine Mi_of (by decide) (Nat.le_of_ble_eq_true rfl) ?_
  intro p e s m args below meth c ls Q X hkk hret hP hl
  obtain ⟨hx, hb, hml, hown, hta⟩ := id X
  have hKv := hkk.1
  have hS : va_S (r_A ad) s.heap s.heap [] := va_S.rf
  have hl : lv_has ls 8 [(0, .ref (ad 0)), (1, .int a1), (2, .int a2), (3, .int a3), (4, .int a4), (5, .int a5), (6, .int a6)] := hl
  have L3 : ∀ (M : Mem) (x1 : Int32) (x2 : Int32) (x3 : Int32) (x4 : Int32) (x5 : Int32) (x6 : Int32), ∀ (ke69 : Option (Int32 × Mem)), ke69 = (some ((-1 : Int32), M)) → ∀ (ke77 : Option (Int32 × Mem)), ke77 = (if (M.1 0 9) = (40 : Int32) then some ((-2 : Int32), M) else sm (u1 M 0 9 ((M.1 0 9) + (1 : Int32))) (fun M8 => gd (ok (M8.1 0 9) 41) (sm (u1 M8 9 (((M8.1 0 9)).toNatClampNeg) x1) (fun M9 => gd (ok (M9.1 0 9) 41) (gd (decide (x2 = 0 ∨ x2 = 1)) (sm (u1 M9 10 (((M9.1 0 9)).toNatClampNeg) x2) (fun M10 => gd (ok (M10.1 0 9) 41) (sm (u1 M10 11 (((M10.1 0 9)).toNatClampNeg) x3) (fun M11 => gd (ok (M11.1 0 9) 41) (sm (u1 M11 12 (((M11.1 0 9)).toNatClampNeg) x4) (fun M12 => gd (ok (M12.1 0 9) 41) (sm (u1 M12 13 (((M12.1 0 9)).toNatClampNeg) x5) (fun M13 => gd (ok (M13.1 0 9) 41) (sm (u1 M13 14 (((M13.1 0 9)).toNatClampNeg) x6) (fun M14 => some ((M14.1 0 9), M14)))))))))))))))) → ∀ (n3 : Nat) (x7 : Int32) (H : Heap) (locs : List Loc) (ls : Array Slot), f_LinkAuditModel_add_L3 M x1 x2 x3 x4 x5 x6 ke69 ke77 n3 x7 = some (r, M') → va_P D vwC (r_ws cI cL cG cZ ad M) H → va_S (r_A ad) s.heap H locs → lv_has ls 8 [(0, .ref (ad 0)), (1, .int x1), (2, .int x2), (3, .int x3), (4, .int x4), (5, .int x5), (6, .int x6), (7, .int x7)] → W p l e (rmR 0 0) s m args below meth c H locs 0 0 Q (F0 m 3 ls []) := by
    intro M x1 x2 x3 x4 x5 x6 ke69 hke69 ke77 hke77 n3
    induction n3 with
    | zero => intro x7 H locs ls hf; exact absurd (show (none : Option _) = some _ from hf) (fun q => by cases q)
    | succ n3 ih3 =>
      intro x7 H locs ls hf hP hS hl
      rw [f_LinkAuditModel_add_L3] at hf
      refine lv_iload hx hb d_LinkAuditModel_add_3 (lv_at hl 7 rfl) ?_
      refine lv_aload_n hx hb d_LinkAuditModel_add_5 rfl (lv_at hl 0 rfl) ?_
      refine xg_LinkAuditModel_104 hx hb hta hown hKv hP d_LinkAuditModel_add_6 ?_
      refine lv_icmp_gt (tgt := 77) hx hb d_LinkAuditModel_add_9 (by decide) (fun c1 => ?_) (fun c1 => ?_)
      · have hf := ifp c1 hf
        rw [hke77] at hf
        refine lv_aload_n hx hb d_LinkAuditModel_add_77 rfl (lv_at hl 0 rfl) ?_
        refine xg_LinkAuditModel_104 hx hb hta hown hKv hP d_LinkAuditModel_add_78 ?_
        refine lv_bipush (v := (40 : Int32)) hx hb d_LinkAuditModel_add_81 (by decide) ?_
        refine lv_icmp_ne (tgt := 89) hx hb d_LinkAuditModel_add_83 (by decide) (fun c2 => ?_) (fun c2 => ?_)
        · have hf := ifn c2 hf
          refine lv_aload_n hx hb d_LinkAuditModel_add_89 rfl (lv_at hl 0 rfl) ?_
          refine lv_dup hx hb d_LinkAuditModel_add_90 rfl ?_
          refine xg_LinkAuditModel_104 hx hb hta hown hKv hP d_LinkAuditModel_add_91 ?_
          refine lv_iconst (v := (1 : Int32)) hx hb d_LinkAuditModel_add_94 (by decide) ?_
          refine lv_iadd hx hb d_LinkAuditModel_add_95 ?_
          obtain ⟨M15, eM15, hf⟩ := sm_e hf
          refine xp_LinkAuditModel_104 hx hb hta hown hKv hP (hD _) hS eM15 d_LinkAuditModel_add_96 (fun H locs hP hS => ?_)
          refine lv_aload_n hx hb d_LinkAuditModel_add_99 rfl (lv_at hl 0 rfl) ?_
          refine xg_LinkAuditModel_34 hx hb hta hown hKv hP d_LinkAuditModel_add_100 ?_
          refine lv_aload_n hx hb d_LinkAuditModel_add_103 rfl (lv_at hl 0 rfl) ?_
          refine xg_LinkAuditModel_104 hx hb hta hown hKv hP d_LinkAuditModel_add_104 ?_
          refine lv_iload_n hx hb d_LinkAuditModel_add_107 rfl (lv_at hl 1 rfl) ?_
          obtain ⟨g3, hf⟩ := gd_ok hf
          obtain ⟨M16, eM16, hf⟩ := sm_e hf
          refine x_ist hx hb hKv hP (hD _) hS r_c9 r_s9 g3 eM16 d_LinkAuditModel_add_108 (fun H locs hP hS => ?_)
          refine lv_aload_n hx hb d_LinkAuditModel_add_109 rfl (lv_at hl 0 rfl) ?_
          refine xg_LinkAuditModel_37 hx hb hta hown hKv hP d_LinkAuditModel_add_110 ?_
          refine lv_aload_n hx hb d_LinkAuditModel_add_113 rfl (lv_at hl 0 rfl) ?_
          refine xg_LinkAuditModel_104 hx hb hta hown hKv hP d_LinkAuditModel_add_114 ?_
          refine lv_iload_n hx hb d_LinkAuditModel_add_117 rfl (lv_at hl 2 rfl) ?_
          obtain ⟨g4, hf⟩ := gd_ok hf
          obtain ⟨g5, hf⟩ := gd_d hf
          obtain ⟨M17, eM17, hf⟩ := sm_e hf
          refine x_zst hx hb hKv hP (hD _) hS r_c10 r_s10 g4 g5 eM17 d_LinkAuditModel_add_118 (fun H locs hP hS => ?_)
          refine lv_aload_n hx hb d_LinkAuditModel_add_119 rfl (lv_at hl 0 rfl) ?_
          refine xg_LinkAuditModel_41 hx hb hta hown hKv hP d_LinkAuditModel_add_120 ?_
          refine lv_aload_n hx hb d_LinkAuditModel_add_123 rfl (lv_at hl 0 rfl) ?_
          refine xg_LinkAuditModel_104 hx hb hta hown hKv hP d_LinkAuditModel_add_124 ?_
          refine lv_iload_n hx hb d_LinkAuditModel_add_127 rfl (lv_at hl 3 rfl) ?_
          obtain ⟨g6, hf⟩ := gd_ok hf
          obtain ⟨M18, eM18, hf⟩ := sm_e hf
          refine x_ist hx hb hKv hP (hD _) hS r_c11 r_s11 g6 eM18 d_LinkAuditModel_add_128 (fun H locs hP hS => ?_)
          refine lv_aload_n hx hb d_LinkAuditModel_add_129 rfl (lv_at hl 0 rfl) ?_
          refine xg_LinkAuditModel_44 hx hb hta hown hKv hP d_LinkAuditModel_add_130 ?_
          refine lv_aload_n hx hb d_LinkAuditModel_add_133 rfl (lv_at hl 0 rfl) ?_
          refine xg_LinkAuditModel_104 hx hb hta hown hKv hP d_LinkAuditModel_add_134 ?_
          refine lv_iload hx hb d_LinkAuditModel_add_137 (lv_at hl 4 rfl) ?_
          obtain ⟨g7, hf⟩ := gd_ok hf
          obtain ⟨M19, eM19, hf⟩ := sm_e hf
          refine x_ist hx hb hKv hP (hD _) hS r_c12 r_s12 g7 eM19 d_LinkAuditModel_add_139 (fun H locs hP hS => ?_)
          refine lv_aload_n hx hb d_LinkAuditModel_add_140 rfl (lv_at hl 0 rfl) ?_
          refine xg_LinkAuditModel_47 hx hb hta hown hKv hP d_LinkAuditModel_add_141 ?_
          refine lv_aload_n hx hb d_LinkAuditModel_add_144 rfl (lv_at hl 0 rfl) ?_
          refine xg_LinkAuditModel_104 hx hb hta hown hKv hP d_LinkAuditModel_add_145 ?_
          refine lv_iload hx hb d_LinkAuditModel_add_148 (lv_at hl 5 rfl) ?_
          obtain ⟨g8, hf⟩ := gd_ok hf
          obtain ⟨M20, eM20, hf⟩ := sm_e hf
          refine x_ist hx hb hKv hP (hD _) hS r_c13 r_s13 g8 eM20 d_LinkAuditModel_add_150 (fun H locs hP hS => ?_)
          refine lv_aload_n hx hb d_LinkAuditModel_add_151 rfl (lv_at hl 0 rfl) ?_
          refine xg_LinkAuditModel_50 hx hb hta hown hKv hP d_LinkAuditModel_add_152 ?_
          refine lv_aload_n hx hb d_LinkAuditModel_add_155 rfl (lv_at hl 0 rfl) ?_
          refine xg_LinkAuditModel_104 hx hb hta hown hKv hP d_LinkAuditModel_add_156 ?_
          refine lv_iload hx hb d_LinkAuditModel_add_159 (lv_at hl 6 rfl) ?_
          obtain ⟨g9, hf⟩ := gd_ok hf
          obtain ⟨M21, eM21, hf⟩ := sm_e hf
          refine x_ist hx hb hKv hP (hD _) hS r_c14 r_s14 g9 eM21 d_LinkAuditModel_add_161 (fun H locs hP hS => ?_)
          refine lv_aload_n hx hb d_LinkAuditModel_add_162 rfl (lv_at hl 0 rfl) ?_
          refine xg_LinkAuditModel_104 hx hb hta hown hKv hP d_LinkAuditModel_add_163 ?_
          exact hret hf hP hS d_LinkAuditModel_add_166
        · have hf := ifp c2 hf
          refine lv_bipush (v := (-2 : Int32)) hx hb d_LinkAuditModel_add_86 (by decide) ?_
          exact hret hf hP hS d_LinkAuditModel_add_88
      · have hf := ifn c1 hf
        refine lv_aload_n hx hb d_LinkAuditModel_add_12 rfl (lv_at hl 0 rfl) ?_
        refine xg_LinkAuditModel_34 hx hb hta hown hKv hP d_LinkAuditModel_add_13 ?_
        refine lv_iload hx hb d_LinkAuditModel_add_16 (lv_at hl 7 rfl) ?_
        obtain ⟨g10, hf⟩ := gd_ok hf
        refine x_ild hx hb hKv hP r_c9 g10 d_LinkAuditModel_add_18 ?_
        refine lv_iload_n hx hb d_LinkAuditModel_add_19 rfl (lv_at hl 1 rfl) ?_
        refine lv_icmp_ne (tgt := 71) hx hb d_LinkAuditModel_add_20 (by decide) (fun c11 => ?_) (fun c11 => ?_)
        · have hf := ifn c11 hf
          refine lv_iinc (v := (x7 + (1 : Int32))) (lv' := [(7, .int (x7 + (1 : Int32))), (0, .ref (ad 0)), (1, .int x1), (2, .int x2), (3, .int x3), (4, .int x4), (5, .int x5), (6, .int x6)]) hx hb d_LinkAuditModel_add_71 hl (k := 7) rfl rfl (by decide) rfl (fun ls hl => ?_)
          refine lv_goto (tgt := 3) hx hb d_LinkAuditModel_add_74 (by decide) ?_
          exact ih3 (x7 + (1 : Int32)) _ _ _ hf hP hS (lv_sub hl [1, 2, 3, 4, 5, 6, 7, 0] rfl)
        · have hf := ifp c11 hf
          refine lv_aload_n hx hb d_LinkAuditModel_add_23 rfl (lv_at hl 0 rfl) ?_
          refine xg_LinkAuditModel_37 hx hb hta hown hKv hP d_LinkAuditModel_add_24 ?_
          refine lv_iload hx hb d_LinkAuditModel_add_27 (lv_at hl 7 rfl) ?_
          obtain ⟨g12, hf⟩ := gd_ok hf
          refine x_zld hx hb hKv hP r_c10 g12 d_LinkAuditModel_add_29 ?_
          refine lv_iload_n hx hb d_LinkAuditModel_add_30 rfl (lv_at hl 2 rfl) ?_
          refine lv_icmp_ne (tgt := 71) hx hb d_LinkAuditModel_add_31 (by decide) (fun c13 => ?_) (fun c13 => ?_)
          · have hf := ifn c13 hf
            refine lv_iinc (v := (x7 + (1 : Int32))) (lv' := [(7, .int (x7 + (1 : Int32))), (0, .ref (ad 0)), (1, .int x1), (2, .int x2), (3, .int x3), (4, .int x4), (5, .int x5), (6, .int x6)]) hx hb d_LinkAuditModel_add_71 hl (k := 7) rfl rfl (by decide) rfl (fun ls hl => ?_)
            refine lv_goto (tgt := 3) hx hb d_LinkAuditModel_add_74 (by decide) ?_
            exact ih3 (x7 + (1 : Int32)) _ _ _ hf hP hS (lv_sub hl [1, 2, 3, 4, 5, 6, 7, 0] rfl)
          · have hf := ifp c13 hf
            refine lv_aload_n hx hb d_LinkAuditModel_add_34 rfl (lv_at hl 0 rfl) ?_
            refine xg_LinkAuditModel_41 hx hb hta hown hKv hP d_LinkAuditModel_add_35 ?_
            refine lv_iload hx hb d_LinkAuditModel_add_38 (lv_at hl 7 rfl) ?_
            obtain ⟨g14, hf⟩ := gd_ok hf
            refine x_ild hx hb hKv hP r_c11 g14 d_LinkAuditModel_add_40 ?_
            refine lv_iload_n hx hb d_LinkAuditModel_add_41 rfl (lv_at hl 3 rfl) ?_
            refine lv_icmp_ne (tgt := 71) hx hb d_LinkAuditModel_add_42 (by decide) (fun c15 => ?_) (fun c15 => ?_)
            · have hf := ifn c15 hf
              refine lv_iinc (v := (x7 + (1 : Int32))) (lv' := [(7, .int (x7 + (1 : Int32))), (0, .ref (ad 0)), (1, .int x1), (2, .int x2), (3, .int x3), (4, .int x4), (5, .int x5), (6, .int x6)]) hx hb d_LinkAuditModel_add_71 hl (k := 7) rfl rfl (by decide) rfl (fun ls hl => ?_)
              refine lv_goto (tgt := 3) hx hb d_LinkAuditModel_add_74 (by decide) ?_
              exact ih3 (x7 + (1 : Int32)) _ _ _ hf hP hS (lv_sub hl [1, 2, 3, 4, 5, 6, 7, 0] rfl)
            · have hf := ifp c15 hf
              refine lv_aload_n hx hb d_LinkAuditModel_add_45 rfl (lv_at hl 0 rfl) ?_
              refine xg_LinkAuditModel_44 hx hb hta hown hKv hP d_LinkAuditModel_add_46 ?_
              refine lv_iload hx hb d_LinkAuditModel_add_49 (lv_at hl 7 rfl) ?_
              obtain ⟨g16, hf⟩ := gd_ok hf
              refine x_ild hx hb hKv hP r_c12 g16 d_LinkAuditModel_add_51 ?_
              refine lv_iload hx hb d_LinkAuditModel_add_52 (lv_at hl 4 rfl) ?_
              refine lv_icmp_ne (tgt := 71) hx hb d_LinkAuditModel_add_54 (by decide) (fun c17 => ?_) (fun c17 => ?_)
              · have hf := ifn c17 hf
                refine lv_iinc (v := (x7 + (1 : Int32))) (lv' := [(7, .int (x7 + (1 : Int32))), (0, .ref (ad 0)), (1, .int x1), (2, .int x2), (3, .int x3), (4, .int x4), (5, .int x5), (6, .int x6)]) hx hb d_LinkAuditModel_add_71 hl (k := 7) rfl rfl (by decide) rfl (fun ls hl => ?_)
                refine lv_goto (tgt := 3) hx hb d_LinkAuditModel_add_74 (by decide) ?_
                exact ih3 (x7 + (1 : Int32)) _ _ _ hf hP hS (lv_sub hl [1, 2, 3, 4, 5, 6, 7, 0] rfl)
              · have hf := ifp c17 hf
                refine lv_aload_n hx hb d_LinkAuditModel_add_57 rfl (lv_at hl 0 rfl) ?_
                refine xg_LinkAuditModel_47 hx hb hta hown hKv hP d_LinkAuditModel_add_58 ?_
                refine lv_iload hx hb d_LinkAuditModel_add_61 (lv_at hl 7 rfl) ?_
                obtain ⟨g18, hf⟩ := gd_ok hf
                refine x_ild hx hb hKv hP r_c13 g18 d_LinkAuditModel_add_63 ?_
                refine lv_iload hx hb d_LinkAuditModel_add_64 (lv_at hl 5 rfl) ?_
                refine lv_icmp_ne (tgt := 71) hx hb d_LinkAuditModel_add_66 (by decide) (fun c19 => ?_) (fun c19 => ?_)
                · have hf := ifn c19 hf
                  refine lv_iinc (v := (x7 + (1 : Int32))) (lv' := [(7, .int (x7 + (1 : Int32))), (0, .ref (ad 0)), (1, .int x1), (2, .int x2), (3, .int x3), (4, .int x4), (5, .int x5), (6, .int x6)]) hx hb d_LinkAuditModel_add_71 hl (k := 7) rfl rfl (by decide) rfl (fun ls hl => ?_)
                  refine lv_goto (tgt := 3) hx hb d_LinkAuditModel_add_74 (by decide) ?_
                  exact ih3 (x7 + (1 : Int32)) _ _ _ hf hP hS (lv_sub hl [1, 2, 3, 4, 5, 6, 7, 0] rfl)
                · have hf := ifp c19 hf
                  rw [hke69] at hf
                  refine lv_iconst (v := (-1 : Int32)) hx hb d_LinkAuditModel_add_69 (by decide) ?_
                  exact hret hf hP hS d_LinkAuditModel_add_70
  unfold f_LinkAuditModel_add at hf
  refine lv_iconst (v := (1 : Int32)) hx hb d_LinkAuditModel_add_0 (by decide) ?_
  refine lv_istore (lv' := [(7, .int (1 : Int32)), (0, .ref (ad 0)), (1, .int a1), (2, .int a2), (3, .int a3), (4, .int a4), (5, .int a5), (6, .int a6)]) hx hb d_LinkAuditModel_add_1 hl (by decide) rfl (fun ls hl => ?_)
  exact L3 M a1 a2 a3 a4 a5 a6 _ rfl _ rfl FU (1 : Int32) _ _ _ hf hP hS (lv_sub hl [1, 2, 3, 4, 5, 6, 7, 0] rfl)
-- LinkAuditModel.field
theorem xvr_LinkAuditModel_107 {p : Program} {l : Launch} {e : Env} {R : Room} {s : State} {m : MethodId} {args : Array Value} {below : List Frame} {meth : Method} {c : Code} {H : Heap} {locs : List Loc} {cells slots : Nat} {Q : State → Prop} {cc : ByteArray} {pc : Nat} {ls : Array Slot} {rest : List Value} {D : va_G} {cI cL cG cZ : ClassId} {ad : Nat → Nat} {M : Mem} {H0 : Heap} {M1 : Mem} {nL : Nat} {a0 : Int32} {a1 : Int32} {a2 : Int32} {a3 : Int32} {a4 : Int32} {a5 : Int32} {r : Int32} (X : CallFix p m c cc nL s args ALLW "LinkAuditModel") (hkk : Kk D cI cL cG cZ s) (hD : ∀ M, va_D (r_A ad) (r_ws cI cL cG cZ ad M)) (hrest : (rest.map fun v => v.category).sum ≤ 8) (hR : 0 + 1 ≤ R.frames ∧ 8 + (8 + 11) + 0 ≤ R.locals) (hcs : cells + 0 ≤ R.cells ∧ slots + 0 ≤ R.slots) (hc : f_LinkAuditModel_add M a0 a1 a2 a3 a4 a5 = some (r, M1)) (hsz : ls.size = nL) (hP : va_P D vwC (r_ws cI cL cG cZ ad M) H) (hS : va_S (r_A ad) H0 H locs) (hdg : decode cc pc = .ok (.invokevirtual 107, 3))
    (kk : ∀ (H1 : Heap) (locs1 : List Loc), va_P D vwC (r_ws cI cL cG cZ ad M1) H1 → va_S (r_A ad) H0 H1 locs1 → W p l e R s m args below meth c H1 locs1 cells slots Q (F0 m (pc + 3) ls (.int r :: rest))) : W p l e R s m args below meth c H locs cells slots Q (F0 m pc ls (.int a5 :: .int a4 :: .int a3 :: .int a2 :: .int a1 :: .int a0 :: .ref (ad 0) :: rest)) := by
  have hta := X.2.2.2.2
  exact x_afterI (va_runV (As := [.int a0, .int a1, .int a2, .int a3, .int a4, .int a5]) (rest := rest) X (c_LinkAuditModel_add hD hc) ⟨callB_of 6 hta (good_all (L := .code y_LinkAuditModel_add prog_12_method_9_code 8 (some .int) :: ALLW) (List.forall_mem_cons.mpr ⟨wm_822, fun _ h => h⟩)) rfl rfl rfl (hta _ wm_11) (hta _ wm_819) (by decide +kernel) hR, hta _ wm_821, hta _ wp_24⟩ ⟨x_blind Kk_w _, va_recv hkk.1 hP (ci := 10) (q0 := 0) rfl r_c0, x_pre Kk_w hkk hP _⟩ rfl rfl hsz rfl (lv_room hrest) hdg hcs) hS kk
set_option maxHeartbeats 4000000 in
set_option maxRecDepth 100000 in
theorem c_LinkAuditModel_field {l : Launch} {D : va_G} {cI cL cG cZ : ClassId} {ad : Nat → Nat} {M M' : Mem} {a1 : Int32} {a2 : Int32} {a3 : Int32} {a4 : Int32} {r : Int32} (hD : ∀ M, va_D (r_A ad) (r_ws cI cL cG cZ ad M)) (hf : f_LinkAuditModel_field M a1 a2 a3 a4 = some (r, M')) : Mi l y_LinkAuditModel_field (.code y_LinkAuditModel_field prog_12_method_10_code 5 (some .int) :: ALLW) (rmR 1 27) (Kk D cI cL cG cZ) D vwC (r_A ad) (r_ws cI cL cG cZ ad) [.ref (ad 0), .int a1, .int a2, .int a3, .int a4] M M' r := by
  refine Mi_of (by decide) (Nat.le_of_ble_eq_true rfl) ?_
  intro p e s m args below meth c ls Q X hkk hret hP hl
  obtain ⟨hx, hb, hml, hown, hta⟩ := id X
  have hKv := hkk.1
  have hS : va_S (r_A ad) s.heap s.heap [] := va_S.rf
  have hl : lv_has ls 5 [(0, .ref (ad 0)), (1, .int a1), (2, .int a2), (3, .int a3), (4, .int a4)] := hl
  unfold f_LinkAuditModel_field at hf
  refine lv_iload_n hx hb d_LinkAuditModel_field_0 rfl (lv_at hl 1 rfl) ?_
  refine lv_iconst (v := (1 : Int32)) hx hb d_LinkAuditModel_field_1 (by decide) ?_
  refine lv_aload_n hx hb d_LinkAuditModel_field_2 rfl (lv_at hl 0 rfl) ?_
  refine xg_LinkAuditModel_96 hx hb hta hown hKv hP d_LinkAuditModel_field_3 ?_
  obtain ⟨r7, hc1, hf⟩ := bd1_e hf
  refine xvr_LinkAuditModel_92 X hkk hD (Nat.le_of_ble_eq_true rfl) ⟨by dsimp only [rmR]; omega, by dsimp only [rmR]; omega⟩ ⟨Nat.zero_le _, Nat.zero_le _⟩ hc1 hl.1 hP hS d_LinkAuditModel_field_6 (fun H locs hP hS => ?_)
  refine lv_if_eq (tgt := 42) hx hb d_LinkAuditModel_field_9 (by decide) (fun c2 => ?_) (fun c2 => ?_)
  · have hf := ifp c2 hf
    refine lv_iconst (v := (-1 : Int32)) hx hb d_LinkAuditModel_field_42 (by decide) ?_
    exact hret hf hP hS d_LinkAuditModel_field_43
  · have hf := ifn c2 hf
    refine lv_iload_n hx hb d_LinkAuditModel_field_12 rfl (lv_at hl 2 rfl) ?_
    refine lv_iconst (v := (0 : Int32)) hx hb d_LinkAuditModel_field_13 (by decide) ?_
    refine lv_iconst (v := (3 : Int32)) hx hb d_LinkAuditModel_field_14 (by decide) ?_
    obtain ⟨r8, hc3, hf⟩ := bd1_e hf
    refine xvr_LinkAuditModel_92 X hkk hD (Nat.le_of_ble_eq_true rfl) ⟨by dsimp only [rmR]; omega, by dsimp only [rmR]; omega⟩ ⟨Nat.zero_le _, Nat.zero_le _⟩ hc3 hl.1 hP hS d_LinkAuditModel_field_15 (fun H locs hP hS => ?_)
    refine lv_if_eq (tgt := 42) hx hb d_LinkAuditModel_field_18 (by decide) (fun c4 => ?_) (fun c4 => ?_)
    · have hf := ifp c4 hf
      refine lv_iconst (v := (-1 : Int32)) hx hb d_LinkAuditModel_field_42 (by decide) ?_
      exact hret hf hP hS d_LinkAuditModel_field_43
    · have hf := ifn c4 hf
      refine lv_iload_n hx hb d_LinkAuditModel_field_21 rfl (lv_at hl 3 rfl) ?_
      refine lv_iconst (v := (0 : Int32)) hx hb d_LinkAuditModel_field_22 (by decide) ?_
      refine lv_bipush (v := (12 : Int32)) hx hb d_LinkAuditModel_field_23 (by decide) ?_
      obtain ⟨r9, hc5, hf⟩ := bd1_e hf
      refine xvr_LinkAuditModel_92 X hkk hD (Nat.le_of_ble_eq_true rfl) ⟨by dsimp only [rmR]; omega, by dsimp only [rmR]; omega⟩ ⟨Nat.zero_le _, Nat.zero_le _⟩ hc5 hl.1 hP hS d_LinkAuditModel_field_25 (fun H locs hP hS => ?_)
      refine lv_if_eq (tgt := 42) hx hb d_LinkAuditModel_field_28 (by decide) (fun c6 => ?_) (fun c6 => ?_)
      · have hf := ifp c6 hf
        refine lv_iconst (v := (-1 : Int32)) hx hb d_LinkAuditModel_field_42 (by decide) ?_
        exact hret hf hP hS d_LinkAuditModel_field_43
      · have hf := ifn c6 hf
        refine lv_iload hx hb d_LinkAuditModel_field_31 (lv_at hl 4 rfl) ?_
        refine lv_iconst (v := (0 : Int32)) hx hb d_LinkAuditModel_field_33 (by decide) ?_
        refine lv_bipush (v := (7 : Int32)) hx hb d_LinkAuditModel_field_34 (by decide) ?_
        obtain ⟨r10, hc7, hf⟩ := bd1_e hf
        refine xvr_LinkAuditModel_92 X hkk hD (Nat.le_of_ble_eq_true rfl) ⟨by dsimp only [rmR]; omega, by dsimp only [rmR]; omega⟩ ⟨Nat.zero_le _, Nat.zero_le _⟩ hc7 hl.1 hP hS d_LinkAuditModel_field_36 (fun H locs hP hS => ?_)
        refine lv_if_ne (tgt := 44) hx hb d_LinkAuditModel_field_39 (by decide) (fun c8 => ?_) (fun c8 => ?_)
        · have hf := ifn c8 hf
          refine lv_aload_n hx hb d_LinkAuditModel_field_44 rfl (lv_at hl 0 rfl) ?_
          refine lv_iload_n hx hb d_LinkAuditModel_field_45 rfl (lv_at hl 1 rfl) ?_
          refine lv_iconst (v := (0 : Int32)) hx hb d_LinkAuditModel_field_46 (by decide) ?_
          refine lv_iload_n hx hb d_LinkAuditModel_field_47 rfl (lv_at hl 2 rfl) ?_
          refine lv_iload_n hx hb d_LinkAuditModel_field_48 rfl (lv_at hl 3 rfl) ?_
          refine lv_bipush (v := (12 : Int32)) hx hb d_LinkAuditModel_field_49 (by decide) ?_
          refine lv_iload hx hb d_LinkAuditModel_field_51 (lv_at hl 4 rfl) ?_
          obtain ⟨r12, M11, hc9, hf⟩ := bd2_e hf
          refine xvr_LinkAuditModel_107 X hkk hD (Nat.le_of_ble_eq_true rfl) ⟨by dsimp only [rmR]; omega, by dsimp only [rmR]; omega⟩ ⟨Nat.zero_le _, Nat.zero_le _⟩ hc9 hl.1 hP hS d_LinkAuditModel_field_53 (fun H locs hP hS => ?_)
          exact hret hf hP hS d_LinkAuditModel_field_56
        · have hf := ifp c8 hf
          refine lv_iconst (v := (-1 : Int32)) hx hb d_LinkAuditModel_field_42 (by decide) ?_
          exact hret hf hP hS d_LinkAuditModel_field_43
-- LinkAuditModel.isInterface
set_option maxHeartbeats 4000000 in
set_option maxRecDepth 100000 in
theorem c_LinkAuditModel_isInterface {l : Launch} {D : va_G} {cI cL cG cZ : ClassId} {ad : Nat → Nat} {M : Mem} {a1 : Int32} {r : Int32} (hD : ∀ M, va_D (r_A ad) (r_ws cI cL cG cZ ad M)) (hf : f_LinkAuditModel_isInterface M a1 = some r) : Mi l y_LinkAuditModel_isInterface (.code y_LinkAuditModel_isInterface prog_12_method_8_code 2 (some .boolean) :: ALLW) (rmR 0 0) (Kk D cI cL cG cZ) D vwC (r_A ad) (r_ws cI cL cG cZ ad) [.ref (ad 0), .int a1] M M r := by
  refine Mz_ofR (by decide) (Nat.le_of_ble_eq_true rfl) ?_
  intro p e s m args below meth c ls Q X hkk hret hP hl
  obtain ⟨hx, hb, hml, hown, hta⟩ := id X
  have hKv := hkk.1
  have hS : va_S (r_A ad) s.heap s.heap [] := va_S.rf
  have hl : lv_has ls 2 [(0, .ref (ad 0)), (1, .int a1)] := hl
  unfold f_LinkAuditModel_isInterface at hf
  refine lv_aload_n hx hb d_LinkAuditModel_isInterface_0 rfl (lv_at hl 0 rfl) ?_
  refine xg_LinkAuditModel_25 hx hb hta hown hKv hP d_LinkAuditModel_isInterface_1 ?_
  refine lv_iload_n hx hb d_LinkAuditModel_isInterface_4 rfl (lv_at hl 1 rfl) ?_
  obtain ⟨g1, hf⟩ := gd_ok hf
  refine x_ild hx hb hKv hP r_c6 g1 d_LinkAuditModel_isInterface_5 ?_
  refine lv_bipush (v := (8 : Int32)) hx hb d_LinkAuditModel_isInterface_6 (by decide) ?_
  refine lv_iand hx hb d_LinkAuditModel_isInterface_8 ?_
  refine lv_if_eq (tgt := 16) hx hb d_LinkAuditModel_isInterface_9 (by decide) (fun c2 => ?_) (fun c2 => ?_)
  · have hf := ifp c2 hf
    refine lv_iconst (v := (0 : Int32)) hx hb d_LinkAuditModel_isInterface_16 (by decide) ?_
    exact hret (Or.inl rfl) hf hP hS d_LinkAuditModel_isInterface_17
  · have hf := ifn c2 hf
    refine lv_iconst (v := (1 : Int32)) hx hb d_LinkAuditModel_isInterface_12 (by decide) ?_
    refine lv_goto (tgt := 17) hx hb d_LinkAuditModel_isInterface_13 (by decide) ?_
    exact hret (Or.inr rfl) hf hP hS d_LinkAuditModel_isInterface_17
