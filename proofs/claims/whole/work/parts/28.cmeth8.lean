-- LinkAudit.agree
theorem xvc_LinkAudit_217 {p : Program} {l : Launch} {e : Env} {R : Room} {s : State} {m : MethodId} {args : Array Value} {below : List Frame} {meth : Method} {c : Code} {H : Heap} {locs : List Loc} {cells slots : Nat} {Q : State → Prop} {cc : ByteArray} {pc : Nat} {ls : Array Slot} {rest : List Value} {D : va_G} {cI cL cG cZ : ClassId} {ad : Nat → Nat} {M : Mem} {H0 : Heap} {M1 : Mem} {nL : Nat} {a0 : Int32} {a1 : Int32} (X : CallFix p m c cc nL s args ALLW "LinkAudit") (hkk : Kk D cI cL cG cZ s) (hD : ∀ M, va_D (c_A ad) (c_ws cI cL cG cZ ad M)) (hrest : (rest.map fun v => v.category).sum ≤ 8) (hR : 1 + 1 ≤ R.frames ∧ 8 + (5 + 11) + 26 ≤ R.locals) (hcs : cells + 0 ≤ R.cells ∧ slots + 0 ≤ R.slots) (hc : f_LinkAudit_agreeOnTypes M a0 a1 = some M1) (hsz : ls.size = nL) (hP : va_P D vwC (c_ws cI cL cG cZ ad M) H) (hS : va_S (c_A ad) H0 H locs) (hdg : decode cc pc = .ok (.invokevirtual 217, 3))
    (kk : ∀ (H1 : Heap) (locs1 : List Loc), va_P D vwC (c_ws cI cL cG cZ ad M1) H1 → va_S (c_A ad) H0 H1 locs1 → W p l e R s m args below meth c H1 locs1 cells slots Q (F0 m (pc + 3) ls (rest))) : W p l e R s m args below meth c H locs cells slots Q (F0 m pc ls (.int a1 :: .int a0 :: .ref (ad 0) :: rest)) := by
  have hta := X.2.2.2.2
  exact x_afterV (va_runV (As := [.int a0, .int a1]) (rest := rest) X (c_LinkAudit_agreeOnTypes hD hc) ⟨callB_of 2 hta (good_all (L := .code y_LinkAudit_agreeOnTypes prog_1_method_28_code 5 none :: ALLW) (List.forall_mem_cons.mpr ⟨wm_656, fun _ h => h⟩)) rfl rfl rfl (hta _ wm_1) (hta _ wm_653) (by decide +kernel) hR, hta _ wm_655, hta _ wp_21⟩ ⟨x_blind Kk_w _, va_recv hkk.1 hP (ci := 0) (q0 := 0) rfl c_c0, x_pre Kk_w hkk hP _⟩ rfl rfl hsz rfl (lv_room hrest) hdg hcs) hS kk
theorem xvc_LinkAudit_224 {p : Program} {l : Launch} {e : Env} {R : Room} {s : State} {m : MethodId} {args : Array Value} {below : List Frame} {meth : Method} {c : Code} {H : Heap} {locs : List Loc} {cells slots : Nat} {Q : State → Prop} {cc : ByteArray} {pc : Nat} {ls : Array Slot} {rest : List Value} {D : va_G} {cI cL cG cZ : ClassId} {ad : Nat → Nat} {M : Mem} {H0 : Heap} {M1 : Mem} {nL : Nat}  (X : CallFix p m c cc nL s args ALLW "LinkAudit") (hkk : Kk D cI cL cG cZ s) (hD : ∀ M, va_D (c_A ad) (c_ws cI cL cG cZ ad M)) (hrest : (rest.map fun v => v.category).sum ≤ 8) (hR : 3 + 1 ≤ R.frames ∧ 8 + (4 + 11) + 71 ≤ R.locals) (hcs : cells + 0 ≤ R.cells ∧ slots + 0 ≤ R.slots) (hc : f_Agreements_listConflicts M = some M1) (hsz : ls.size = nL) (hP : va_P D vwC (c_ws cI cL cG cZ ad M) H) (hS : va_S (c_A ad) H0 H locs) (hdg : decode cc pc = .ok (.invokevirtual 224, 3))
    (kk : ∀ (H1 : Heap) (locs1 : List Loc), va_P D vwC (c_ws cI cL cG cZ ad M1) H1 → va_S (c_A ad) H0 H1 locs1 → W p l e R s m args below meth c H1 locs1 cells slots Q (F0 m (pc + 3) ls (rest))) : W p l e R s m args below meth c H locs cells slots Q (F0 m pc ls (.ref (ad 9) :: rest)) := by
  have hta := X.2.2.2.2
  exact x_afterV (va_runV (As := []) (rest := rest) X (c_Agreements_listConflicts hD hc) ⟨callB_of 0 hta (good_all (L := .code y_Agreements_listConflicts prog_2_method_4_code 4 none :: ALLW) (List.forall_mem_cons.mpr ⟨wm_672, fun _ h => h⟩)) rfl rfl rfl (hta _ wm_10) (hta _ wm_669) (by decide +kernel) hR, hta _ wm_670, hta _ wm_671⟩ ⟨x_blind Kk_w _, va_recv hkk.1 hP (ci := 9) (q0 := 9) rfl c_c9, x_pre Kk_w hkk hP _⟩ rfl rfl hsz rfl (lv_room hrest) hdg hcs) hS kk
theorem xg_LinkAudit_211 {p : Program} {l : Launch} {e : Env} {R : Room} {s : State} {m : MethodId} {args : Array Value} {below : List Frame} {meth : Method} {c : Code} {H : Heap} {locs : List Loc} {cells slots : Nat} {Q : State → Prop} {cc : ByteArray} {pc : Nat} {ls : Array Slot} {rest : List Value} {D : va_G} {cI cL cG cZ : ClassId} {ad : Nat → Nat} {M : Mem} (hx : p.tables.exec = Jvm.exec) (hb : c.code = cc) (hta : ∀ w ∈ ALLW, w.before args s = true) (hown : s.vm.findClass "LinkAudit" = some m.cls) (hK : va_K D vwC [(cI, .int), (cL, .long), (cG, .array .int), (cZ, .boolean)] s) (hP : va_P D vwC (c_ws cI cL cG cZ ad M) H) (hdg : decode cc pc = .ok (.getfield 211, 3))
    (kk : W p l e R s m args below meth c H locs cells slots Q (F0 m (pc + 3) ls (.ref (ad 34) :: rest))) : W p l e R s m args below meth c H locs cells slots Q (F0 m pc ls (.ref (ad 4) :: rest)) :=
  va_get (D := D) (ci := 4) (v := .ref (ad 34)) (C := "LinkAudit$References") (T := T_References) (N := 5) hx hb hta i_References hown hK hP 4 c_c4 rfl 1 (by decide) (hta _ wm_138) (fun _ h9 => h9) rfl hdg kk
theorem xg_LinkAudit_214 {p : Program} {l : Launch} {e : Env} {R : Room} {s : State} {m : MethodId} {args : Array Value} {below : List Frame} {meth : Method} {c : Code} {H : Heap} {locs : List Loc} {cells slots : Nat} {Q : State → Prop} {cc : ByteArray} {pc : Nat} {ls : Array Slot} {rest : List Value} {D : va_G} {cI cL cG cZ : ClassId} {ad : Nat → Nat} {M : Mem} (hx : p.tables.exec = Jvm.exec) (hb : c.code = cc) (hta : ∀ w ∈ ALLW, w.before args s = true) (hown : s.vm.findClass "LinkAudit" = some m.cls) (hK : va_K D vwC [(cI, .int), (cL, .long), (cG, .array .int), (cZ, .boolean)] s) (hP : va_P D vwC (c_ws cI cL cG cZ ad M) H) (hdg : decode cc pc = .ok (.getfield 214, 3))
    (kk : W p l e R s m args below meth c H locs cells slots Q (F0 m (pc + 3) ls (.ref (ad 33) :: rest))) : W p l e R s m args below meth c H locs cells slots Q (F0 m pc ls (.ref (ad 4) :: rest)) :=
  va_get (D := D) (ci := 4) (v := .ref (ad 33)) (C := "LinkAudit$References") (T := T_References) (N := 5) hx hb hta i_References hown hK hP 4 c_c4 rfl 0 (by decide) (hta _ wm_135) (fun _ h9 => h9) rfl hdg kk
theorem xg_LinkAudit_82 {p : Program} {l : Launch} {e : Env} {R : Room} {s : State} {m : MethodId} {args : Array Value} {below : List Frame} {meth : Method} {c : Code} {H : Heap} {locs : List Loc} {cells slots : Nat} {Q : State → Prop} {cc : ByteArray} {pc : Nat} {ls : Array Slot} {rest : List Value} {D : va_G} {cI cL cG cZ : ClassId} {ad : Nat → Nat} {M : Mem} (hx : p.tables.exec = Jvm.exec) (hb : c.code = cc) (hta : ∀ w ∈ ALLW, w.before args s = true) (hown : s.vm.findClass "LinkAudit" = some m.cls) (hK : va_K D vwC [(cI, .int), (cL, .long), (cG, .array .int), (cZ, .boolean)] s) (hP : va_P D vwC (c_ws cI cL cG cZ ad M) H) (hdg : decode cc pc = .ok (.getfield 82, 3))
    (kk : W p l e R s m args below meth c H locs cells slots Q (F0 m (pc + 3) ls (.int (M.1 0 9) :: rest))) : W p l e R s m args below meth c H locs cells slots Q (F0 m pc ls (.ref (ad 0) :: rest)) :=
  va_get (D := D) (ci := 0) (v := .int (M.1 0 9)) (C := "LinkAudit") (T := T_LinkAudit) (N := 10) hx hb hta i_LinkAudit hown hK hP 0 c_c0 rfl 9 (by decide) (hta _ wm_307) (fun _ h9 => h9) rfl hdg kk
theorem xvc_LinkAudit_208 {p : Program} {l : Launch} {e : Env} {R : Room} {s : State} {m : MethodId} {args : Array Value} {below : List Frame} {meth : Method} {c : Code} {H : Heap} {locs : List Loc} {cells slots : Nat} {Q : State → Prop} {cc : ByteArray} {pc : Nat} {ls : Array Slot} {rest : List Value} {D : va_G} {cI cL cG cZ : ClassId} {ad : Nat → Nat} {M : Mem} {H0 : Heap} {M1 : Mem} {nL : Nat}  (X : CallFix p m c cc nL s args ALLW "LinkAudit") (hkk : Kk D cI cL cG cZ s) (hD : ∀ M, va_D (c_A ad) (c_ws cI cL cG cZ ad M)) (hrest : (rest.map fun v => v.category).sum ≤ 8) (hR : 0 + 1 ≤ R.frames ∧ 8 + (3 + 11) + 0 ≤ R.locals) (hcs : cells + 0 ≤ R.cells ∧ slots + 0 ≤ R.slots) (hc : f_Agreements_clear M = some M1) (hsz : ls.size = nL) (hP : va_P D vwC (c_ws cI cL cG cZ ad M) H) (hS : va_S (c_A ad) H0 H locs) (hdg : decode cc pc = .ok (.invokevirtual 208, 3))
    (kk : ∀ (H1 : Heap) (locs1 : List Loc), va_P D vwC (c_ws cI cL cG cZ ad M1) H1 → va_S (c_A ad) H0 H1 locs1 → W p l e R s m args below meth c H1 locs1 cells slots Q (F0 m (pc + 3) ls (rest))) : W p l e R s m args below meth c H locs cells slots Q (F0 m pc ls (.ref (ad 9) :: rest)) := by
  have hta := X.2.2.2.2
  exact x_afterV (va_runV (As := []) (rest := rest) X (c_Agreements_clear hD hc) ⟨callB_of 0 hta (good_all (L := .code y_Agreements_clear prog_2_method_2_code 3 none :: ALLW) (List.forall_mem_cons.mpr ⟨wm_652, fun _ h => h⟩)) rfl rfl rfl (hta _ wm_10) (hta _ wm_649) (by decide +kernel) hR, hta _ wm_650, hta _ wm_651⟩ ⟨x_blind Kk_w _, va_recv hkk.1 hP (ci := 9) (q0 := 9) rfl c_c9, x_pre Kk_w hkk hP _⟩ rfl rfl hsz rfl (lv_room hrest) hdg hcs) hS kk
set_option maxHeartbeats 4000000 in
set_option maxRecDepth 100000 in
theorem c_LinkAudit_agree {l : Launch} {D : va_G} {cI cL cG cZ : ClassId} {ad : Nat → Nat} {M M' : Mem}  (hD : ∀ M, va_D (c_A ad) (c_ws cI cL cG cZ ad M)) (hf : f_LinkAudit_agree M = some M') : Mv l y_LinkAudit_agree (.code y_LinkAudit_agree prog_1_method_27_code 3 none :: ALLW) (rmR 45 1202) (Kk D cI cL cG cZ) D vwC (c_A ad) (c_ws cI cL cG cZ ad) [.ref (ad 0)] M M' := by
  refine Mv_of (by decide) (Nat.le_of_ble_eq_true rfl) ?_
  intro p e s m args below meth c ls Q X hkk hret hP hl
  obtain ⟨hx, hb, hml, hown, hta⟩ := id X
  have hKv := hkk.1
  have hS : va_S (c_A ad) s.heap s.heap [] := va_S.rf
  have hl : lv_has ls 3 [(0, .ref (ad 0))] := hl
  have L75 : ∀ (ke137 : Mem → Option Mem), ke137 = (fun M12 => bd1 (f_Agreements_listConflicts M12) (fun M13 => sm (u1 M13 0 9 (1 : Int32)) (fun M14 => some M14))) → ∀ (n75 : Nat) (x1 : Int32) (M : Mem) (H : Heap) (locs : List Loc) (ls : Array Slot), f_LinkAudit_agree_L75 ke137 n75 x1 M = some M' → va_P D vwC (c_ws cI cL cG cZ ad M) H → va_S (c_A ad) s.heap H locs → lv_has ls 3 [(0, .ref (ad 0)), (1, .int x1)] → W p l e (rmR 45 1202) s m args below meth c H locs 0 0 Q (F0 m 75 ls []) := by
    intro ke137 hke137 n75
    induction n75 with
    | zero => intro x1 M H locs ls hf; exact absurd (show (none : Option _) = some _ from hf) (fun q => by cases q)
    | succ n75 ih75 =>
      intro x1 M H locs ls hf hP hS hl
      rw [f_LinkAudit_agree_L75] at hf
      have L88 : ∀ (x1 : Int32), ∀ (ke131 : Mem → Option Mem), ke131 = (fun M15 => f_LinkAudit_agree_L75 ke137 n75 (x1 + (1 : Int32)) M15) → ∀ (n88 : Nat) (x2 : Int32) (M : Mem) (H : Heap) (locs : List Loc) (ls : Array Slot), f_LinkAudit_agree_L88 x1 ke131 n88 x2 M = some M' → va_P D vwC (c_ws cI cL cG cZ ad M) H → va_S (c_A ad) s.heap H locs → lv_has ls 3 [(0, .ref (ad 0)), (1, .int x1), (2, .int x2)] → W p l e (rmR 45 1202) s m args below meth c H locs 0 0 Q (F0 m 88 ls []) := by
        intro x1 ke131 hke131 n88
        induction n88 with
        | zero => intro x2 M H locs ls hf; exact absurd (show (none : Option _) = some _ from hf) (fun q => by cases q)
        | succ n88 ih88 =>
          intro x2 M H locs ls hf hP hS hl
          rw [f_LinkAudit_agree_L88] at hf
          refine lv_iload_n hx hb d_LinkAudit_agree_88 rfl (lv_at hl 2 rfl) ?_
          refine lv_aload_n hx hb d_LinkAudit_agree_89 rfl (lv_at hl 0 rfl) ?_
          refine xg_LinkAudit_26 hx hb hta hown hKv hP d_LinkAudit_agree_90 ?_
          refine xg_LinkAudit_186 hx hb hta hown hKv hP d_LinkAudit_agree_93 ?_
          refine lv_icmp_gt (tgt := 131) hx hb d_LinkAudit_agree_96 (by decide) (fun c1 => ?_) (fun c1 => ?_)
          · have hf := ifp c1 hf
            rw [hke131] at hf
            refine lv_iinc (v := (x1 + (1 : Int32))) (lv' := [(1, .int (x1 + (1 : Int32))), (0, .ref (ad 0)), (2, .int x2)]) hx hb d_LinkAudit_agree_131 hl (k := 1) rfl rfl (by decide) rfl (fun ls hl => ?_)
            refine lv_goto (tgt := 75) hx hb d_LinkAudit_agree_134 (by decide) ?_
            exact ih75 (x1 + (1 : Int32)) M _ _ _ hf hP hS (lv_sub hl [1, 0] rfl)
          · have hf := ifn c1 hf
            refine lv_aload_n hx hb d_LinkAudit_agree_99 rfl (lv_at hl 0 rfl) ?_
            refine xg_LinkAudit_65 hx hb hta hown hKv hP d_LinkAudit_agree_100 ?_
            refine lv_iload_n hx hb d_LinkAudit_agree_103 rfl (lv_at hl 1 rfl) ?_
            refine lv_iload_n hx hb d_LinkAudit_agree_104 rfl (lv_at hl 2 rfl) ?_
            obtain ⟨r16, hc2, hf⟩ := bd1_e hf
            refine xvc_LinkAudit_163 X hkk hD (Nat.le_of_ble_eq_true rfl) ⟨by dsimp only [rmR]; omega, by dsimp only [rmR]; omega⟩ ⟨Nat.zero_le _, Nat.zero_le _⟩ hc2 hl.1 hP hS d_LinkAudit_agree_105 (fun H locs hP hS => ?_)
            refine lv_if_eq (tgt := 125) hx hb d_LinkAudit_agree_108 (by decide) (fun c3 => ?_) (fun c3 => ?_)
            · have hf := ifp c3 hf
              refine lv_iinc (v := (x2 + (1 : Int32))) (lv' := [(2, .int (x2 + (1 : Int32))), (0, .ref (ad 0)), (1, .int x1)]) hx hb d_LinkAudit_agree_125 hl (k := 2) rfl rfl (by decide) rfl (fun ls hl => ?_)
              refine lv_goto (tgt := 88) hx hb d_LinkAudit_agree_128 (by decide) ?_
              exact ih88 (x2 + (1 : Int32)) M _ _ _ hf hP hS (lv_sub hl [1, 2, 0] rfl)
            · have hf := ifn c3 hf
              refine lv_aload_n hx hb d_LinkAudit_agree_111 rfl (lv_at hl 0 rfl) ?_
              refine lv_iload_n hx hb d_LinkAudit_agree_112 rfl (lv_at hl 2 rfl) ?_
              refine lv_aload_n hx hb d_LinkAudit_agree_113 rfl (lv_at hl 0 rfl) ?_
              refine xg_LinkAudit_26 hx hb hta hown hKv hP d_LinkAudit_agree_114 ?_
              refine xg_LinkAudit_221 hx hb hta hown hKv hP d_LinkAudit_agree_117 ?_
              refine lv_iload_n hx hb d_LinkAudit_agree_120 rfl (lv_at hl 1 rfl) ?_
              obtain ⟨g4, hf⟩ := gd_ok hf
              refine x_ild hx hb hKv hP c_c29 g4 d_LinkAudit_agree_121 ?_
              obtain ⟨M17, hc5, hf⟩ := bd1_e hf
              refine xvc_LinkAudit_217 X hkk hD (Nat.le_of_ble_eq_true rfl) ⟨by dsimp only [rmR]; omega, by dsimp only [rmR]; omega⟩ ⟨Nat.zero_le _, Nat.zero_le _⟩ hc5 hl.1 hP hS d_LinkAudit_agree_122 (fun H locs hP hS => ?_)
              refine lv_iinc (v := (x2 + (1 : Int32))) (lv' := [(2, .int (x2 + (1 : Int32))), (0, .ref (ad 0)), (1, .int x1)]) hx hb d_LinkAudit_agree_125 hl (k := 2) rfl rfl (by decide) rfl (fun ls hl => ?_)
              refine lv_goto (tgt := 88) hx hb d_LinkAudit_agree_128 (by decide) ?_
              exact ih88 (x2 + (1 : Int32)) M17 _ _ _ hf hP hS (lv_sub hl [1, 2, 0] rfl)
      refine lv_iload_n hx hb d_LinkAudit_agree_75 rfl (lv_at hl 1 rfl) ?_
      refine lv_aload_n hx hb d_LinkAudit_agree_76 rfl (lv_at hl 0 rfl) ?_
      refine xg_LinkAudit_26 hx hb hta hown hKv hP d_LinkAudit_agree_77 ?_
      refine xg_LinkAudit_186 hx hb hta hown hKv hP d_LinkAudit_agree_80 ?_
      refine lv_icmp_gt (tgt := 137) hx hb d_LinkAudit_agree_83 (by decide) (fun c6 => ?_) (fun c6 => ?_)
      · have hf := ifp c6 hf
        rw [hke137] at hf
        refine lv_aload_n hx hb d_LinkAudit_agree_137 rfl (lv_at hl 0 rfl) ?_
        refine xg_LinkAudit_74 hx hb hta hown hKv hP d_LinkAudit_agree_138 ?_
        obtain ⟨M18, hc7, hf⟩ := bd1_e hf
        refine xvc_LinkAudit_224 X hkk hD (Nat.le_of_ble_eq_true rfl) ⟨by dsimp only [rmR]; omega, by dsimp only [rmR]; omega⟩ ⟨Nat.zero_le _, Nat.zero_le _⟩ hc7 hl.1 hP hS d_LinkAudit_agree_141 (fun H locs hP hS => ?_)
        refine lv_aload_n hx hb d_LinkAudit_agree_144 rfl (lv_at hl 0 rfl) ?_
        refine lv_iconst (v := (1 : Int32)) hx hb d_LinkAudit_agree_145 (by decide) ?_
        obtain ⟨M19, eM19, hf⟩ := sm_e hf
        refine xp_LinkAudit_82 hx hb hta hown hKv hP (hD _) hS eM19 d_LinkAudit_agree_146 (Or.inr rfl) (fun H locs hP hS => ?_)
        exact hret hf hP hS d_LinkAudit_agree_149
      · have hf := ifn c6 hf
        refine lv_iconst (v := (1 : Int32)) hx hb d_LinkAudit_agree_86 (by decide) ?_
        refine lv_istore_n (lv' := [(2, .int (1 : Int32)), (0, .ref (ad 0)), (1, .int x1)]) hx hb d_LinkAudit_agree_87 rfl hl (by decide) rfl (fun ls hl => ?_)
        exact L88 x1 _ rfl FU (1 : Int32) M _ _ _ hf hP hS (lv_sub hl [1, 2, 0] rfl)
  have L17 : ∀ (ke73 : Mem → Option Mem), ke73 = (fun M20 => f_LinkAudit_agree_L75 (fun M21 => bd1 (f_Agreements_listConflicts M21) (fun M22 => sm (u1 M22 0 9 (1 : Int32)) (fun M23 => some M23))) FU (1 : Int32) M20) → ∀ (n17 : Nat) (x1 : Int32) (M : Mem) (H : Heap) (locs : List Loc) (ls : Array Slot), f_LinkAudit_agree_L17 ke73 n17 x1 M = some M' → va_P D vwC (c_ws cI cL cG cZ ad M) H → va_S (c_A ad) s.heap H locs → lv_has ls 3 [(0, .ref (ad 0)), (1, .int x1)] → W p l e (rmR 45 1202) s m args below meth c H locs 0 0 Q (F0 m 17 ls []) := by
    intro ke73 hke73 n17
    induction n17 with
    | zero => intro x1 M H locs ls hf; exact absurd (show (none : Option _) = some _ from hf) (fun q => by cases q)
    | succ n17 ih17 =>
      intro x1 M H locs ls hf hP hS hl
      rw [f_LinkAudit_agree_L17] at hf
      refine lv_iload_n hx hb d_LinkAudit_agree_17 rfl (lv_at hl 1 rfl) ?_
      refine lv_aload_n hx hb d_LinkAudit_agree_18 rfl (lv_at hl 0 rfl) ?_
      refine xg_LinkAudit_33 hx hb hta hown hKv hP d_LinkAudit_agree_19 ?_
      refine xg_LinkAudit_139 hx hb hta hown hKv hP d_LinkAudit_agree_22 ?_
      refine lv_icmp_ge (tgt := 73) hx hb d_LinkAudit_agree_25 (by decide) (fun c8 => ?_) (fun c8 => ?_)
      · have hf := ifp c8 hf
        rw [hke73] at hf
        refine lv_iconst (v := (1 : Int32)) hx hb d_LinkAudit_agree_73 (by decide) ?_
        refine lv_istore_n (lv' := [(1, .int (1 : Int32)), (0, .ref (ad 0))]) hx hb d_LinkAudit_agree_74 rfl hl (by decide) rfl (fun ls hl => ?_)
        exact L75  _ rfl FU (1 : Int32) M _ _ _ hf hP hS (lv_sub hl [1, 0] rfl)
      · have hf := ifn c8 hf
        refine lv_aload_n hx hb d_LinkAudit_agree_28 rfl (lv_at hl 0 rfl) ?_
        refine xg_LinkAudit_56 hx hb hta hown hKv hP d_LinkAudit_agree_29 ?_
        refine lv_iload_n hx hb d_LinkAudit_agree_32 rfl (lv_at hl 1 rfl) ?_
        obtain ⟨r25, M24, hc9, hf⟩ := bd2_e hf
        refine xvc_LinkAudit_150 X hkk hD (Nat.le_of_ble_eq_true rfl) ⟨by dsimp only [rmR]; omega, by dsimp only [rmR]; omega⟩ ⟨Nat.zero_le _, Nat.zero_le _⟩ hc9 hl.1 hP hS d_LinkAudit_agree_33 (fun H locs hP hS => ?_)
        refine lv_istore_n (lv' := [(2, .int r25), (0, .ref (ad 0)), (1, .int x1)]) hx hb d_LinkAudit_agree_36 rfl hl (by decide) rfl (fun ls hl => ?_)
        refine lv_iload_n hx hb d_LinkAudit_agree_37 rfl (lv_at hl 0 rfl) ?_
        refine lv_if_le (tgt := 67) hx hb d_LinkAudit_agree_38 (by decide) (fun c10 => ?_) (fun c10 => ?_)
        · have hf := ifp c10 hf
          refine lv_iinc (v := (x1 + (1 : Int32))) (lv' := [(1, .int (x1 + (1 : Int32))), (2, .int r25), (0, .ref (ad 0))]) hx hb d_LinkAudit_agree_67 hl (k := 2) rfl rfl (by decide) rfl (fun ls hl => ?_)
          refine lv_goto (tgt := 17) hx hb d_LinkAudit_agree_70 (by decide) ?_
          exact ih17 (x1 + (1 : Int32)) M24 _ _ _ hf hP hS (lv_sub hl [2, 0] rfl)
        · have hf := ifn c10 hf
          refine lv_aload_n hx hb d_LinkAudit_agree_41 rfl (lv_at hl 1 rfl) ?_
          refine xg_LinkAudit_33 hx hb hta hown hKv hP d_LinkAudit_agree_42 ?_
          refine xg_LinkAudit_211 hx hb hta hown hKv hP d_LinkAudit_agree_45 ?_
          refine lv_iload_n hx hb d_LinkAudit_agree_48 rfl (lv_at hl 2 rfl) ?_
          obtain ⟨g11, hf⟩ := gd_ok hf
          refine x_ild hx hb hKv hP c_c34 g11 d_LinkAudit_agree_49 ?_
          refine lv_if_eq (tgt := 67) hx hb d_LinkAudit_agree_50 (by decide) (fun c12 => ?_) (fun c12 => ?_)
          · have hf := ifp c12 hf
            refine lv_iinc (v := (x1 + (1 : Int32))) (lv' := [(1, .int (x1 + (1 : Int32))), (2, .int r25), (0, .ref (ad 0))]) hx hb d_LinkAudit_agree_67 hl (k := 2) rfl rfl (by decide) rfl (fun ls hl => ?_)
            refine lv_goto (tgt := 17) hx hb d_LinkAudit_agree_70 (by decide) ?_
            exact ih17 (x1 + (1 : Int32)) M24 _ _ _ hf hP hS (lv_sub hl [2, 0] rfl)
          · have hf := ifn c12 hf
            refine lv_aload_n hx hb d_LinkAudit_agree_53 rfl (lv_at hl 1 rfl) ?_
            refine lv_iload_n hx hb d_LinkAudit_agree_54 rfl (lv_at hl 0 rfl) ?_
            refine lv_aload_n hx hb d_LinkAudit_agree_55 rfl (lv_at hl 1 rfl) ?_
            refine xg_LinkAudit_33 hx hb hta hown hKv hP d_LinkAudit_agree_56 ?_
            refine xg_LinkAudit_214 hx hb hta hown hKv hP d_LinkAudit_agree_59 ?_
            refine lv_iload_n hx hb d_LinkAudit_agree_62 rfl (lv_at hl 2 rfl) ?_
            obtain ⟨g13, hf⟩ := gd_ok hf
            refine x_ild hx hb hKv hP c_c33 g13 d_LinkAudit_agree_63 ?_
            obtain ⟨M26, hc14, hf⟩ := bd1_e hf
            refine xvc_LinkAudit_217 X hkk hD (Nat.le_of_ble_eq_true rfl) ⟨by dsimp only [rmR]; omega, by dsimp only [rmR]; omega⟩ ⟨Nat.zero_le _, Nat.zero_le _⟩ hc14 hl.1 hP hS d_LinkAudit_agree_64 (fun H locs hP hS => ?_)
            refine lv_iinc (v := (x1 + (1 : Int32))) (lv' := [(1, .int (x1 + (1 : Int32))), (2, .int r25), (0, .ref (ad 0))]) hx hb d_LinkAudit_agree_67 hl (k := 2) rfl rfl (by decide) rfl (fun ls hl => ?_)
            refine lv_goto (tgt := 17) hx hb d_LinkAudit_agree_70 (by decide) ?_
            exact ih17 (x1 + (1 : Int32)) M26 _ _ _ hf hP hS (lv_sub hl [2, 0] rfl)
  unfold f_LinkAudit_agree at hf
  refine lv_aload_n hx hb d_LinkAudit_agree_0 rfl (lv_at hl 0 rfl) ?_
  refine xg_LinkAudit_82 hx hb hta hown hKv hP d_LinkAudit_agree_1 ?_
  refine lv_if_eq (tgt := 8) hx hb d_LinkAudit_agree_4 (by decide) (fun c15 => ?_) (fun c15 => ?_)
  · have hf := ifp c15 hf
    refine lv_aload_n hx hb d_LinkAudit_agree_8 rfl (lv_at hl 0 rfl) ?_
    refine xg_LinkAudit_74 hx hb hta hown hKv hP d_LinkAudit_agree_9 ?_
    obtain ⟨M27, hc16, hf⟩ := bd1_e hf
    refine xvc_LinkAudit_208 X hkk hD (Nat.le_of_ble_eq_true rfl) ⟨by dsimp only [rmR]; omega, by dsimp only [rmR]; omega⟩ ⟨Nat.zero_le _, Nat.zero_le _⟩ hc16 hl.1 hP hS d_LinkAudit_agree_12 (fun H locs hP hS => ?_)
    refine lv_iconst (v := (0 : Int32)) hx hb d_LinkAudit_agree_15 (by decide) ?_
    refine lv_istore_n (lv' := [(1, .int (0 : Int32)), (0, .ref (ad 0))]) hx hb d_LinkAudit_agree_16 rfl hl (by decide) rfl (fun ls hl => ?_)
    exact L17  _ rfl FU (0 : Int32) M27 _ _ _ hf hP hS (lv_sub hl [1, 0] rfl)
  · have hf := ifn c15 hf
    exact hret hf hP hS d_LinkAudit_agree_7
-- LinkAudit.conflicts
theorem xvc_LinkAudit_170 {p : Program} {l : Launch} {e : Env} {R : Room} {s : State} {m : MethodId} {args : Array Value} {below : List Frame} {meth : Method} {c : Code} {H : Heap} {locs : List Loc} {cells slots : Nat} {Q : State → Prop} {cc : ByteArray} {pc : Nat} {ls : Array Slot} {rest : List Value} {D : va_G} {cI cL cG cZ : ClassId} {ad : Nat → Nat} {M : Mem} {H0 : Heap} {M1 : Mem} {nL : Nat}  (X : CallFix p m c cc nL s args ALLW "LinkAudit") (hkk : Kk D cI cL cG cZ s) (hD : ∀ M, va_D (c_A ad) (c_ws cI cL cG cZ ad M)) (hrest : (rest.map fun v => v.category).sum ≤ 8) (hR : 45 + 1 ≤ R.frames ∧ 8 + (3 + 11) + 1202 ≤ R.locals) (hcs : cells + 0 ≤ R.cells ∧ slots + 0 ≤ R.slots) (hc : f_LinkAudit_agree M = some M1) (hsz : ls.size = nL) (hP : va_P D vwC (c_ws cI cL cG cZ ad M) H) (hS : va_S (c_A ad) H0 H locs) (hdg : decode cc pc = .ok (.invokevirtual 170, 3))
    (kk : ∀ (H1 : Heap) (locs1 : List Loc), va_P D vwC (c_ws cI cL cG cZ ad M1) H1 → va_S (c_A ad) H0 H1 locs1 → W p l e R s m args below meth c H1 locs1 cells slots Q (F0 m (pc + 3) ls (rest))) : W p l e R s m args below meth c H locs cells slots Q (F0 m pc ls (.ref (ad 0) :: rest)) := by
  have hta := X.2.2.2.2
  exact x_afterV (va_runV (As := []) (rest := rest) X (c_LinkAudit_agree hD hc) ⟨callB_of 0 hta (good_all (L := .code y_LinkAudit_agree prog_1_method_27_code 3 none :: ALLW) (List.forall_mem_cons.mpr ⟨wm_648, fun _ h => h⟩)) rfl rfl rfl (hta _ wm_1) (hta _ wm_645) (by decide +kernel) hR, hta _ wm_647, hta _ wp_20⟩ ⟨x_blind Kk_w _, va_recv hkk.1 hP (ci := 0) (q0 := 0) rfl c_c0, x_pre Kk_w hkk hP _⟩ rfl rfl hsz rfl (lv_room hrest) hdg hcs) hS kk
theorem xg_LinkAudit_173 {p : Program} {l : Launch} {e : Env} {R : Room} {s : State} {m : MethodId} {args : Array Value} {below : List Frame} {meth : Method} {c : Code} {H : Heap} {locs : List Loc} {cells slots : Nat} {Q : State → Prop} {cc : ByteArray} {pc : Nat} {ls : Array Slot} {rest : List Value} {D : va_G} {cI cL cG cZ : ClassId} {ad : Nat → Nat} {M : Mem} (hx : p.tables.exec = Jvm.exec) (hb : c.code = cc) (hta : ∀ w ∈ ALLW, w.before args s = true) (hown : s.vm.findClass "LinkAudit" = some m.cls) (hK : va_K D vwC [(cI, .int), (cL, .long), (cG, .array .int), (cZ, .boolean)] s) (hP : va_P D vwC (c_ws cI cL cG cZ ad M) H) (hdg : decode cc pc = .ok (.getfield 173, 3))
    (kk : W p l e R s m args below meth c H locs cells slots Q (F0 m (pc + 3) ls (.int (M.1 9 5) :: rest))) : W p l e R s m args below meth c H locs cells slots Q (F0 m pc ls (.ref (ad 9) :: rest)) :=
  va_get (D := D) (ci := 9) (v := .int (M.1 9 5)) (C := "LinkAudit$Agreements") (T := T_Agreements) (N := 6) hx hb hta i_Agreements hown hK hP 9 c_c9 rfl 5 (by decide) (hta _ wm_284) (fun _ h9 => h9) rfl hdg kk
set_option maxHeartbeats 4000000 in
set_option maxRecDepth 100000 in
theorem c_LinkAudit_conflicts {l : Launch} {D : va_G} {cI cL cG cZ : ClassId} {ad : Nat → Nat} {M M' : Mem} {r : Int32} (hD : ∀ M, va_D (c_A ad) (c_ws cI cL cG cZ ad M)) (hf : f_LinkAudit_conflicts M = some (r, M')) : Mi l y_LinkAudit_conflicts (.code y_LinkAudit_conflicts prog_1_method_14_code 1 (some .int) :: ALLW) (rmR 86 2292) (Kk D cI cL cG cZ) D vwC (c_A ad) (c_ws cI cL cG cZ ad) [.ref (ad 0)] M M' r := by
  refine Mi_of (by decide) (Nat.le_of_ble_eq_true rfl) ?_
  intro p e s m args below meth c ls Q X hkk hret hP hl
  obtain ⟨hx, hb, hml, hown, hta⟩ := id X
  have hKv := hkk.1
  have hS : va_S (c_A ad) s.heap s.heap [] := va_S.rf
  have hl : lv_has ls 1 [(0, .ref (ad 0))] := hl
  unfold f_LinkAudit_conflicts at hf
  refine lv_aload_n hx hb d_LinkAudit_conflicts_0 rfl (lv_at hl 0 rfl) ?_
  obtain ⟨M3, hc1, hf⟩ := bd1_e hf
  refine xvc_LinkAudit_144 X hkk hD (Nat.le_of_ble_eq_true rfl) ⟨by dsimp only [rmR]; omega, by dsimp only [rmR]; omega⟩ ⟨Nat.zero_le _, Nat.zero_le _⟩ hc1 hl.1 hP hS d_LinkAudit_conflicts_1 (fun H locs hP hS => ?_)
  refine lv_aload_n hx hb d_LinkAudit_conflicts_4 rfl (lv_at hl 0 rfl) ?_
  obtain ⟨M4, hc2, hf⟩ := bd1_e hf
  refine xvc_LinkAudit_170 X hkk hD (Nat.le_of_ble_eq_true rfl) ⟨by dsimp only [rmR]; omega, by dsimp only [rmR]; omega⟩ ⟨Nat.zero_le _, Nat.zero_le _⟩ hc2 hl.1 hP hS d_LinkAudit_conflicts_5 (fun H locs hP hS => ?_)
  refine lv_aload_n hx hb d_LinkAudit_conflicts_8 rfl (lv_at hl 0 rfl) ?_
  refine xg_LinkAudit_74 hx hb hta hown hKv hP d_LinkAudit_conflicts_9 ?_
  refine xg_LinkAudit_173 hx hb hta hown hKv hP d_LinkAudit_conflicts_12 ?_
  exact hret hf hP hS d_LinkAudit_conflicts_15
-- LinkAudit.conflict
theorem xg_LinkAudit_174 {p : Program} {l : Launch} {e : Env} {R : Room} {s : State} {m : MethodId} {args : Array Value} {below : List Frame} {meth : Method} {c : Code} {H : Heap} {locs : List Loc} {cells slots : Nat} {Q : State → Prop} {cc : ByteArray} {pc : Nat} {ls : Array Slot} {rest : List Value} {D : va_G} {cI cL cG cZ : ClassId} {ad : Nat → Nat} {M : Mem} (hx : p.tables.exec = Jvm.exec) (hb : c.code = cc) (hta : ∀ w ∈ ALLW, w.before args s = true) (hown : s.vm.findClass "LinkAudit" = some m.cls) (hK : va_K D vwC [(cI, .int), (cL, .long), (cG, .array .int), (cZ, .boolean)] s) (hP : va_P D vwC (c_ws cI cL cG cZ ad M) H) (hdg : decode cc pc = .ok (.getfield 174, 3))
    (kk : W p l e R s m args below meth c H locs cells slots Q (F0 m (pc + 3) ls (.ref (ad 74) :: rest))) : W p l e R s m args below meth c H locs cells slots Q (F0 m pc ls (.ref (ad 9) :: rest)) :=
  va_get (D := D) (ci := 9) (v := .ref (ad 74)) (C := "LinkAudit$Agreements") (T := T_Agreements) (N := 6) hx hb hta i_Agreements hown hK hP 9 c_c9 rfl 2 (by decide) (hta _ wm_278) (fun _ h9 => h9) rfl hdg kk
theorem xg_LinkAudit_177 {p : Program} {l : Launch} {e : Env} {R : Room} {s : State} {m : MethodId} {args : Array Value} {below : List Frame} {meth : Method} {c : Code} {H : Heap} {locs : List Loc} {cells slots : Nat} {Q : State → Prop} {cc : ByteArray} {pc : Nat} {ls : Array Slot} {rest : List Value} {D : va_G} {cI cL cG cZ : ClassId} {ad : Nat → Nat} {M : Mem} (hx : p.tables.exec = Jvm.exec) (hb : c.code = cc) (hta : ∀ w ∈ ALLW, w.before args s = true) (hown : s.vm.findClass "LinkAudit" = some m.cls) (hK : va_K D vwC [(cI, .int), (cL, .long), (cG, .array .int), (cZ, .boolean)] s) (hP : va_P D vwC (c_ws cI cL cG cZ ad M) H) (hdg : decode cc pc = .ok (.getfield 177, 3))
    (kk : W p l e R s m args below meth c H locs cells slots Q (F0 m (pc + 3) ls (.ref (ad 75) :: rest))) : W p l e R s m args below meth c H locs cells slots Q (F0 m pc ls (.ref (ad 9) :: rest)) :=
  va_get (D := D) (ci := 9) (v := .ref (ad 75)) (C := "LinkAudit$Agreements") (T := T_Agreements) (N := 6) hx hb hta i_Agreements hown hK hP 9 c_c9 rfl 3 (by decide) (hta _ wm_280) (fun _ h9 => h9) rfl hdg kk
theorem xg_LinkAudit_180 {p : Program} {l : Launch} {e : Env} {R : Room} {s : State} {m : MethodId} {args : Array Value} {below : List Frame} {meth : Method} {c : Code} {H : Heap} {locs : List Loc} {cells slots : Nat} {Q : State → Prop} {cc : ByteArray} {pc : Nat} {ls : Array Slot} {rest : List Value} {D : va_G} {cI cL cG cZ : ClassId} {ad : Nat → Nat} {M : Mem} (hx : p.tables.exec = Jvm.exec) (hb : c.code = cc) (hta : ∀ w ∈ ALLW, w.before args s = true) (hown : s.vm.findClass "LinkAudit" = some m.cls) (hK : va_K D vwC [(cI, .int), (cL, .long), (cG, .array .int), (cZ, .boolean)] s) (hP : va_P D vwC (c_ws cI cL cG cZ ad M) H) (hdg : decode cc pc = .ok (.getfield 180, 3))
    (kk : W p l e R s m args below meth c H locs cells slots Q (F0 m (pc + 3) ls (.ref (ad 76) :: rest))) : W p l e R s m args below meth c H locs cells slots Q (F0 m pc ls (.ref (ad 9) :: rest)) :=
  va_get (D := D) (ci := 9) (v := .ref (ad 76)) (C := "LinkAudit$Agreements") (T := T_Agreements) (N := 6) hx hb hta i_Agreements hown hK hP 9 c_c9 rfl 4 (by decide) (hta _ wm_282) (fun _ h9 => h9) rfl hdg kk
set_option maxHeartbeats 4000000 in
set_option maxRecDepth 100000 in
theorem c_LinkAudit_conflict {l : Launch} {D : va_G} {cI cL cG cZ : ClassId} {ad : Nat → Nat} {M M' : Mem} {a1 : Int32} {a2 : Int32} {r : Int32} (hD : ∀ M, va_D (c_A ad) (c_ws cI cL cG cZ ad M)) (hf : f_LinkAudit_conflict M a1 a2 = some (r, M')) : Mi l y_LinkAudit_conflict (.code y_LinkAudit_conflict prog_1_method_15_code 3 (some .int) :: ALLW) (rmR 86 2292) (Kk D cI cL cG cZ) D vwC (c_A ad) (c_ws cI cL cG cZ ad) [.ref (ad 0), .int a1, .int a2] M M' r := by
  refine Mi_of (by decide) (Nat.le_of_ble_eq_true rfl) ?_
  intro p e s m args below meth c ls Q X hkk hret hP hl
  obtain ⟨hx, hb, hml, hown, hta⟩ := id X
  have hKv := hkk.1
  have hS : va_S (c_A ad) s.heap s.heap [] := va_S.rf
  have hl : lv_has ls 3 [(0, .ref (ad 0)), (1, .int a1), (2, .int a2)] := hl
  unfold f_LinkAudit_conflict at hf
  refine lv_aload_n hx hb d_LinkAudit_conflict_0 rfl (lv_at hl 0 rfl) ?_
  obtain ⟨M4, hc1, hf⟩ := bd1_e hf
  refine xvc_LinkAudit_144 X hkk hD (Nat.le_of_ble_eq_true rfl) ⟨by dsimp only [rmR]; omega, by dsimp only [rmR]; omega⟩ ⟨Nat.zero_le _, Nat.zero_le _⟩ hc1 hl.1 hP hS d_LinkAudit_conflict_1 (fun H locs hP hS => ?_)
  refine lv_aload_n hx hb d_LinkAudit_conflict_4 rfl (lv_at hl 0 rfl) ?_
  obtain ⟨M5, hc2, hf⟩ := bd1_e hf
  refine xvc_LinkAudit_170 X hkk hD (Nat.le_of_ble_eq_true rfl) ⟨by dsimp only [rmR]; omega, by dsimp only [rmR]; omega⟩ ⟨Nat.zero_le _, Nat.zero_le _⟩ hc2 hl.1 hP hS d_LinkAudit_conflict_5 (fun H locs hP hS => ?_)
  refine lv_iload_n hx hb d_LinkAudit_conflict_8 rfl (lv_at hl 1 rfl) ?_
  refine lv_aload_n hx hb d_LinkAudit_conflict_9 rfl (lv_at hl 0 rfl) ?_
  refine xg_LinkAudit_74 hx hb hta hown hKv hP d_LinkAudit_conflict_10 ?_
  refine xg_LinkAudit_173 hx hb hta hown hKv hP d_LinkAudit_conflict_13 ?_
  obtain ⟨r6, hc3, hf⟩ := bd1_e hf
  refine xvc_LinkAudit_89 X hkk hD (Nat.le_of_ble_eq_true rfl) ⟨by dsimp only [rmR]; omega, by dsimp only [rmR]; omega⟩ ⟨Nat.zero_le _, Nat.zero_le _⟩ hc3 hl.1 hP hS d_LinkAudit_conflict_16 (fun H locs hP hS => ?_)
  refine lv_if_ne (tgt := 24) hx hb d_LinkAudit_conflict_19 (by decide) (fun c4 => ?_) (fun c4 => ?_)
  · have hf := ifn c4 hf
    refine lv_iload_n hx hb d_LinkAudit_conflict_24 rfl (lv_at hl 2 rfl) ?_
    by_cases c5 : a2 = (0 : Int32)
    · have hf := ifp c5 hf
      refine lv_tableIn (tgt := 52) hx hb d_LinkAudit_conflict_25 (by rw [c5]; decide) (by rw [c5]; decide) (by rw [c5]; rfl) (by decide) ?_
      refine lv_aload_n hx hb d_LinkAudit_conflict_52 rfl (lv_at hl 0 rfl) ?_
      refine xg_LinkAudit_74 hx hb hta hown hKv hP d_LinkAudit_conflict_53 ?_
      refine xg_LinkAudit_174 hx hb hta hown hKv hP d_LinkAudit_conflict_56 ?_
      refine lv_iload_n hx hb d_LinkAudit_conflict_59 rfl (lv_at hl 1 rfl) ?_
      obtain ⟨g6, hf⟩ := gd_ok hf
      refine x_ild hx hb hKv hP c_c74 g6 d_LinkAudit_conflict_60 ?_
      exact hret hf hP hS d_LinkAudit_conflict_61
    have hf := ifn c5 hf
    by_cases c7 : a2 = (1 : Int32)
    · have hf := ifp c7 hf
      refine lv_tableIn (tgt := 62) hx hb d_LinkAudit_conflict_25 (by rw [c7]; decide) (by rw [c7]; decide) (by rw [c7]; rfl) (by decide) ?_
      refine lv_aload_n hx hb d_LinkAudit_conflict_62 rfl (lv_at hl 0 rfl) ?_
      refine xg_LinkAudit_74 hx hb hta hown hKv hP d_LinkAudit_conflict_63 ?_
      refine xg_LinkAudit_177 hx hb hta hown hKv hP d_LinkAudit_conflict_66 ?_
      refine lv_iload_n hx hb d_LinkAudit_conflict_69 rfl (lv_at hl 1 rfl) ?_
      obtain ⟨g8, hf⟩ := gd_ok hf
      refine x_ild hx hb hKv hP c_c75 g8 d_LinkAudit_conflict_70 ?_
      exact hret hf hP hS d_LinkAudit_conflict_71
    have hf := ifn c7 hf
    by_cases c9 : a2 = (2 : Int32)
    · have hf := ifp c9 hf
      refine lv_tableIn (tgt := 72) hx hb d_LinkAudit_conflict_25 (by rw [c9]; decide) (by rw [c9]; decide) (by rw [c9]; rfl) (by decide) ?_
      refine lv_aload_n hx hb d_LinkAudit_conflict_72 rfl (lv_at hl 0 rfl) ?_
      refine xg_LinkAudit_74 hx hb hta hown hKv hP d_LinkAudit_conflict_73 ?_
      refine xg_LinkAudit_180 hx hb hta hown hKv hP d_LinkAudit_conflict_76 ?_
      refine lv_iload_n hx hb d_LinkAudit_conflict_79 rfl (lv_at hl 1 rfl) ?_
      obtain ⟨g10, hf⟩ := gd_ok hf
      refine x_ild hx hb hKv hP c_c76 g10 d_LinkAudit_conflict_80 ?_
      exact hret hf hP hS d_LinkAudit_conflict_81
    have hf := ifn c9 hf
    refine lv_tableOut (tgt := 82) hx hb d_LinkAudit_conflict_25 (by have := lv_neT (a := 0) c5 rfl; have := lv_neT (a := 1) c7 rfl; have := lv_neT (a := 2) c9 rfl; omega) (by decide) ?_
    refine lv_iconst (v := (-1 : Int32)) hx hb d_LinkAudit_conflict_82 (by decide) ?_
    exact hret hf hP hS d_LinkAudit_conflict_83
  · have hf := ifp c4 hf
    refine lv_iconst (v := (-1 : Int32)) hx hb d_LinkAudit_conflict_22 (by decide) ?_
    exact hret hf hP hS d_LinkAudit_conflict_23
-- LinkAudit$Resolver.codeCount
theorem xg_Resolver_42 {p : Program} {l : Launch} {e : Env} {R : Room} {s : State} {m : MethodId} {args : Array Value} {below : List Frame} {meth : Method} {c : Code} {H : Heap} {locs : List Loc} {cells slots : Nat} {Q : State → Prop} {cc : ByteArray} {pc : Nat} {ls : Array Slot} {rest : List Value} {D : va_G} {cI cL cG cZ : ClassId} {ad : Nat → Nat} {M : Mem} (hx : p.tables.exec = Jvm.exec) (hb : c.code = cc) (hta : ∀ w ∈ ALLW, w.before args s = true) (hown : s.vm.findClass "LinkAudit$Resolver" = some m.cls) (hK : va_K D vwC [(cI, .int), (cL, .long), (cG, .array .int), (cZ, .boolean)] s) (hP : va_P D vwC (c_ws cI cL cG cZ ad M) H) (hdg : decode cc pc = .ok (.getfield 42, 3))
    (kk : W p l e R s m args below meth c H locs cells slots Q (F0 m (pc + 3) ls (.int (M.1 4 4) :: rest))) : W p l e R s m args below meth c H locs cells slots Q (F0 m pc ls (.ref (ad 4) :: rest)) :=
  va_get (D := D) (ci := 4) (v := .int (M.1 4 4)) (C := "LinkAudit$References") (T := T_References) (N := 5) hx hb hta i_References hown hK hP 4 c_c4 rfl 4 (by decide) (hta _ wm_144) (fun _ h9 => h9) rfl hdg kk
theorem xvc_Resolver_47 {p : Program} {l : Launch} {e : Env} {R : Room} {s : State} {m : MethodId} {args : Array Value} {below : List Frame} {meth : Method} {c : Code} {H : Heap} {locs : List Loc} {cells slots : Nat} {Q : State → Prop} {cc : ByteArray} {pc : Nat} {ls : Array Slot} {rest : List Value} {D : va_G} {cI cL cG cZ : ClassId} {ad : Nat → Nat} {M : Mem} {H0 : Heap} {M1 : Mem} {nL : Nat} {a0 : Int32} {r : Int32} (X : CallFix p m c cc nL s args ALLW "LinkAudit$Resolver") (hkk : Kk D cI cL cG cZ s) (hD : ∀ M, va_D (c_A ad) (c_ws cI cL cG cZ ad M)) (hrest : (rest.map fun v => v.category).sum ≤ 8) (hR : 44 + 1 ≤ R.frames ∧ 8 + (4 + 11) + 1179 ≤ R.locals) (hcs : cells + 0 ≤ R.cells ∧ slots + 0 ≤ R.slots) (hc : f_Resolver_verdictOf M a0 = some (r, M1)) (hsz : ls.size = nL) (hP : va_P D vwC (c_ws cI cL cG cZ ad M) H) (hS : va_S (c_A ad) H0 H locs) (hdg : decode cc pc = .ok (.invokevirtual 47, 3))
    (kk : ∀ (H1 : Heap) (locs1 : List Loc), va_P D vwC (c_ws cI cL cG cZ ad M1) H1 → va_S (c_A ad) H0 H1 locs1 → W p l e R s m args below meth c H1 locs1 cells slots Q (F0 m (pc + 3) ls (.int r :: rest))) : W p l e R s m args below meth c H locs cells slots Q (F0 m pc ls (.int a0 :: .ref (ad 7) :: rest)) := by
  have hta := X.2.2.2.2
  exact x_afterI (va_runV (As := [.int a0]) (rest := rest) X (c_Resolver_verdictOf hD hc) ⟨callB_of 1 hta (good_all (L := .code y_Resolver_verdictOf prog_9_method_3_code 4 (some .int) :: ALLW) (List.forall_mem_cons.mpr ⟨wm_523, fun _ h => h⟩)) rfl rfl rfl (hta _ wm_8) (hta _ wm_690) (by decide +kernel) hR, hta _ wm_521, hta _ wm_522⟩ ⟨x_blind Kk_w _, va_recv hkk.1 hP (ci := 7) (q0 := 7) rfl c_c7, x_pre Kk_w hkk hP _⟩ rfl rfl hsz rfl (lv_room hrest) hdg hcs) hS kk
set_option maxHeartbeats 4000000 in
set_option maxRecDepth 100000 in
theorem c_Resolver_codeCount {l : Launch} {D : va_G} {cI cL cG cZ : ClassId} {ad : Nat → Nat} {M M' : Mem} {r : Int32} (hD : ∀ M, va_D (c_A ad) (c_ws cI cL cG cZ ad M)) (hf : f_Resolver_codeCount M = some (r, M')) : Mi l y_Resolver_codeCount (.code y_Resolver_codeCount prog_9_method_2_code 3 (some .int) :: ALLW) (rmR 45 1202) (Kk D cI cL cG cZ) D vwC (c_A ad) (c_ws cI cL cG cZ ad) [.ref (ad 7)] M M' r := by
  refine Mi_of (by decide) (Nat.le_of_ble_eq_true rfl) ?_
  intro p e s m args below meth c ls Q X hkk hret hP hl
  obtain ⟨hx, hb, hml, hown, hta⟩ := id X
  have hKv := hkk.1
  have hS : va_S (c_A ad) s.heap s.heap [] := va_S.rf
  have hl : lv_has ls 3 [(0, .ref (ad 7))] := hl
  have L4 : ∀ (ke32 : Int32 → Mem → Option (Int32 × Mem)), ke32 = (fun y1 M4 => some (y1, M4)) → ∀ (n4 : Nat) (x1 : Int32) (x2 : Int32) (M : Mem) (H : Heap) (locs : List Loc) (ls : Array Slot), f_Resolver_codeCount_L4 ke32 n4 x1 x2 M = some (r, M') → va_P D vwC (c_ws cI cL cG cZ ad M) H → va_S (c_A ad) s.heap H locs → lv_has ls 3 [(0, .ref (ad 7)), (1, .int x1), (2, .int x2)] → W p l e (rmR 45 1202) s m args below meth c H locs 0 0 Q (F0 m 4 ls []) := by
    intro ke32 hke32 n4
    induction n4 with
    | zero => intro x1 x2 M H locs ls hf; exact absurd (show (none : Option _) = some _ from hf) (fun q => by cases q)
    | succ n4 ih4 =>
      intro x1 x2 M H locs ls hf hP hS hl
      rw [f_Resolver_codeCount_L4] at hf
      refine lv_iload_n hx hb d_Resolver_codeCount_4 rfl (lv_at hl 2 rfl) ?_
      refine lv_aload_n hx hb d_Resolver_codeCount_5 rfl (lv_at hl 0 rfl) ?_
      refine xg_Resolver_34 hx hb hta hown hKv hP d_Resolver_codeCount_6 ?_
      refine xg_Resolver_42 hx hb hta hown hKv hP d_Resolver_codeCount_9 ?_
      refine lv_icmp_ge (tgt := 32) hx hb d_Resolver_codeCount_12 (by decide) (fun c1 => ?_) (fun c1 => ?_)
      · have hf := ifp c1 hf
        rw [hke32] at hf
        refine lv_iload_n hx hb d_Resolver_codeCount_32 rfl (lv_at hl 1 rfl) ?_
        exact hret hf hP hS d_Resolver_codeCount_33
      · have hf := ifn c1 hf
        refine lv_aload_n hx hb d_Resolver_codeCount_15 rfl (lv_at hl 0 rfl) ?_
        refine lv_iload_n hx hb d_Resolver_codeCount_16 rfl (lv_at hl 2 rfl) ?_
        obtain ⟨r6, M5, hc2, hf⟩ := bd2_e hf
        refine xvc_Resolver_47 X hkk hD (Nat.le_of_ble_eq_true rfl) ⟨by dsimp only [rmR]; omega, by dsimp only [rmR]; omega⟩ ⟨Nat.zero_le _, Nat.zero_le _⟩ hc2 hl.1 hP hS d_Resolver_codeCount_17 (fun H locs hP hS => ?_)
        refine lv_if_ge (tgt := 26) hx hb d_Resolver_codeCount_20 (by decide) (fun c3 => ?_) (fun c3 => ?_)
        · have hf := ifp c3 hf
          refine lv_iinc (v := (x2 + (1 : Int32))) (lv' := [(2, .int (x2 + (1 : Int32))), (0, .ref (ad 7)), (1, .int x1)]) hx hb d_Resolver_codeCount_26 hl (k := 2) rfl rfl (by decide) rfl (fun ls hl => ?_)
          refine lv_goto (tgt := 4) hx hb d_Resolver_codeCount_29 (by decide) ?_
          exact ih4 x1 (x2 + (1 : Int32)) M5 _ _ _ hf hP hS (lv_sub hl [1, 2, 0] rfl)
        · have hf := ifn c3 hf
          refine lv_iinc (v := (x1 + (1 : Int32))) (lv' := [(1, .int (x1 + (1 : Int32))), (0, .ref (ad 7)), (2, .int x2)]) hx hb d_Resolver_codeCount_23 hl (k := 1) rfl rfl (by decide) rfl (fun ls hl => ?_)
          refine lv_iinc (v := (x2 + (1 : Int32))) (lv' := [(2, .int (x2 + (1 : Int32))), (1, .int (x1 + (1 : Int32))), (0, .ref (ad 7))]) hx hb d_Resolver_codeCount_26 hl (k := 2) rfl rfl (by decide) rfl (fun ls hl => ?_)
          refine lv_goto (tgt := 4) hx hb d_Resolver_codeCount_29 (by decide) ?_
          exact ih4 (x1 + (1 : Int32)) (x2 + (1 : Int32)) M5 _ _ _ hf hP hS (lv_sub hl [2, 1, 0] rfl)
  unfold f_Resolver_codeCount at hf
  refine lv_iconst (v := (0 : Int32)) hx hb d_Resolver_codeCount_0 (by decide) ?_
  refine lv_istore_n (lv' := [(1, .int (0 : Int32)), (0, .ref (ad 7))]) hx hb d_Resolver_codeCount_1 rfl hl (by decide) rfl (fun ls hl => ?_)
  refine lv_iconst (v := (0 : Int32)) hx hb d_Resolver_codeCount_2 (by decide) ?_
  refine lv_istore_n (lv' := [(2, .int (0 : Int32)), (1, .int (0 : Int32)), (0, .ref (ad 7))]) hx hb d_Resolver_codeCount_3 rfl hl (by decide) rfl (fun ls hl => ?_)
  exact L4  _ rfl FU (0 : Int32) (0 : Int32) M _ _ _ hf hP hS (lv_sub hl [2, 1, 0] rfl)
-- LinkAudit.faults
theorem xvc_LinkAudit_183 {p : Program} {l : Launch} {e : Env} {R : Room} {s : State} {m : MethodId} {args : Array Value} {below : List Frame} {meth : Method} {c : Code} {H : Heap} {locs : List Loc} {cells slots : Nat} {Q : State → Prop} {cc : ByteArray} {pc : Nat} {ls : Array Slot} {rest : List Value} {D : va_G} {cI cL cG cZ : ClassId} {ad : Nat → Nat} {M : Mem} {H0 : Heap} {M1 : Mem} {nL : Nat}  {r : Int32} (X : CallFix p m c cc nL s args ALLW "LinkAudit") (hkk : Kk D cI cL cG cZ s) (hD : ∀ M, va_D (c_A ad) (c_ws cI cL cG cZ ad M)) (hrest : (rest.map fun v => v.category).sum ≤ 8) (hR : 45 + 1 ≤ R.frames ∧ 8 + (3 + 11) + 1202 ≤ R.locals) (hcs : cells + 0 ≤ R.cells ∧ slots + 0 ≤ R.slots) (hc : f_Resolver_codeCount M = some (r, M1)) (hsz : ls.size = nL) (hP : va_P D vwC (c_ws cI cL cG cZ ad M) H) (hS : va_S (c_A ad) H0 H locs) (hdg : decode cc pc = .ok (.invokevirtual 183, 3))
    (kk : ∀ (H1 : Heap) (locs1 : List Loc), va_P D vwC (c_ws cI cL cG cZ ad M1) H1 → va_S (c_A ad) H0 H1 locs1 → W p l e R s m args below meth c H1 locs1 cells slots Q (F0 m (pc + 3) ls (.int r :: rest))) : W p l e R s m args below meth c H locs cells slots Q (F0 m pc ls (.ref (ad 7) :: rest)) := by
  have hta := X.2.2.2.2
  exact x_afterI (va_runV (As := []) (rest := rest) X (c_Resolver_codeCount hD hc) ⟨callB_of 0 hta (good_all (L := .code y_Resolver_codeCount prog_9_method_2_code 3 (some .int) :: ALLW) (List.forall_mem_cons.mpr ⟨wm_689, fun _ h => h⟩)) rfl rfl rfl (hta _ wm_8) (hta _ wm_686) (by decide +kernel) hR, hta _ wm_687, hta _ wm_688⟩ ⟨x_blind Kk_w _, va_recv hkk.1 hP (ci := 7) (q0 := 7) rfl c_c7, x_pre Kk_w hkk hP _⟩ rfl rfl hsz rfl (lv_room hrest) hdg hcs) hS kk
set_option maxHeartbeats 4000000 in
set_option maxRecDepth 100000 in
theorem c_LinkAudit_faults {l : Launch} {D : va_G} {cI cL cG cZ : ClassId} {ad : Nat → Nat} {M M' : Mem} {r : Int32} (hD : ∀ M, va_D (c_A ad) (c_ws cI cL cG cZ ad M)) (hf : f_LinkAudit_faults M = some (r, M')) : Mi l y_LinkAudit_faults (.code y_LinkAudit_faults prog_1_method_16_code 1 (some .int) :: ALLW) (rmR 86 2292) (Kk D cI cL cG cZ) D vwC (c_A ad) (c_ws cI cL cG cZ ad) [.ref (ad 0)] M M' r := by
  refine Mi_of (by decide) (Nat.le_of_ble_eq_true rfl) ?_
  intro p e s m args below meth c ls Q X hkk hret hP hl
  obtain ⟨hx, hb, hml, hown, hta⟩ := id X
  have hKv := hkk.1
  have hS : va_S (c_A ad) s.heap s.heap [] := va_S.rf
  have hl : lv_has ls 1 [(0, .ref (ad 0))] := hl
  unfold f_LinkAudit_faults at hf
  refine lv_aload_n hx hb d_LinkAudit_faults_0 rfl (lv_at hl 0 rfl) ?_
  obtain ⟨M6, hc1, hf⟩ := bd1_e hf
  refine xvc_LinkAudit_144 X hkk hD (Nat.le_of_ble_eq_true rfl) ⟨by dsimp only [rmR]; omega, by dsimp only [rmR]; omega⟩ ⟨Nat.zero_le _, Nat.zero_le _⟩ hc1 hl.1 hP hS d_LinkAudit_faults_1 (fun H locs hP hS => ?_)
  refine lv_aload_n hx hb d_LinkAudit_faults_4 rfl (lv_at hl 0 rfl) ?_
  obtain ⟨M7, hc2, hf⟩ := bd1_e hf
  refine xvc_LinkAudit_170 X hkk hD (Nat.le_of_ble_eq_true rfl) ⟨by dsimp only [rmR]; omega, by dsimp only [rmR]; omega⟩ ⟨Nat.zero_le _, Nat.zero_le _⟩ hc2 hl.1 hP hS d_LinkAudit_faults_5 (fun H locs hP hS => ?_)
  refine lv_aload_n hx hb d_LinkAudit_faults_8 rfl (lv_at hl 0 rfl) ?_
  refine xg_LinkAudit_56 hx hb hta hown hKv hP d_LinkAudit_faults_9 ?_
  obtain ⟨r9, M8, hc3, hf⟩ := bd2_e hf
  refine xvc_LinkAudit_183 X hkk hD (Nat.le_of_ble_eq_true rfl) ⟨by dsimp only [rmR]; omega, by dsimp only [rmR]; omega⟩ ⟨Nat.zero_le _, Nat.zero_le _⟩ hc3 hl.1 hP hS d_LinkAudit_faults_12 (fun H locs hP hS => ?_)
  refine lv_aload_n hx hb d_LinkAudit_faults_15 rfl (lv_at hl 0 rfl) ?_
  refine xg_LinkAudit_65 hx hb hta hown hKv hP d_LinkAudit_faults_16 ?_
  obtain ⟨r10, hc4, hf⟩ := bd1_e hf
  refine xvc_LinkAudit_166 X hkk hD (Nat.le_of_ble_eq_true rfl) ⟨by dsimp only [rmR]; omega, by dsimp only [rmR]; omega⟩ ⟨Nat.zero_le _, Nat.zero_le _⟩ hc4 hl.1 hP hS d_LinkAudit_faults_19 (fun H locs hP hS => ?_)
  refine lv_iadd hx hb d_LinkAudit_faults_22 ?_
  refine lv_aload_n hx hb d_LinkAudit_faults_23 rfl (lv_at hl 0 rfl) ?_
  refine xg_LinkAudit_74 hx hb hta hown hKv hP d_LinkAudit_faults_24 ?_
  refine xg_LinkAudit_173 hx hb hta hown hKv hP d_LinkAudit_faults_27 ?_
  refine lv_iadd hx hb d_LinkAudit_faults_30 ?_
  exact hret hf hP hS d_LinkAudit_faults_31
-- LinkAudit.count
set_option maxHeartbeats 4000000 in
set_option maxRecDepth 100000 in
theorem c_LinkAudit_count {l : Launch} {D : va_G} {cI cL cG cZ : ClassId} {ad : Nat → Nat} {M : Mem} {a1 : Int32} {r : Int32} (hD : ∀ M, va_D (c_A ad) (c_ws cI cL cG cZ ad M)) (hf : f_LinkAudit_count M a1 = some r) : Mi l y_LinkAudit_count (.code y_LinkAudit_count prog_1_method_17_code 2 (some .int) :: ALLW) (rmR 0 0) (Kk D cI cL cG cZ) D vwC (c_A ad) (c_ws cI cL cG cZ ad) [.ref (ad 0), .int a1] M M r := by
  refine Mi_ofR (by decide) (Nat.le_of_ble_eq_true rfl) ?_
  intro p e s m args below meth c ls Q X hkk hret hP hl
  obtain ⟨hx, hb, hml, hown, hta⟩ := id X
  have hKv := hkk.1
  have hS : va_S (c_A ad) s.heap s.heap [] := va_S.rf
  have hl : lv_has ls 2 [(0, .ref (ad 0)), (1, .int a1)] := hl
  unfold f_LinkAudit_count at hf
  refine lv_iload_n hx hb d_LinkAudit_count_0 rfl (lv_at hl 1 rfl) ?_
  by_cases c1 : a1 = (0 : Int32)
  · have hf := ifp c1 hf
    refine lv_tableIn (tgt := 28) hx hb d_LinkAudit_count_1 (by rw [c1]; decide) (by rw [c1]; decide) (by rw [c1]; rfl) (by decide) ?_
    refine lv_aload_n hx hb d_LinkAudit_count_28 rfl (lv_at hl 0 rfl) ?_
    refine xg_LinkAudit_19 hx hb hta hown hKv hP d_LinkAudit_count_29 ?_
    refine xg_LinkAudit_115 hx hb hta hown hKv hP d_LinkAudit_count_32 ?_
    exact hret hf hP hS d_LinkAudit_count_35
  have hf := ifn c1 hf
  by_cases c2 : a1 = (1 : Int32)
  · have hf := ifp c2 hf
    refine lv_tableIn (tgt := 36) hx hb d_LinkAudit_count_1 (by rw [c2]; decide) (by rw [c2]; decide) (by rw [c2]; rfl) (by decide) ?_
    refine lv_aload_n hx hb d_LinkAudit_count_36 rfl (lv_at hl 0 rfl) ?_
    refine xg_LinkAudit_26 hx hb hta hown hKv hP d_LinkAudit_count_37 ?_
    refine xg_LinkAudit_186 hx hb hta hown hKv hP d_LinkAudit_count_40 ?_
    exact hret hf hP hS d_LinkAudit_count_43
  have hf := ifn c2 hf
  by_cases c3 : a1 = (2 : Int32)
  · have hf := ifp c3 hf
    refine lv_tableIn (tgt := 44) hx hb d_LinkAudit_count_1 (by rw [c3]; decide) (by rw [c3]; decide) (by rw [c3]; rfl) (by decide) ?_
    refine lv_aload_n hx hb d_LinkAudit_count_44 rfl (lv_at hl 0 rfl) ?_
    refine xg_LinkAudit_33 hx hb hta hown hKv hP d_LinkAudit_count_45 ?_
    refine xg_LinkAudit_139 hx hb hta hown hKv hP d_LinkAudit_count_48 ?_
    exact hret hf hP hS d_LinkAudit_count_51
  have hf := ifn c3 hf
  refine lv_tableOut (tgt := 52) hx hb d_LinkAudit_count_1 (by have := lv_neT (a := 0) c1 rfl; have := lv_neT (a := 1) c2 rfl; have := lv_neT (a := 2) c3 rfl; omega) (by decide) ?_
  refine lv_iconst (v := (-1 : Int32)) hx hb d_LinkAudit_count_52 (by decide) ?_
  exact hret hf hP hS d_LinkAudit_count_53
