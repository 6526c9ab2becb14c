-- LinkAuditModel.specificBody
theorem xvr_LinkAuditModel_153 {p : Program} {l : Launch} {e : Env} {R : Room} {s : State} {m : MethodId} {args : Array Value} {below : List Frame} {meth : Method} {c : Code} {H : Heap} {locs : List Loc} {cells slots : Nat} {Q : State → Prop} {cc : ByteArray} {pc : Nat} {ls : Array Slot} {rest : List Value} {D : va_G} {cI cL cG cZ : ClassId} {ad : Nat → Nat} {M : Mem} {H0 : Heap} {nL : Nat} {a0 : Int32} {a1 : Int32} {a2 : Int32} {a3 : Int32} {a4 : Int32} {r : Int32} (X : CallFix p m c cc nL s args ALLW "LinkAuditModel") (hkk : Kk D cI cL cG cZ s) (hD : ∀ M, va_D (r_A ad) (r_ws cI cL cG cZ ad M)) (hrest : (rest.map fun v => v.category).sum ≤ 8) (hR : 2 + 1 ≤ R.frames ∧ 8 + (7 + 11) + 48 ≤ R.locals) (hcs : cells + 0 ≤ R.cells ∧ slots + 0 ≤ R.slots) (hc : f_LinkAuditModel_mostSpecific M a0 a1 a2 a3 a4 = some r) (hsz : ls.size = nL) (hP : va_P D vwC (r_ws cI cL cG cZ ad M) H) (hS : va_S (r_A ad) H0 H locs) (hdg : decode cc pc = .ok (.invokevirtual 153, 3))
    (kk : ∀ (H1 : Heap) (locs1 : List Loc), va_P D vwC (r_ws cI cL cG cZ ad M) H1 → va_S (r_A ad) H0 H1 locs1 → W p l e R s m args below meth c H1 locs1 cells slots Q (F0 m (pc + 3) ls (.int r :: rest))) : W p l e R s m args below meth c H locs cells slots Q (F0 m pc ls (.int a4 :: .int a3 :: .int a2 :: .int a1 :: .int a0 :: .ref (ad 0) :: rest)) := by
  have hta := X.2.2.2.2
  exact x_afterI (va_runV (As := [.int a0, .int a1, .int a2, .int a3, .int a4]) (rest := rest) X (c_LinkAuditModel_mostSpecific hD hc) ⟨callB_of 5 hta (good_all (L := .code y_LinkAuditModel_mostSpecific prog_12_method_25_code 7 (some .boolean) :: ALLW) (List.forall_mem_cons.mpr ⟨wm_906, fun _ h => h⟩)) rfl rfl rfl (hta _ wm_11) (hta _ wm_903) (by decide +kernel) hR, hta _ wm_905, hta _ wp_40⟩ ⟨x_blind Kk_w _, va_recv hkk.1 hP (ci := 10) (q0 := 0) rfl r_c0, x_pre Kk_w hkk hP _⟩ rfl rfl hsz rfl (lv_room hrest) hdg hcs) hS kk
set_option maxHeartbeats 4000000 in
set_option maxRecDepth 100000 in
theorem c_LinkAuditModel_specificBody {l : Launch} {D : va_G} {cI cL cG cZ : ClassId} {ad : Nat → Nat} {M : Mem} {a1 : Int32} {a2 : Int32} {a3 : Int32} {a4 : Int32} {r : Int32} (hD : ∀ M, va_D (r_A ad) (r_ws cI cL cG cZ ad M)) (hf : f_LinkAuditModel_specificBody M a1 a2 a3 a4 = some r) : Mi l y_LinkAuditModel_specificBody (.code y_LinkAuditModel_specificBody prog_12_method_26_code 7 (some .int) :: ALLW) (rmR 3 74) (Kk D cI cL cG cZ) D vwC (r_A ad) (r_ws cI cL cG cZ ad) [.ref (ad 0), .int a1, .int a2, .int a3, .int a4] M M r := by
  refine Mi_ofR (by decide) (Nat.le_of_ble_eq_true rfl) ?_
  intro p e s m args below meth c ls Q X hkk hret hP hl
  obtain ⟨hx, hb, hml, hown, hta⟩ := id X
  have hKv := hkk.1
  have hS : va_S (r_A ad) s.heap s.heap [] := va_S.rf
  have hl : lv_has ls 7 [(0, .ref (ad 0)), (1, .int a1), (2, .int a2), (3, .int a3), (4, .int a4)] := hl
  have L6 : ∀ (x1 : Int32) (x2 : Int32) (x3 : Int32) (x4 : Int32), ∀ (ke78 : Int32 → Option Int32), ke78 = (fun y5 => some (y5)) → ∀ (n6 : Nat) (x5 : Int32) (x6 : Int32) (H : Heap) (locs : List Loc) (ls : Array Slot), f_LinkAuditModel_specificBody_L6 M x1 x2 x3 x4 ke78 n6 x5 x6 = some r → va_P D vwC (r_ws cI cL cG cZ ad M) H → va_S (r_A ad) s.heap H locs → lv_has ls 7 [(0, .ref (ad 0)), (1, .int x1), (2, .int x2), (3, .int x3), (4, .int x4), (5, .int x5), (6, .int x6)] → W p l e (rmR 3 74) s m args below meth c H locs 0 0 Q (F0 m 6 ls []) := by
    intro x1 x2 x3 x4 ke78 hke78 n6
    induction n6 with
    | zero => intro x5 x6 H locs ls hf; exact absurd (show (none : Option _) = some _ from hf) (fun q => by cases q)
    | succ n6 ih6 =>
      intro x5 x6 H locs ls hf hP hS hl
      rw [f_LinkAuditModel_specificBody_L6] at hf
      refine lv_iload hx hb d_LinkAuditModel_specificBody_6 (lv_at hl 6 rfl) ?_
      refine lv_aload_n hx hb d_LinkAuditModel_specificBody_8 rfl (lv_at hl 0 rfl) ?_
      refine xg_LinkAuditModel_104 hx hb hta hown hKv hP d_LinkAuditModel_specificBody_9 ?_
      refine lv_icmp_gt (tgt := 78) hx hb d_LinkAuditModel_specificBody_12 (by decide) (fun c1 => ?_) (fun c1 => ?_)
      · have hf := ifp c1 hf
        rw [hke78] at hf
        refine lv_iload hx hb d_LinkAuditModel_specificBody_78 (lv_at hl 5 rfl) ?_
        exact hret hf hP hS d_LinkAuditModel_specificBody_80
      · have hf := ifn c1 hf
        refine lv_aload_n hx hb d_LinkAuditModel_specificBody_15 rfl (lv_at hl 0 rfl) ?_
        refine lv_iload_n hx hb d_LinkAuditModel_specificBody_16 rfl (lv_at hl 1 rfl) ?_
        refine lv_iload hx hb d_LinkAuditModel_specificBody_17 (lv_at hl 6 rfl) ?_
        refine lv_iload_n hx hb d_LinkAuditModel_specificBody_19 rfl (lv_at hl 2 rfl) ?_
        refine lv_iload_n hx hb d_LinkAuditModel_specificBody_20 rfl (lv_at hl 3 rfl) ?_
        refine lv_iload hx hb d_LinkAuditModel_specificBody_21 (lv_at hl 4 rfl) ?_
        obtain ⟨r3, hc2, hf⟩ := bd1_e hf
        refine xvr_LinkAuditModel_149 X hkk hD (Nat.le_of_ble_eq_true rfl) ⟨by dsimp only [rmR]; omega, by dsimp only [rmR]; omega⟩ ⟨Nat.zero_le _, Nat.zero_le _⟩ hc2 hl.1 hP hS d_LinkAuditModel_specificBody_23 (fun H locs hP hS => ?_)
        refine lv_if_eq (tgt := 72) hx hb d_LinkAuditModel_specificBody_26 (by decide) (fun c3 => ?_) (fun c3 => ?_)
        · have hf := ifp c3 hf
          refine lv_iinc (v := (x6 + (1 : Int32))) (lv' := [(6, .int (x6 + (1 : Int32))), (0, .ref (ad 0)), (1, .int x1), (2, .int x2), (3, .int x3), (4, .int x4), (5, .int x5)]) hx hb d_LinkAuditModel_specificBody_72 hl (k := 6) rfl rfl (by decide) rfl (fun ls hl => ?_)
          refine lv_goto (tgt := 6) hx hb d_LinkAuditModel_specificBody_75 (by decide) ?_
          exact ih6 x5 (x6 + (1 : Int32)) _ _ _ hf hP hS (lv_sub hl [1, 2, 3, 4, 5, 6, 0] rfl)
        · have hf := ifn c3 hf
          refine lv_aload_n hx hb d_LinkAuditModel_specificBody_29 rfl (lv_at hl 0 rfl) ?_
          refine lv_iload_n hx hb d_LinkAuditModel_specificBody_30 rfl (lv_at hl 1 rfl) ?_
          refine lv_iload hx hb d_LinkAuditModel_specificBody_31 (lv_at hl 6 rfl) ?_
          refine lv_iload_n hx hb d_LinkAuditModel_specificBody_33 rfl (lv_at hl 2 rfl) ?_
          refine lv_iload_n hx hb d_LinkAuditModel_specificBody_34 rfl (lv_at hl 3 rfl) ?_
          refine lv_iload hx hb d_LinkAuditModel_specificBody_35 (lv_at hl 4 rfl) ?_
          obtain ⟨r4, hc4, hf⟩ := bd1_e hf
          refine xvr_LinkAuditModel_153 X hkk hD (Nat.le_of_ble_eq_true rfl) ⟨by dsimp only [rmR]; omega, by dsimp only [rmR]; omega⟩ ⟨Nat.zero_le _, Nat.zero_le _⟩ hc4 hl.1 hP hS d_LinkAuditModel_specificBody_37 (fun H locs hP hS => ?_)
          refine lv_if_eq (tgt := 72) hx hb d_LinkAuditModel_specificBody_40 (by decide) (fun c5 => ?_) (fun c5 => ?_)
          · have hf := ifp c5 hf
            refine lv_iinc (v := (x6 + (1 : Int32))) (lv' := [(6, .int (x6 + (1 : Int32))), (0, .ref (ad 0)), (1, .int x1), (2, .int x2), (3, .int x3), (4, .int x4), (5, .int x5)]) hx hb d_LinkAuditModel_specificBody_72 hl (k := 6) rfl rfl (by decide) rfl (fun ls hl => ?_)
            refine lv_goto (tgt := 6) hx hb d_LinkAuditModel_specificBody_75 (by decide) ?_
            exact ih6 x5 (x6 + (1 : Int32)) _ _ _ hf hP hS (lv_sub hl [1, 2, 3, 4, 5, 6, 0] rfl)
          · have hf := ifn c5 hf
            refine lv_aload_n hx hb d_LinkAuditModel_specificBody_43 rfl (lv_at hl 0 rfl) ?_
            refine xg_LinkAuditModel_50 hx hb hta hown hKv hP d_LinkAuditModel_specificBody_44 ?_
            refine lv_iload hx hb d_LinkAuditModel_specificBody_47 (lv_at hl 6 rfl) ?_
            obtain ⟨g6, hf⟩ := gd_ok hf
            refine x_ild hx hb hKv hP r_c14 g6 d_LinkAuditModel_specificBody_49 ?_
            refine lv_bipush (v := (8 : Int32)) hx hb d_LinkAuditModel_specificBody_50 (by decide) ?_
            refine lv_iand hx hb d_LinkAuditModel_specificBody_52 ?_
            refine lv_if_eq (tgt := 59) hx hb d_LinkAuditModel_specificBody_53 (by decide) (fun c7 => ?_) (fun c7 => ?_)
            · have hf := ifp c7 hf
              refine lv_iload hx hb d_LinkAuditModel_specificBody_59 (lv_at hl 5 rfl) ?_
              refine lv_if_ne (tgt := 69) hx hb d_LinkAuditModel_specificBody_61 (by decide) (fun c8 => ?_) (fun c8 => ?_)
              · have hf := ifn c8 hf
                refine lv_iconst (v := (-1 : Int32)) hx hb d_LinkAuditModel_specificBody_69 (by decide) ?_
                refine lv_istore (lv' := [(5, .int (-1 : Int32)), (0, .ref (ad 0)), (1, .int x1), (2, .int x2), (3, .int x3), (4, .int x4), (6, .int x6)]) hx hb d_LinkAuditModel_specificBody_70 hl (by decide) rfl (fun ls hl => ?_)
                refine lv_iinc (v := (x6 + (1 : Int32))) (lv' := [(6, .int (x6 + (1 : Int32))), (5, .int (-1 : Int32)), (0, .ref (ad 0)), (1, .int x1), (2, .int x2), (3, .int x3), (4, .int x4)]) hx hb d_LinkAuditModel_specificBody_72 hl (k := 6) rfl rfl (by decide) rfl (fun ls hl => ?_)
                refine lv_goto (tgt := 6) hx hb d_LinkAuditModel_specificBody_75 (by decide) ?_
                exact ih6 (-1 : Int32) (x6 + (1 : Int32)) _ _ _ hf hP hS (lv_sub hl [2, 3, 4, 5, 6, 1, 0] rfl)
              · have hf := ifp c8 hf
                refine lv_iload hx hb d_LinkAuditModel_specificBody_64 (lv_at hl 6 rfl) ?_
                refine lv_goto (tgt := 70) hx hb d_LinkAuditModel_specificBody_66 (by decide) ?_
                refine lv_istore (lv' := [(5, .int x6), (0, .ref (ad 0)), (1, .int x1), (2, .int x2), (3, .int x3), (4, .int x4), (6, .int x6)]) hx hb d_LinkAuditModel_specificBody_70 hl (by decide) rfl (fun ls hl => ?_)
                refine lv_iinc (v := (x6 + (1 : Int32))) (lv' := [(6, .int (x6 + (1 : Int32))), (5, .int x6), (0, .ref (ad 0)), (1, .int x1), (2, .int x2), (3, .int x3), (4, .int x4)]) hx hb d_LinkAuditModel_specificBody_72 hl (k := 6) rfl rfl (by decide) rfl (fun ls hl => ?_)
                refine lv_goto (tgt := 6) hx hb d_LinkAuditModel_specificBody_75 (by decide) ?_
                exact ih6 x6 (x6 + (1 : Int32)) _ _ _ hf hP hS (lv_sub hl [2, 3, 4, 5, 6, 1, 0] rfl)
            · have hf := ifn c7 hf
              refine lv_goto (tgt := 72) hx hb d_LinkAuditModel_specificBody_56 (by decide) ?_
              refine lv_iinc (v := (x6 + (1 : Int32))) (lv' := [(6, .int (x6 + (1 : Int32))), (0, .ref (ad 0)), (1, .int x1), (2, .int x2), (3, .int x3), (4, .int x4), (5, .int x5)]) hx hb d_LinkAuditModel_specificBody_72 hl (k := 6) rfl rfl (by decide) rfl (fun ls hl => ?_)
              refine lv_goto (tgt := 6) hx hb d_LinkAuditModel_specificBody_75 (by decide) ?_
              exact ih6 x5 (x6 + (1 : Int32)) _ _ _ hf hP hS (lv_sub hl [1, 2, 3, 4, 5, 6, 0] rfl)
  unfold f_LinkAuditModel_specificBody at hf
  refine lv_iconst (v := (0 : Int32)) hx hb d_LinkAuditModel_specificBody_0 (by decide) ?_
  refine lv_istore (lv' := [(5, .int (0 : Int32)), (0, .ref (ad 0)), (1, .int a1), (2, .int a2), (3, .int a3), (4, .int a4)]) hx hb d_LinkAuditModel_specificBody_1 hl (by decide) rfl (fun ls hl => ?_)
  refine lv_iconst (v := (1 : Int32)) hx hb d_LinkAuditModel_specificBody_3 (by decide) ?_
  refine lv_istore (lv' := [(6, .int (1 : Int32)), (5, .int (0 : Int32)), (0, .ref (ad 0)), (1, .int a1), (2, .int a2), (3, .int a3), (4, .int a4)]) hx hb d_LinkAuditModel_specificBody_4 hl (by decide) rfl (fun ls hl => ?_)
  exact L6 a1 a2 a3 a4 _ rfl FU (0 : Int32) (1 : Int32) _ _ _ hf hP hS (lv_sub hl [2, 3, 4, 5, 6, 1, 0] rfl)
-- LinkAuditModel.findMethod
theorem xvr_LinkAuditModel_156 {p : Program} {l : Launch} {e : Env} {R : Room} {s : State} {m : MethodId} {args : Array Value} {below : List Frame} {meth : Method} {c : Code} {H : Heap} {locs : List Loc} {cells slots : Nat} {Q : State → Prop} {cc : ByteArray} {pc : Nat} {ls : Array Slot} {rest : List Value} {D : va_G} {cI cL cG cZ : ClassId} {ad : Nat → Nat} {M : Mem} {H0 : Heap} {nL : Nat} {a0 : Int32} {a1 : Int32} {a2 : Int32} {a3 : Int32} {r : Int32} (X : CallFix p m c cc nL s args ALLW "LinkAuditModel") (hkk : Kk D cI cL cG cZ s) (hD : ∀ M, va_D (r_A ad) (r_ws cI cL cG cZ ad M)) (hrest : (rest.map fun v => v.category).sum ≤ 8) (hR : 3 + 1 ≤ R.frames ∧ 8 + (7 + 11) + 74 ≤ R.locals) (hcs : cells + 0 ≤ R.cells ∧ slots + 0 ≤ R.slots) (hc : f_LinkAuditModel_specificBody M a0 a1 a2 a3 = some r) (hsz : ls.size = nL) (hP : va_P D vwC (r_ws cI cL cG cZ ad M) H) (hS : va_S (r_A ad) H0 H locs) (hdg : decode cc pc = .ok (.invokevirtual 156, 3))
    (kk : ∀ (H1 : Heap) (locs1 : List Loc), va_P D vwC (r_ws cI cL cG cZ ad M) H1 → va_S (r_A ad) H0 H1 locs1 → W p l e R s m args below meth c H1 locs1 cells slots Q (F0 m (pc + 3) ls (.int r :: rest))) : W p l e R s m args below meth c H locs cells slots Q (F0 m pc ls (.int a3 :: .int a2 :: .int a1 :: .int a0 :: .ref (ad 0) :: rest)) := by
  have hta := X.2.2.2.2
  exact x_afterI (va_runV (As := [.int a0, .int a1, .int a2, .int a3]) (rest := rest) X (c_LinkAuditModel_specificBody hD hc) ⟨callB_of 4 hta (good_all (L := .code y_LinkAuditModel_specificBody prog_12_method_26_code 7 (some .int) :: ALLW) (List.forall_mem_cons.mpr ⟨wm_894, fun _ h => h⟩)) rfl rfl rfl (hta _ wm_11) (hta _ wm_891) (by decide +kernel) hR, hta _ wm_893, hta _ wp_37⟩ ⟨x_blind Kk_w _, va_recv hkk.1 hP (ci := 10) (q0 := 0) rfl r_c0, x_pre Kk_w hkk hP _⟩ rfl rfl hsz rfl (lv_room hrest) hdg hcs) hS kk
set_option maxHeartbeats 4000000 in
set_option maxRecDepth 100000 in
theorem c_LinkAuditModel_findMethod {l : Launch} {D : va_G} {cI cL cG cZ : ClassId} {ad : Nat → Nat} {M : Mem} {a1 : Int32} {a2 : Int32} {a3 : Int32} {a4 : Int32} {r : Int32} (hD : ∀ M, va_D (r_A ad) (r_ws cI cL cG cZ ad M)) (hf : f_LinkAuditModel_findMethod M a1 a2 a3 a4 = some r) : Mi l y_LinkAuditModel_findMethod (.code y_LinkAuditModel_findMethod prog_12_method_27_code 8 (some .int) :: ALLW) (rmR 4 100) (Kk D cI cL cG cZ) D vwC (r_A ad) (r_ws cI cL cG cZ ad) [.ref (ad 0), .int a1, .int a2, .int a3, .int a4] M M r := by
  refine Mi_ofR (by decide) (Nat.le_of_ble_eq_true rfl) ?_
  intro p e s m args below meth c ls Q X hkk hret hP hl
  obtain ⟨hx, hb, hml, hown, hta⟩ := id X
  have hKv := hkk.1
  have hS : va_S (r_A ad) s.heap s.heap [] := va_S.rf
  have hl : lv_has ls 8 [(0, .ref (ad 0)), (1, .int a1), (2, .int a2), (3, .int a3), (4, .int a4)] := hl
  have L63 : ∀ (x1 : Int32) (x2 : Int32) (x3 : Int32) (x4 : Int32), ∀ (ke86 : Int32 → Option Int32), ke86 = (fun y7 => some (y7)) → ∀ (ke95 : Option Int32), ke95 = (some ((0 : Int32))) → ∀ (n63 : Nat) (x7 : Int32) (H : Heap) (locs : List Loc) (ls : Array Slot), f_LinkAuditModel_findMethod_L63 M x1 x2 x3 x4 ke86 ke95 n63 x7 = some r → va_P D vwC (r_ws cI cL cG cZ ad M) H → va_S (r_A ad) s.heap H locs → lv_has ls 8 [(0, .ref (ad 0)), (1, .int x1), (2, .int x2), (3, .int x3), (4, .int x4), (7, .int x7)] → W p l e (rmR 4 100) s m args below meth c H locs 0 0 Q (F0 m 63 ls []) := by
    intro x1 x2 x3 x4 ke86 hke86 ke95 hke95 n63
    induction n63 with
    | zero => intro x7 H locs ls hf; exact absurd (show (none : Option _) = some _ from hf) (fun q => by cases q)
    | succ n63 ih63 =>
      intro x7 H locs ls hf hP hS hl
      rw [f_LinkAuditModel_findMethod_L63] at hf
      refine lv_iload hx hb d_LinkAuditModel_findMethod_63 (lv_at hl 5 rfl) ?_
      refine lv_aload_n hx hb d_LinkAuditModel_findMethod_65 rfl (lv_at hl 0 rfl) ?_
      refine xg_LinkAuditModel_104 hx hb hta hown hKv hP d_LinkAuditModel_findMethod_66 ?_
      refine lv_icmp_gt (tgt := 95) hx hb d_LinkAuditModel_findMethod_69 (by decide) (fun c1 => ?_) (fun c1 => ?_)
      · have hf := ifp c1 hf
        rw [hke95] at hf
        refine lv_iconst (v := (0 : Int32)) hx hb d_LinkAuditModel_findMethod_95 (by decide) ?_
        exact hret hf hP hS d_LinkAuditModel_findMethod_96
      · have hf := ifn c1 hf
        refine lv_aload_n hx hb d_LinkAuditModel_findMethod_72 rfl (lv_at hl 0 rfl) ?_
        refine lv_iload_n hx hb d_LinkAuditModel_findMethod_73 rfl (lv_at hl 1 rfl) ?_
        refine lv_iload hx hb d_LinkAuditModel_findMethod_74 (lv_at hl 5 rfl) ?_
        refine lv_iload_n hx hb d_LinkAuditModel_findMethod_76 rfl (lv_at hl 2 rfl) ?_
        refine lv_iload_n hx hb d_LinkAuditModel_findMethod_77 rfl (lv_at hl 3 rfl) ?_
        refine lv_iload hx hb d_LinkAuditModel_findMethod_78 (lv_at hl 4 rfl) ?_
        obtain ⟨r4, hc2, hf⟩ := bd1_e hf
        refine xvr_LinkAuditModel_149 X hkk hD (Nat.le_of_ble_eq_true rfl) ⟨by dsimp only [rmR]; omega, by dsimp only [rmR]; omega⟩ ⟨Nat.zero_le _, Nat.zero_le _⟩ hc2 hl.1 hP hS d_LinkAuditModel_findMethod_80 (fun H locs hP hS => ?_)
        refine lv_if_eq (tgt := 89) hx hb d_LinkAuditModel_findMethod_83 (by decide) (fun c3 => ?_) (fun c3 => ?_)
        · have hf := ifp c3 hf
          refine lv_iinc (v := (x7 + (1 : Int32))) (lv' := [(7, .int (x7 + (1 : Int32))), (0, .ref (ad 0)), (1, .int x1), (2, .int x2), (3, .int x3), (4, .int x4)]) hx hb d_LinkAuditModel_findMethod_89 hl (k := 5) rfl rfl (by decide) rfl (fun ls hl => ?_)
          refine lv_goto (tgt := 63) hx hb d_LinkAuditModel_findMethod_92 (by decide) ?_
          exact ih63 (x7 + (1 : Int32)) _ _ _ hf hP hS (lv_sub hl [1, 2, 3, 4, 5, 0] rfl)
        · have hf := ifn c3 hf
          rw [hke86] at hf
          refine lv_iload hx hb d_LinkAuditModel_findMethod_86 (lv_at hl 5 rfl) ?_
          exact hret hf hP hS d_LinkAuditModel_findMethod_88
  have L3 : ∀ (x1 : Int32) (x2 : Int32) (x3 : Int32) (x4 : Int32), ∀ (ke26 : Int32 → Option Int32), ke26 = (fun y6 => some (y6)) → ∀ (ke41 : Option Int32), ke41 = (bd1 (f_LinkAuditModel_specificBody M x1 x2 x3 x4) (fun r5 => if r5 ≤ 0 then f_LinkAuditModel_findMethod_L63 M x1 x2 x3 x4 (fun y7 => some (y7)) (some ((0 : Int32))) FU (1 : Int32) else some (r5))) → ∀ (n3 : Nat) (x5 : Int32) (H : Heap) (locs : List Loc) (ls : Array Slot), f_LinkAuditModel_findMethod_L3 M x1 x2 x3 x4 ke26 ke41 n3 x5 = some r → va_P D vwC (r_ws cI cL cG cZ ad M) H → va_S (r_A ad) s.heap H locs → lv_has ls 8 [(0, .ref (ad 0)), (1, .int x1), (2, .int x2), (3, .int x3), (4, .int x4), (5, .int x5)] → W p l e (rmR 4 100) s m args below meth c H locs 0 0 Q (F0 m 3 ls []) := by
    intro x1 x2 x3 x4 ke26 hke26 ke41 hke41 n3
    induction n3 with
    | zero => intro x5 H locs ls hf; exact absurd (show (none : Option _) = some _ from hf) (fun q => by cases q)
    | succ n3 ih3 =>
      intro x5 H locs ls hf hP hS hl
      rw [f_LinkAuditModel_findMethod_L3] at hf
      refine lv_iload hx hb d_LinkAuditModel_findMethod_3 (lv_at hl 5 rfl) ?_
      refine lv_if_le (tgt := 41) hx hb d_LinkAuditModel_findMethod_5 (by decide) (fun c4 => ?_) (fun c4 => ?_)
      · have hf := ifp c4 hf
        rw [hke41] at hf
        refine lv_aload_n hx hb d_LinkAuditModel_findMethod_41 rfl (lv_at hl 0 rfl) ?_
        refine lv_iload_n hx hb d_LinkAuditModel_findMethod_42 rfl (lv_at hl 1 rfl) ?_
        refine lv_iload_n hx hb d_LinkAuditModel_findMethod_43 rfl (lv_at hl 2 rfl) ?_
        refine lv_iload_n hx hb d_LinkAuditModel_findMethod_44 rfl (lv_at hl 3 rfl) ?_
        refine lv_iload hx hb d_LinkAuditModel_findMethod_45 (lv_at hl 4 rfl) ?_
        obtain ⟨r6, hc5, hf⟩ := bd1_e hf
        refine xvr_LinkAuditModel_156 X hkk hD (Nat.le_of_ble_eq_true rfl) ⟨by dsimp only [rmR]; omega, by dsimp only [rmR]; omega⟩ ⟨Nat.zero_le _, Nat.zero_le _⟩ hc5 hl.1 hP hS d_LinkAuditModel_findMethod_47 (fun H locs hP hS => ?_)
        refine lv_istore (lv' := [(6, .int r6), (0, .ref (ad 0)), (1, .int x1), (2, .int x2), (3, .int x3), (4, .int x4), (5, .int x5)]) hx hb d_LinkAuditModel_findMethod_50 hl (by decide) rfl (fun ls hl => ?_)
        refine lv_iload hx hb d_LinkAuditModel_findMethod_52 (lv_at hl 0 rfl) ?_
        refine lv_if_le (tgt := 60) hx hb d_LinkAuditModel_findMethod_54 (by decide) (fun c6 => ?_) (fun c6 => ?_)
        · have hf := ifp c6 hf
          refine lv_iconst (v := (1 : Int32)) hx hb d_LinkAuditModel_findMethod_60 (by decide) ?_
          refine lv_istore (lv' := [(7, .int (1 : Int32)), (6, .int r6), (0, .ref (ad 0)), (1, .int x1), (2, .int x2), (3, .int x3), (4, .int x4), (5, .int x5)]) hx hb d_LinkAuditModel_findMethod_61 hl (by decide) rfl (fun ls hl => ?_)
          exact L63 x1 x2 x3 x4 _ rfl _ rfl FU (1 : Int32) _ _ _ hf hP hS (lv_sub hl [2, 3, 4, 5, 6, 0] rfl)
        · have hf := ifn c6 hf
          refine lv_iload hx hb d_LinkAuditModel_findMethod_57 (lv_at hl 0 rfl) ?_
          exact hret hf hP hS d_LinkAuditModel_findMethod_59
      · have hf := ifn c4 hf
        refine lv_aload_n hx hb d_LinkAuditModel_findMethod_8 rfl (lv_at hl 0 rfl) ?_
        refine lv_iload hx hb d_LinkAuditModel_findMethod_9 (lv_at hl 5 rfl) ?_
        refine lv_iconst (v := (1 : Int32)) hx hb d_LinkAuditModel_findMethod_11 (by decide) ?_
        refine lv_iload_n hx hb d_LinkAuditModel_findMethod_12 rfl (lv_at hl 2 rfl) ?_
        refine lv_iload_n hx hb d_LinkAuditModel_findMethod_13 rfl (lv_at hl 3 rfl) ?_
        refine lv_iload hx hb d_LinkAuditModel_findMethod_14 (lv_at hl 4 rfl) ?_
        obtain ⟨r7, hc7, hf⟩ := bd1_e hf
        refine xvr_LinkAuditModel_142 X hkk hD (Nat.le_of_ble_eq_true rfl) ⟨by dsimp only [rmR]; omega, by dsimp only [rmR]; omega⟩ ⟨Nat.zero_le _, Nat.zero_le _⟩ hc7 hl.1 hP hS d_LinkAuditModel_findMethod_16 (fun H locs hP hS => ?_)
        refine lv_istore (lv' := [(6, .int r7), (0, .ref (ad 0)), (1, .int x1), (2, .int x2), (3, .int x3), (4, .int x4), (5, .int x5)]) hx hb d_LinkAuditModel_findMethod_19 hl (by decide) rfl (fun ls hl => ?_)
        refine lv_iload hx hb d_LinkAuditModel_findMethod_21 (lv_at hl 0 rfl) ?_
        refine lv_if_le (tgt := 29) hx hb d_LinkAuditModel_findMethod_23 (by decide) (fun c8 => ?_) (fun c8 => ?_)
        · have hf := ifp c8 hf
          refine lv_aload_n hx hb d_LinkAuditModel_findMethod_29 rfl (lv_at hl 1 rfl) ?_
          refine xg_LinkAuditModel_59 hx hb hta hown hKv hP d_LinkAuditModel_findMethod_30 ?_
          refine lv_iload hx hb d_LinkAuditModel_findMethod_33 (lv_at hl 6 rfl) ?_
          obtain ⟨g9, hf⟩ := gd_ok hf
          refine x_ild hx hb hKv hP r_c17 g9 d_LinkAuditModel_findMethod_35 ?_
          refine lv_istore (lv' := [(5, .int (M.1 17 x5.toNatClampNeg)), (6, .int r7), (0, .ref (ad 0)), (1, .int x1), (2, .int x2), (3, .int x3), (4, .int x4)]) hx hb d_LinkAuditModel_findMethod_36 hl (by decide) rfl (fun ls hl => ?_)
          refine lv_goto (tgt := 3) hx hb d_LinkAuditModel_findMethod_38 (by decide) ?_
          exact ih3 (M.1 17 x5.toNatClampNeg) _ _ _ hf hP hS (lv_sub hl [2, 3, 4, 5, 6, 0] rfl)
        · have hf := ifn c8 hf
          rw [hke26] at hf
          refine lv_iload hx hb d_LinkAuditModel_findMethod_26 (lv_at hl 0 rfl) ?_
          exact hret hf hP hS d_LinkAuditModel_findMethod_28
  unfold f_LinkAuditModel_findMethod at hf
  refine lv_iload_n hx hb d_LinkAuditModel_findMethod_0 rfl (lv_at hl 1 rfl) ?_
  refine lv_istore (lv' := [(5, .int a1), (0, .ref (ad 0)), (1, .int a1), (2, .int a2), (3, .int a3), (4, .int a4)]) hx hb d_LinkAuditModel_findMethod_1 hl (by decide) rfl (fun ls hl => ?_)
  exact L3 a1 a2 a3 a4 _ rfl _ rfl FU a1 _ _ _ hf hP hS (lv_sub hl [1, 2, 3, 4, 5, 0] rfl)
-- LinkAuditModel.isSub
set_option maxHeartbeats 4000000 in
set_option maxRecDepth 100000 in
theorem c_LinkAuditModel_isSub {l : Launch} {D : va_G} {cI cL cG cZ : ClassId} {ad : Nat → Nat} {M : Mem} {a1 : Int32} {a2 : Int32} {r : Int32} (hD : ∀ M, va_D (r_A ad) (r_ws cI cL cG cZ ad M)) (hf : f_LinkAuditModel_isSub M a1 a2 = some r) : Mi l y_LinkAuditModel_isSub (.code y_LinkAuditModel_isSub prog_12_method_19_code 3 (some .boolean) :: ALLW) (rmR 0 0) (Kk D cI cL cG cZ) D vwC (r_A ad) (r_ws cI cL cG cZ ad) [.ref (ad 0), .int a1, .int a2] M M r := by
  refine Mz_ofR (by decide) (Nat.le_of_ble_eq_true rfl) ?_
  intro p e s m args below meth c ls Q X hkk hret hP hl
  obtain ⟨hx, hb, hml, hown, hta⟩ := id X
  have hKv := hkk.1
  have hS : va_S (r_A ad) s.heap s.heap [] := va_S.rf
  have hl : lv_has ls 3 [(0, .ref (ad 0)), (1, .int a1), (2, .int a2)] := hl
  unfold f_LinkAuditModel_isSub at hf
  refine lv_aload_n hx hb d_LinkAuditModel_isSub_0 rfl (lv_at hl 0 rfl) ?_
  refine xg_LinkAuditModel_65 hx hb hta hown hKv hP d_LinkAuditModel_isSub_1 ?_
  refine lv_iload_n hx hb d_LinkAuditModel_isSub_4 rfl (lv_at hl 1 rfl) ?_
  obtain ⟨g1, hf⟩ := gd_ok hf
  refine x_ild hx hb hKv hP r_c19 g1 d_LinkAuditModel_isSub_5 ?_
  refine lv_iload_n hx hb d_LinkAuditModel_isSub_6 rfl (lv_at hl 2 rfl) ?_
  refine lv_ishr hx hb d_LinkAuditModel_isSub_7 ?_
  refine lv_iconst (v := (1 : Int32)) hx hb d_LinkAuditModel_isSub_8 (by decide) ?_
  refine lv_iand hx hb d_LinkAuditModel_isSub_9 ?_
  refine lv_if_eq (tgt := 17) hx hb d_LinkAuditModel_isSub_10 (by decide) (fun c2 => ?_) (fun c2 => ?_)
  · have hf := ifp c2 hf
    refine lv_iconst (v := (0 : Int32)) hx hb d_LinkAuditModel_isSub_17 (by decide) ?_
    exact hret (Or.inl rfl) hf hP hS d_LinkAuditModel_isSub_18
  · have hf := ifn c2 hf
    refine lv_iconst (v := (1 : Int32)) hx hb d_LinkAuditModel_isSub_13 (by decide) ?_
    refine lv_goto (tgt := 18) hx hb d_LinkAuditModel_isSub_14 (by decide) ?_
    exact hret (Or.inr rfl) hf hP hS d_LinkAuditModel_isSub_18
-- LinkAuditModel.reaches
theorem xvr_LinkAuditModel_139 {p : Program} {l : Launch} {e : Env} {R : Room} {s : State} {m : MethodId} {args : Array Value} {below : List Frame} {meth : Method} {c : Code} {H : Heap} {locs : List Loc} {cells slots : Nat} {Q : State → Prop} {cc : ByteArray} {pc : Nat} {ls : Array Slot} {rest : List Value} {D : va_G} {cI cL cG cZ : ClassId} {ad : Nat → Nat} {M : Mem} {H0 : Heap} {nL : Nat} {a0 : Int32} {a1 : Int32} {r : Int32} (X : CallFix p m c cc nL s args ALLW "LinkAuditModel") (hkk : Kk D cI cL cG cZ s) (hD : ∀ M, va_D (r_A ad) (r_ws cI cL cG cZ ad M)) (hrest : (rest.map fun v => v.category).sum ≤ 8) (hR : 0 + 1 ≤ R.frames ∧ 8 + (3 + 11) + 0 ≤ R.locals) (hcs : cells + 0 ≤ R.cells ∧ slots + 0 ≤ R.slots) (hc : f_LinkAuditModel_isSub M a0 a1 = some r) (hsz : ls.size = nL) (hP : va_P D vwC (r_ws cI cL cG cZ ad M) H) (hS : va_S (r_A ad) H0 H locs) (hdg : decode cc pc = .ok (.invokevirtual 139, 3))
    (kk : ∀ (H1 : Heap) (locs1 : List Loc), va_P D vwC (r_ws cI cL cG cZ ad M) H1 → va_S (r_A ad) H0 H1 locs1 → W p l e R s m args below meth c H1 locs1 cells slots Q (F0 m (pc + 3) ls (.int r :: rest))) : W p l e R s m args below meth c H locs cells slots Q (F0 m pc ls (.int a1 :: .int a0 :: .ref (ad 0) :: rest)) := by
  have hta := X.2.2.2.2
  exact x_afterI (va_runV (As := [.int a0, .int a1]) (rest := rest) X (c_LinkAuditModel_isSub hD hc) ⟨callB_of 2 hta (good_all (L := .code y_LinkAuditModel_isSub prog_12_method_19_code 3 (some .boolean) :: ALLW) (List.forall_mem_cons.mpr ⟨wm_914, fun _ h => h⟩)) rfl rfl rfl (hta _ wm_11) (hta _ wm_911) (by decide +kernel) hR, hta _ wm_913, hta _ wp_42⟩ ⟨x_blind Kk_w _, va_recv hkk.1 hP (ci := 10) (q0 := 0) rfl r_c0, x_pre Kk_w hkk hP _⟩ rfl rfl hsz rfl (lv_room hrest) hdg hcs) hS kk
set_option maxHeartbeats 4000000 in
set_option maxRecDepth 100000 in
theorem c_LinkAuditModel_reaches {l : Launch} {D : va_G} {cI cL cG cZ : ClassId} {ad : Nat → Nat} {M : Mem} {a1 : Int32} {a2 : Int32} {r : Int32} (hD : ∀ M, va_D (r_A ad) (r_ws cI cL cG cZ ad M)) (hf : f_LinkAuditModel_reaches M a1 a2 = some r) : Mi l y_LinkAuditModel_reaches (.code y_LinkAuditModel_reaches prog_12_method_21_code 4 (some .boolean) :: ALLW) (rmR 1 22) (Kk D cI cL cG cZ) D vwC (r_A ad) (r_ws cI cL cG cZ ad) [.ref (ad 0), .int a1, .int a2] M M r := by
  refine Mz_ofR (by decide) (Nat.le_of_ble_eq_true rfl) ?_
  intro p e s m args below meth c ls Q X hkk hret hP hl
  obtain ⟨hx, hb, hml, hown, hta⟩ := id X
  have hKv := hkk.1
  have hS : va_S (r_A ad) s.heap s.heap [] := va_S.rf
  have hl : lv_has ls 4 [(0, .ref (ad 0)), (1, .int a1), (2, .int a2)] := hl
  unfold f_LinkAuditModel_reaches at hf
  refine lv_aload_n hx hb d_LinkAuditModel_reaches_0 rfl (lv_at hl 0 rfl) ?_
  refine xg_LinkAuditModel_34 hx hb hta hown hKv hP d_LinkAuditModel_reaches_1 ?_
  refine lv_iload_n hx hb d_LinkAuditModel_reaches_4 rfl (lv_at hl 2 rfl) ?_
  obtain ⟨g1, hf⟩ := gd_ok hf
  refine x_ild hx hb hKv hP r_c9 g1 d_LinkAuditModel_reaches_5 ?_
  refine lv_istore_n (lv' := [(3, .int (M.1 9 a2.toNatClampNeg)), (0, .ref (ad 0)), (1, .int a1), (2, .int a2)]) hx hb d_LinkAuditModel_reaches_6 rfl hl (by decide) rfl (fun ls hl => ?_)
  refine lv_aload_n hx hb d_LinkAuditModel_reaches_7 rfl (lv_at hl 1 rfl) ?_
  refine xg_LinkAuditModel_50 hx hb hta hown hKv hP d_LinkAuditModel_reaches_8 ?_
  refine lv_iload_n hx hb d_LinkAuditModel_reaches_11 rfl (lv_at hl 3 rfl) ?_
  obtain ⟨g2, hf⟩ := gd_ok hf
  refine x_ild hx hb hKv hP r_c14 g2 d_LinkAuditModel_reaches_12 ?_
  refine lv_iconst (v := (3 : Int32)) hx hb d_LinkAuditModel_reaches_13 (by decide) ?_
  refine lv_iand hx hb d_LinkAuditModel_reaches_14 ?_
  by_cases c3 : ((M.1 14 a2.toNatClampNeg) &&& (3 : Int32)) = (0 : Int32)
  · have hf := ifp c3 hf
    refine lv_tableIn (tgt := 40) hx hb d_LinkAuditModel_reaches_15 (by rw [c3]; decide) (by rw [c3]; decide) (by rw [c3]; rfl) (by decide) ?_
    refine lv_iconst (v := (1 : Int32)) hx hb d_LinkAuditModel_reaches_40 (by decide) ?_
    exact hret (Or.inr rfl) hf hP hS d_LinkAuditModel_reaches_41
  have hf := ifn c3 hf
  by_cases c4 : ((M.1 14 a2.toNatClampNeg) &&& (3 : Int32)) = (1 : Int32)
  · have hf := ifp c4 hf
    refine lv_tableIn (tgt := 42) hx hb d_LinkAuditModel_reaches_15 (by rw [c4]; decide) (by rw [c4]; decide) (by rw [c4]; rfl) (by decide) ?_
    refine lv_aload_n hx hb d_LinkAuditModel_reaches_42 rfl (lv_at hl 1 rfl) ?_
    refine lv_iload_n hx hb d_LinkAuditModel_reaches_43 rfl (lv_at hl 2 rfl) ?_
    refine lv_iload_n hx hb d_LinkAuditModel_reaches_44 rfl (lv_at hl 0 rfl) ?_
    obtain ⟨r4, hc5, hf⟩ := bd1_e hf
    refine xvr_LinkAuditModel_118 X hkk hD (Nat.le_of_ble_eq_true rfl) ⟨by dsimp only [rmR]; omega, by dsimp only [rmR]; omega⟩ ⟨Nat.zero_le _, Nat.zero_le _⟩ hc5 hl.1 hP hS d_LinkAuditModel_reaches_45 (fun H locs hP hS => ?_)
    refine lv_if_ne (tgt := 60) hx hb d_LinkAuditModel_reaches_48 (by decide) (fun c6 => ?_) (fun c6 => ?_)
    · have hf := ifn c6 hf
      refine lv_iconst (v := (1 : Int32)) hx hb d_LinkAuditModel_reaches_60 (by decide) ?_
      refine lv_goto (tgt := 65) hx hb d_LinkAuditModel_reaches_61 (by decide) ?_
      exact hret (Or.inr rfl) hf hP hS d_LinkAuditModel_reaches_65
    · have hf := ifp c6 hf
      refine lv_aload_n hx hb d_LinkAuditModel_reaches_51 rfl (lv_at hl 1 rfl) ?_
      refine lv_iload_n hx hb d_LinkAuditModel_reaches_52 rfl (lv_at hl 2 rfl) ?_
      refine lv_iload_n hx hb d_LinkAuditModel_reaches_53 rfl (lv_at hl 0 rfl) ?_
      obtain ⟨r5, hc7, hf⟩ := bd1_e hf
      refine xvr_LinkAuditModel_139 X hkk hD (Nat.le_of_ble_eq_true rfl) ⟨by dsimp only [rmR]; omega, by dsimp only [rmR]; omega⟩ ⟨Nat.zero_le _, Nat.zero_le _⟩ hc7 hl.1 hP hS d_LinkAuditModel_reaches_54 (fun H locs hP hS => ?_)
      refine lv_if_eq (tgt := 64) hx hb d_LinkAuditModel_reaches_57 (by decide) (fun c8 => ?_) (fun c8 => ?_)
      · have hf := ifp c8 hf
        refine lv_iconst (v := (0 : Int32)) hx hb d_LinkAuditModel_reaches_64 (by decide) ?_
        exact hret (Or.inl rfl) hf hP hS d_LinkAuditModel_reaches_65
      · have hf := ifn c8 hf
        refine lv_iconst (v := (1 : Int32)) hx hb d_LinkAuditModel_reaches_60 (by decide) ?_
        refine lv_goto (tgt := 65) hx hb d_LinkAuditModel_reaches_61 (by decide) ?_
        exact hret (Or.inr rfl) hf hP hS d_LinkAuditModel_reaches_65
  have hf := ifn c4 hf
  by_cases c9 : ((M.1 14 a2.toNatClampNeg) &&& (3 : Int32)) = (2 : Int32)
  · have hf := ifp c9 hf
    refine lv_tableIn (tgt := 66) hx hb d_LinkAuditModel_reaches_15 (by rw [c9]; decide) (by rw [c9]; decide) (by rw [c9]; rfl) (by decide) ?_
    refine lv_aload_n hx hb d_LinkAuditModel_reaches_66 rfl (lv_at hl 1 rfl) ?_
    refine lv_iload_n hx hb d_LinkAuditModel_reaches_67 rfl (lv_at hl 2 rfl) ?_
    refine lv_iload_n hx hb d_LinkAuditModel_reaches_68 rfl (lv_at hl 0 rfl) ?_
    obtain ⟨r6, hc10, hf⟩ := bd1_e hf
    refine xvr_LinkAuditModel_118 X hkk hD (Nat.le_of_ble_eq_true rfl) ⟨by dsimp only [rmR]; omega, by dsimp only [rmR]; omega⟩ ⟨Nat.zero_le _, Nat.zero_le _⟩ hc10 hl.1 hP hS d_LinkAuditModel_reaches_69 (fun H locs hP hS => ?_)
    obtain ⟨g11, hf⟩ := gd_d hf
    exact hret g11 hf hP hS d_LinkAuditModel_reaches_72
  have hf := ifn c9 hf
  refine lv_tableOut (tgt := 73) hx hb d_LinkAuditModel_reaches_15 (by have := lv_neT (a := 0) c3 rfl; have := lv_neT (a := 1) c4 rfl; have := lv_neT (a := 2) c9 rfl; omega) (by decide) ?_
  refine lv_iload_n hx hb d_LinkAuditModel_reaches_73 rfl (lv_at hl 2 rfl) ?_
  refine lv_iload_n hx hb d_LinkAuditModel_reaches_74 rfl (lv_at hl 0 rfl) ?_
  refine lv_icmp_ne (tgt := 82) hx hb d_LinkAuditModel_reaches_75 (by decide) (fun c12 => ?_) (fun c12 => ?_)
  · have hf := ifn c12 hf
    refine lv_iconst (v := (0 : Int32)) hx hb d_LinkAuditModel_reaches_82 (by decide) ?_
    exact hret (Or.inl rfl) hf hP hS d_LinkAuditModel_reaches_83
  · have hf := ifp c12 hf
    refine lv_iconst (v := (1 : Int32)) hx hb d_LinkAuditModel_reaches_78 (by decide) ?_
    refine lv_goto (tgt := 83) hx hb d_LinkAuditModel_reaches_79 (by decide) ?_
    exact hret (Or.inr rfl) hf hP hS d_LinkAuditModel_reaches_83
-- LinkAuditModel.verdictOf
theorem xvr_LinkAuditModel_166 {p : Program} {l : Launch} {e : Env} {R : Room} {s : State} {m : MethodId} {args : Array Value} {below : List Frame} {meth : Method} {c : Code} {H : Heap} {locs : List Loc} {cells slots : Nat} {Q : State → Prop} {cc : ByteArray} {pc : Nat} {ls : Array Slot} {rest : List Value} {D : va_G} {cI cL cG cZ : ClassId} {ad : Nat → Nat} {M : Mem} {H0 : Heap} {nL : Nat} {a0 : Int32} {a1 : Int32} {r : Int32} (X : CallFix p m c cc nL s args ALLW "LinkAuditModel") (hkk : Kk D cI cL cG cZ s) (hD : ∀ M, va_D (r_A ad) (r_ws cI cL cG cZ ad M)) (hrest : (rest.map fun v => v.category).sum ≤ 8) (hR : 1 + 1 ≤ R.frames ∧ 8 + (4 + 11) + 22 ≤ R.locals) (hcs : cells + 0 ≤ R.cells ∧ slots + 0 ≤ R.slots) (hc : f_LinkAuditModel_reaches M a0 a1 = some r) (hsz : ls.size = nL) (hP : va_P D vwC (r_ws cI cL cG cZ ad M) H) (hS : va_S (r_A ad) H0 H locs) (hdg : decode cc pc = .ok (.invokevirtual 166, 3))
    (kk : ∀ (H1 : Heap) (locs1 : List Loc), va_P D vwC (r_ws cI cL cG cZ ad M) H1 → va_S (r_A ad) H0 H1 locs1 → W p l e R s m args below meth c H1 locs1 cells slots Q (F0 m (pc + 3) ls (.int r :: rest))) : W p l e R s m args below meth c H locs cells slots Q (F0 m pc ls (.int a1 :: .int a0 :: .ref (ad 0) :: rest)) := by
  have hta := X.2.2.2.2
  exact x_afterI (va_runV (As := [.int a0, .int a1]) (rest := rest) X (c_LinkAuditModel_reaches hD hc) ⟨callB_of 2 hta (good_all (L := .code y_LinkAuditModel_reaches prog_12_method_21_code 4 (some .boolean) :: ALLW) (List.forall_mem_cons.mpr ⟨wm_910, fun _ h => h⟩)) rfl rfl rfl (hta _ wm_11) (hta _ wm_907) (by decide +kernel) hR, hta _ wm_909, hta _ wp_41⟩ ⟨x_blind Kk_w _, va_recv hkk.1 hP (ci := 10) (q0 := 0) rfl r_c0, x_pre Kk_w hkk hP _⟩ rfl rfl hsz rfl (lv_room hrest) hdg hcs) hS kk
theorem xvr_LinkAuditModel_163 {p : Program} {l : Launch} {e : Env} {R : Room} {s : State} {m : MethodId} {args : Array Value} {below : List Frame} {meth : Method} {c : Code} {H : Heap} {locs : List Loc} {cells slots : Nat} {Q : State → Prop} {cc : ByteArray} {pc : Nat} {ls : Array Slot} {rest : List Value} {D : va_G} {cI cL cG cZ : ClassId} {ad : Nat → Nat} {M : Mem} {H0 : Heap} {nL : Nat} {a0 : Int32} {a1 : Int32} {a2 : Int32} {a3 : Int32} {r : Int32} (X : CallFix p m c cc nL s args ALLW "LinkAuditModel") (hkk : Kk D cI cL cG cZ s) (hD : ∀ M, va_D (r_A ad) (r_ws cI cL cG cZ ad M)) (hrest : (rest.map fun v => v.category).sum ≤ 8) (hR : 4 + 1 ≤ R.frames ∧ 8 + (8 + 11) + 100 ≤ R.locals) (hcs : cells + 0 ≤ R.cells ∧ slots + 0 ≤ R.slots) (hc : f_LinkAuditModel_findMethod M a0 a1 a2 a3 = some r) (hsz : ls.size = nL) (hP : va_P D vwC (r_ws cI cL cG cZ ad M) H) (hS : va_S (r_A ad) H0 H locs) (hdg : decode cc pc = .ok (.invokevirtual 163, 3))
    (kk : ∀ (H1 : Heap) (locs1 : List Loc), va_P D vwC (r_ws cI cL cG cZ ad M) H1 → va_S (r_A ad) H0 H1 locs1 → W p l e R s m args below meth c H1 locs1 cells slots Q (F0 m (pc + 3) ls (.int r :: rest))) : W p l e R s m args below meth c H locs cells slots Q (F0 m pc ls (.int a3 :: .int a2 :: .int a1 :: .int a0 :: .ref (ad 0) :: rest)) := by
  have hta := X.2.2.2.2
  exact x_afterI (va_runV (As := [.int a0, .int a1, .int a2, .int a3]) (rest := rest) X (c_LinkAuditModel_findMethod hD hc) ⟨callB_of 4 hta (good_all (L := .code y_LinkAuditModel_findMethod prog_12_method_27_code 8 (some .int) :: ALLW) (List.forall_mem_cons.mpr ⟨wm_890, fun _ h => h⟩)) rfl rfl rfl (hta _ wm_11) (hta _ wm_887) (by decide +kernel) hR, hta _ wm_889, hta _ wp_36⟩ ⟨x_blind Kk_w _, va_recv hkk.1 hP (ci := 10) (q0 := 0) rfl r_c0, x_pre Kk_w hkk hP _⟩ rfl rfl hsz rfl (lv_room hrest) hdg hcs) hS kk
theorem xvr_LinkAuditModel_160 {p : Program} {l : Launch} {e : Env} {R : Room} {s : State} {m : MethodId} {args : Array Value} {below : List Frame} {meth : Method} {c : Code} {H : Heap} {locs : List Loc} {cells slots : Nat} {Q : State → Prop} {cc : ByteArray} {pc : Nat} {ls : Array Slot} {rest : List Value} {D : va_G} {cI cL cG cZ : ClassId} {ad : Nat → Nat} {M : Mem} {H0 : Heap} {M1 : Mem} {nL : Nat} {a0 : Int32} {a1 : Int32} {a2 : Int32} {r : Int32} (X : CallFix p m c cc nL s args ALLW "LinkAuditModel") (hkk : Kk D cI cL cG cZ s) (hD : ∀ M, va_D (r_A ad) (r_ws cI cL cG cZ ad M)) (hrest : (rest.map fun v => v.category).sum ≤ 8) (hR : 2 + 1 ≤ R.frames ∧ 8 + (9 + 11) + 47 ≤ R.locals) (hcs : cells + 0 ≤ R.cells ∧ slots + 0 ≤ R.slots) (hc : f_LinkAuditModel_findField M a0 a1 a2 = some (r, M1)) (hsz : ls.size = nL) (hP : va_P D vwC (r_ws cI cL cG cZ ad M) H) (hS : va_S (r_A ad) H0 H locs) (hdg : decode cc pc = .ok (.invokevirtual 160, 3))
    (kk : ∀ (H1 : Heap) (locs1 : List Loc), va_P D vwC (r_ws cI cL cG cZ ad M1) H1 → va_S (r_A ad) H0 H1 locs1 → W p l e R s m args below meth c H1 locs1 cells slots Q (F0 m (pc + 3) ls (.int r :: rest))) : W p l e R s m args below meth c H locs cells slots Q (F0 m pc ls (.int a2 :: .int a1 :: .int a0 :: .ref (ad 0) :: rest)) := by
  have hta := X.2.2.2.2
  exact x_afterI (va_runV (As := [.int a0, .int a1, .int a2]) (rest := rest) X (c_LinkAuditModel_findField hD hc) ⟨callB_of 3 hta (good_all (L := .code y_LinkAuditModel_findField prog_12_method_23_code 9 (some .int) :: ALLW) (List.forall_mem_cons.mpr ⟨wm_882, fun _ h => h⟩)) rfl rfl rfl (hta _ wm_11) (hta _ wm_879) (by decide +kernel) hR, hta _ wm_881, hta _ wp_34⟩ ⟨x_blind Kk_w _, va_recv hkk.1 hP (ci := 10) (q0 := 0) rfl r_c0, x_pre Kk_w hkk hP _⟩ rfl rfl hsz rfl (lv_room hrest) hdg hcs) hS kk
set_option maxHeartbeats 4000000 in
set_option maxRecDepth 100000 in
theorem c_LinkAuditModel_verdictOf {l : Launch} {D : va_G} {cI cL cG cZ : ClassId} {ad : Nat → Nat} {M M' : Mem} {a1 : Int32} {r : Int32} (hD : ∀ M, va_D (r_A ad) (r_ws cI cL cG cZ ad M)) (hf : f_LinkAuditModel_verdictOf M a1 = some (r, M')) : Mi l y_LinkAuditModel_verdictOf (.code y_LinkAuditModel_verdictOf prog_12_method_28_code 9 (some .int) :: ALLW) (rmR 5 127) (Kk D cI cL cG cZ) D vwC (r_A ad) (r_ws cI cL cG cZ ad) [.ref (ad 0), .int a1] M M' r := by
  refine Mi_of (by decide) (Nat.le_of_ble_eq_true rfl) ?_
  intro p e s m args below meth c ls Q X hkk hret hP hl
  obtain ⟨hx, hb, hml, hown, hta⟩ := id X
  have hKv := hkk.1
  have hS : va_S (r_A ad) s.heap s.heap [] := va_S.rf
  have hl : lv_has ls 9 [(0, .ref (ad 0)), (1, .int a1)] := hl
  have b275 : ∀ (M : Mem) (x7 : Int32) (t0 : Int32) (t1 : Int32) (H : Heap) (locs : List Loc) (ls : Array Slot), f_LinkAuditModel_verdictOf_b275 M x7 t0 t1 = some (r, M') → va_P D vwC (r_ws cI cL cG cZ ad M) H → va_S (r_A ad) s.heap H locs → lv_has ls 9 [(7, .int x7)] → W p l e (rmR 5 127) s m args below meth c H locs 0 0 Q (F0 m 275 ls [.int t1, .int t0]) := by
    intro M x7 t0 t1 H locs ls hf hP hS hl
    unfold f_LinkAuditModel_verdictOf_b275 at hf
    refine lv_icmp_ne (tgt := 283) hx hb d_LinkAuditModel_verdictOf_275 (by decide) (fun c1 => ?_) (fun c1 => ?_)
    · have hf := ifn c1 hf
      refine lv_bipush (v := (-5 : Int32)) hx hb d_LinkAuditModel_verdictOf_283 (by decide) ?_
      exact hret hf hP hS d_LinkAuditModel_verdictOf_285
    · have hf := ifp c1 hf
      refine lv_iload hx hb d_LinkAuditModel_verdictOf_278 (lv_at hl 0 rfl) ?_
      refine lv_goto (tgt := 285) hx hb d_LinkAuditModel_verdictOf_280 (by decide) ?_
      exact hret hf hP hS d_LinkAuditModel_verdictOf_285
  have b254 : ∀ (M : Mem) (x7 : Int32) (t0 : Int32) (H : Heap) (locs : List Loc) (ls : Array Slot), f_LinkAuditModel_verdictOf_b254 M x7 t0 = some (r, M') → va_P D vwC (r_ws cI cL cG cZ ad M) H → va_S (r_A ad) s.heap H locs → lv_has ls 9 [(0, .ref (ad 0)), (7, .int x7)] → W p l e (rmR 5 127) s m args below meth c H locs 0 0 Q (F0 m 254 ls [.int t0]) := by
    intro M x7 t0 H locs ls hf hP hS hl
    unfold f_LinkAuditModel_verdictOf_b254 at hf
    refine lv_istore (lv' := [(8, .int t0), (0, .ref (ad 0)), (7, .int x7)]) hx hb d_LinkAuditModel_verdictOf_254 hl (by decide) rfl (fun ls hl => ?_)
    refine lv_iload hx hb d_LinkAuditModel_verdictOf_256 (lv_at hl 0 rfl) ?_
    refine lv_aload_n hx hb d_LinkAuditModel_verdictOf_258 rfl (lv_at hl 1 rfl) ?_
    refine xg_LinkAuditModel_50 hx hb hta hown hKv hP d_LinkAuditModel_verdictOf_259 ?_
    refine lv_iload hx hb d_LinkAuditModel_verdictOf_262 (lv_at hl 2 rfl) ?_
    obtain ⟨g2, hf⟩ := gd_ok hf
    refine x_ild hx hb hKv hP r_c14 g2 d_LinkAuditModel_verdictOf_264 ?_
    refine lv_iconst (v := (4 : Int32)) hx hb d_LinkAuditModel_verdictOf_265 (by decide) ?_
    refine lv_iand hx hb d_LinkAuditModel_verdictOf_266 ?_
    refine lv_if_eq (tgt := 274) hx hb d_LinkAuditModel_verdictOf_267 (by decide) (fun c3 => ?_) (fun c3 => ?_)
    · have hf := ifp c3 hf
      refine lv_iconst (v := (0 : Int32)) hx hb d_LinkAuditModel_verdictOf_274 (by decide) ?_
      exact b275 M x7 t0 (0 : Int32) _ _ _ hf hP hS (lv_sub hl [2] rfl)
    · have hf := ifn c3 hf
      refine lv_iconst (v := (1 : Int32)) hx hb d_LinkAuditModel_verdictOf_270 (by decide) ?_
      refine lv_goto (tgt := 275) hx hb d_LinkAuditModel_verdictOf_271 (by decide) ?_
      exact b275 M x7 t0 (1 : Int32) _ _ _ hf hP hS (lv_sub hl [2] rfl)
  have b249 : ∀ (M : Mem) (x7 : Int32) (H : Heap) (locs : List Loc) (ls : Array Slot), f_LinkAuditModel_verdictOf_b249 M x7 = some (r, M') → va_P D vwC (r_ws cI cL cG cZ ad M) H → va_S (r_A ad) s.heap H locs → lv_has ls 9 [(0, .ref (ad 0)), (7, .int x7)] → W p l e (rmR 5 127) s m args below meth c H locs 0 0 Q (F0 m 249 ls []) := by
    intro M x7 H locs ls hf hP hS hl
    unfold f_LinkAuditModel_verdictOf_b249 at hf
    refine lv_iconst (v := (1 : Int32)) hx hb d_LinkAuditModel_verdictOf_249 (by decide) ?_
    refine lv_goto (tgt := 254) hx hb d_LinkAuditModel_verdictOf_250 (by decide) ?_
    exact b254 M x7 (1 : Int32) _ _ _ hf hP hS (lv_sub hl [0, 1] rfl)
  have b214 : ∀ (M : Mem) (x3 : Int32) (x4 : Int32) (t0 : Int32) (H : Heap) (locs : List Loc) (ls : Array Slot), f_LinkAuditModel_verdictOf_b214 M x3 x4 t0 = some (r, M') → va_P D vwC (r_ws cI cL cG cZ ad M) H → va_S (r_A ad) s.heap H locs → lv_has ls 9 [(0, .ref (ad 0)), (3, .int x3), (4, .int x4)] → W p l e (rmR 5 127) s m args below meth c H locs 0 0 Q (F0 m 214 ls [.int t0]) := by
    intro M x3 x4 t0 H locs ls hf hP hS hl
    unfold f_LinkAuditModel_verdictOf_b214 at hf
    refine lv_istore (lv' := [(7, .int t0), (0, .ref (ad 0)), (3, .int x3), (4, .int x4)]) hx hb d_LinkAuditModel_verdictOf_214 hl (by decide) rfl (fun ls hl => ?_)
    refine lv_iload hx hb d_LinkAuditModel_verdictOf_216 (lv_at hl 0 rfl) ?_
    refine lv_if_ne (tgt := 224) hx hb d_LinkAuditModel_verdictOf_218 (by decide) (fun c4 => ?_) (fun c4 => ?_)
    · have hf := ifn c4 hf
      refine lv_aload_n hx hb d_LinkAuditModel_verdictOf_224 rfl (lv_at hl 1 rfl) ?_
      refine lv_iload_n hx hb d_LinkAuditModel_verdictOf_225 rfl (lv_at hl 2 rfl) ?_
      refine lv_iload hx hb d_LinkAuditModel_verdictOf_226 (lv_at hl 0 rfl) ?_
      obtain ⟨r9, hc5, hf⟩ := bd1_e hf
      refine xvr_LinkAuditModel_166 X hkk hD (Nat.le_of_ble_eq_true rfl) ⟨by dsimp only [rmR]; omega, by dsimp only [rmR]; omega⟩ ⟨Nat.zero_le _, Nat.zero_le _⟩ hc5 hl.1 hP hS d_LinkAuditModel_verdictOf_228 (fun H locs hP hS => ?_)
      refine lv_if_ne (tgt := 237) hx hb d_LinkAuditModel_verdictOf_231 (by decide) (fun c6 => ?_) (fun c6 => ?_)
      · have hf := ifn c6 hf
        refine lv_iload hx hb d_LinkAuditModel_verdictOf_237 (lv_at hl 3 rfl) ?_
        refine lv_iconst (v := (2 : Int32)) hx hb d_LinkAuditModel_verdictOf_239 (by decide) ?_
        refine lv_icmp_eq (tgt := 249) hx hb d_LinkAuditModel_verdictOf_240 (by decide) (fun c7 => ?_) (fun c7 => ?_)
        · have hf := ifp c7 hf
          exact b249 M t0 _ _ _ hf hP hS (lv_sub hl [1, 0] rfl)
        · have hf := ifn c7 hf
          refine lv_iload hx hb d_LinkAuditModel_verdictOf_243 (lv_at hl 3 rfl) ?_
          refine lv_iconst (v := (4 : Int32)) hx hb d_LinkAuditModel_verdictOf_245 (by decide) ?_
          refine lv_icmp_ne (tgt := 253) hx hb d_LinkAuditModel_verdictOf_246 (by decide) (fun c8 => ?_) (fun c8 => ?_)
          · have hf := ifn c8 hf
            refine lv_iconst (v := (0 : Int32)) hx hb d_LinkAuditModel_verdictOf_253 (by decide) ?_
            exact b254 M t0 (0 : Int32) _ _ _ hf hP hS (lv_sub hl [1, 0] rfl)
          · have hf := ifp c8 hf
            exact b249 M t0 _ _ _ hf hP hS (lv_sub hl [1, 0] rfl)
      · have hf := ifp c6 hf
        refine lv_bipush (v := (-6 : Int32)) hx hb d_LinkAuditModel_verdictOf_234 (by decide) ?_
        exact hret hf hP hS d_LinkAuditModel_verdictOf_236
    · have hf := ifp c4 hf
      refine lv_bipush (v := (-7 : Int32)) hx hb d_LinkAuditModel_verdictOf_221 (by decide) ?_
      exact hret hf hP hS d_LinkAuditModel_verdictOf_223
  have b153 : ∀ (M : Mem) (x2 : Int32) (x3 : Int32) (x4 : Int32) (x5 : Int32) (H : Heap) (locs : List Loc) (ls : Array Slot), f_LinkAuditModel_verdictOf_b153 M x2 x3 x4 x5 = some (r, M') → va_P D vwC (r_ws cI cL cG cZ ad M) H → va_S (r_A ad) s.heap H locs → lv_has ls 9 [(0, .ref (ad 0)), (2, .int x2), (3, .int x3), (4, .int x4), (5, .int x5)] → W p l e (rmR 5 127) s m args below meth c H locs 0 0 Q (F0 m 153 ls []) := by
    intro M x2 x3 x4 x5 H locs ls hf hP hS hl
    unfold f_LinkAuditModel_verdictOf_b153 at hf
    refine lv_aload_n hx hb d_LinkAuditModel_verdictOf_153 rfl (lv_at hl 0 rfl) ?_
    refine xg_LinkAuditModel_53 hx hb hta hown hKv hP d_LinkAuditModel_verdictOf_154 ?_
    refine lv_iload_n hx hb d_LinkAuditModel_verdictOf_157 rfl (lv_at hl 1 rfl) ?_
    refine lv_iconst (v := (1 : Int32)) hx hb d_LinkAuditModel_verdictOf_158 (by decide) ?_
    refine lv_iadd hx hb d_LinkAuditModel_verdictOf_159 ?_
    obtain ⟨g9, hf⟩ := gd_ok hf
    refine x_ild hx hb hKv hP r_c15 g9 d_LinkAuditModel_verdictOf_160 ?_
    refine lv_iconst (v := (4 : Int32)) hx hb d_LinkAuditModel_verdictOf_161 (by decide) ?_
    refine lv_irem hx hb d_LinkAuditModel_verdictOf_162 (by decide) ?_
    refine lv_istore (lv' := [(6, .int ((M.1 15 ((x2 + (1 : Int32))).toNatClampNeg) - (M.1 15 ((x2 + (1 : Int32))).toNatClampNeg) / (4 : Int32) * (4 : Int32))), (0, .ref (ad 0)), (2, .int x2), (3, .int x3), (4, .int x4), (5, .int x5)]) hx hb d_LinkAuditModel_verdictOf_163 hl (by decide) rfl (fun ls hl => ?_)
    refine lv_iload hx hb d_LinkAuditModel_verdictOf_165 (lv_at hl 4 rfl) ?_
    refine lv_iconst (v := (3 : Int32)) hx hb d_LinkAuditModel_verdictOf_167 (by decide) ?_
    refine lv_icmp_ge (tgt := 190) hx hb d_LinkAuditModel_verdictOf_168 (by decide) (fun c10 => ?_) (fun c10 => ?_)
    · have hf := ifp c10 hf
      refine lv_aload_n hx hb d_LinkAuditModel_verdictOf_190 rfl (lv_at hl 1 rfl) ?_
      refine lv_iload hx hb d_LinkAuditModel_verdictOf_191 (lv_at hl 5 rfl) ?_
      refine lv_iload hx hb d_LinkAuditModel_verdictOf_193 (lv_at hl 0 rfl) ?_
      refine lv_aload_n hx hb d_LinkAuditModel_verdictOf_195 rfl (lv_at hl 1 rfl) ?_
      refine xg_LinkAuditModel_53 hx hb hta hown hKv hP d_LinkAuditModel_verdictOf_196 ?_
      refine lv_iload_n hx hb d_LinkAuditModel_verdictOf_199 rfl (lv_at hl 2 rfl) ?_
      refine lv_iconst (v := (3 : Int32)) hx hb d_LinkAuditModel_verdictOf_200 (by decide) ?_
      refine lv_iadd hx hb d_LinkAuditModel_verdictOf_201 ?_
      obtain ⟨g11, hf⟩ := gd_ok hf
      refine x_ild hx hb hKv hP r_c15 g11 d_LinkAuditModel_verdictOf_202 ?_
      refine lv_aload_n hx hb d_LinkAuditModel_verdictOf_203 rfl (lv_at hl 1 rfl) ?_
      refine xg_LinkAuditModel_53 hx hb hta hown hKv hP d_LinkAuditModel_verdictOf_204 ?_
      refine lv_iload_n hx hb d_LinkAuditModel_verdictOf_207 rfl (lv_at hl 2 rfl) ?_
      refine lv_iconst (v := (4 : Int32)) hx hb d_LinkAuditModel_verdictOf_208 (by decide) ?_
      refine lv_iadd hx hb d_LinkAuditModel_verdictOf_209 ?_
      obtain ⟨g12, hf⟩ := gd_ok hf
      refine x_ild hx hb hKv hP r_c15 g12 d_LinkAuditModel_verdictOf_210 ?_
      obtain ⟨r10, hc13, hf⟩ := bd1_e hf
      refine xvr_LinkAuditModel_163 X hkk hD (Nat.le_of_ble_eq_true rfl) ⟨by dsimp only [rmR]; omega, by dsimp only [rmR]; omega⟩ ⟨Nat.zero_le _, Nat.zero_le _⟩ hc13 hl.1 hP hS d_LinkAuditModel_verdictOf_211 (fun H locs hP hS => ?_)
      exact b214 M x3 x4 r10 _ _ _ hf hP hS (lv_sub hl [1, 3, 4] rfl)
    · have hf := ifn c10 hf
      refine lv_aload_n hx hb d_LinkAuditModel_verdictOf_171 rfl (lv_at hl 1 rfl) ?_
      refine lv_iload hx hb d_LinkAuditModel_verdictOf_172 (lv_at hl 5 rfl) ?_
      refine lv_iload hx hb d_LinkAuditModel_verdictOf_174 (lv_at hl 0 rfl) ?_
      refine lv_aload_n hx hb d_LinkAuditModel_verdictOf_176 rfl (lv_at hl 1 rfl) ?_
      refine xg_LinkAuditModel_53 hx hb hta hown hKv hP d_LinkAuditModel_verdictOf_177 ?_
      refine lv_iload_n hx hb d_LinkAuditModel_verdictOf_180 rfl (lv_at hl 2 rfl) ?_
      refine lv_iconst (v := (3 : Int32)) hx hb d_LinkAuditModel_verdictOf_181 (by decide) ?_
      refine lv_iadd hx hb d_LinkAuditModel_verdictOf_182 ?_
      obtain ⟨g14, hf⟩ := gd_ok hf
      refine x_ild hx hb hKv hP r_c15 g14 d_LinkAuditModel_verdictOf_183 ?_
      obtain ⟨r12, M11, hc15, hf⟩ := bd2_e hf
      refine xvr_LinkAuditModel_160 X hkk hD (Nat.le_of_ble_eq_true rfl) ⟨by dsimp only [rmR]; omega, by dsimp only [rmR]; omega⟩ ⟨Nat.zero_le _, Nat.zero_le _⟩ hc15 hl.1 hP hS d_LinkAuditModel_verdictOf_184 (fun H locs hP hS => ?_)
      refine lv_goto (tgt := 214) hx hb d_LinkAuditModel_verdictOf_187 (by decide) ?_
      exact b214 M11 x3 x4 r12 _ _ _ hf hP hS (lv_sub hl [1, 3, 4] rfl)
  have b135 : ∀ (M : Mem) (x2 : Int32) (x3 : Int32) (x4 : Int32) (x5 : Int32) (H : Heap) (locs : List Loc) (ls : Array Slot), f_LinkAuditModel_verdictOf_b135 M x2 x3 x4 x5 = some (r, M') → va_P D vwC (r_ws cI cL cG cZ ad M) H → va_S (r_A ad) s.heap H locs → lv_has ls 9 [(0, .ref (ad 0)), (2, .int x2), (3, .int x3), (4, .int x4), (5, .int x5)] → W p l e (rmR 5 127) s m args below meth c H locs 0 0 Q (F0 m 135 ls []) := by
    intro M x2 x3 x4 x5 H locs ls hf hP hS hl
    unfold f_LinkAuditModel_verdictOf_b135 at hf
    refine lv_iload hx hb d_LinkAuditModel_verdictOf_135 (lv_at hl 3 rfl) ?_
    refine lv_iconst (v := (5 : Int32)) hx hb d_LinkAuditModel_verdictOf_137 (by decide) ?_
    refine lv_icmp_ne (tgt := 153) hx hb d_LinkAuditModel_verdictOf_138 (by decide) (fun c16 => ?_) (fun c16 => ?_)
    · have hf := ifn c16 hf
      exact b153 M x2 x3 x4 x5 _ _ _ hf hP hS (lv_sub hl [0, 1, 2, 3, 4] rfl)
    · have hf := ifp c16 hf
      refine lv_aload_n hx hb d_LinkAuditModel_verdictOf_141 rfl (lv_at hl 0 rfl) ?_
      refine lv_iload hx hb d_LinkAuditModel_verdictOf_142 (lv_at hl 4 rfl) ?_
      obtain ⟨r13, hc17, hf⟩ := bd1_e hf
      refine xvr_LinkAuditModel_111 X hkk hD (Nat.le_of_ble_eq_true rfl) ⟨by dsimp only [rmR]; omega, by dsimp only [rmR]; omega⟩ ⟨Nat.zero_le _, Nat.zero_le _⟩ hc17 hl.1 hP hS d_LinkAuditModel_verdictOf_144 (fun H locs hP hS => ?_)
      refine lv_if_ne (tgt := 153) hx hb d_LinkAuditModel_verdictOf_147 (by decide) (fun c18 => ?_) (fun c18 => ?_)
      · have hf := ifn c18 hf
        exact b153 M x2 x3 x4 x5 _ _ _ hf hP hS (lv_sub hl [0, 1, 2, 3, 4] rfl)
      · have hf := ifp c18 hf
        refine lv_bipush (v := (-5 : Int32)) hx hb d_LinkAuditModel_verdictOf_150 (by decide) ?_
        exact hret hf hP hS d_LinkAuditModel_verdictOf_152
  unfold f_LinkAuditModel_verdictOf at hf
  refine lv_iconst (v := (5 : Int32)) hx hb d_LinkAuditModel_verdictOf_0 (by decide) ?_
  refine lv_iload_n hx hb d_LinkAuditModel_verdictOf_1 rfl (lv_at hl 1 rfl) ?_
  refine lv_imul hx hb d_LinkAuditModel_verdictOf_2 ?_
  refine lv_istore_n (lv' := [(2, .int ((5 : Int32) * a1)), (0, .ref (ad 0)), (1, .int a1)]) hx hb d_LinkAuditModel_verdictOf_3 rfl hl (by decide) rfl (fun ls hl => ?_)
  refine lv_aload_n hx hb d_LinkAuditModel_verdictOf_4 rfl (lv_at hl 1 rfl) ?_
  refine xg_LinkAuditModel_53 hx hb hta hown hKv hP d_LinkAuditModel_verdictOf_5 ?_
  refine lv_iload_n hx hb d_LinkAuditModel_verdictOf_8 rfl (lv_at hl 0 rfl) ?_
  obtain ⟨g19, hf⟩ := gd_ok hf
  refine x_ild hx hb hKv hP r_c15 g19 d_LinkAuditModel_verdictOf_9 ?_
  refine lv_istore_n (lv' := [(3, .int (M.1 15 (((5 : Int32) * a1)).toNatClampNeg)), (2, .int ((5 : Int32) * a1)), (0, .ref (ad 0)), (1, .int a1)]) hx hb d_LinkAuditModel_verdictOf_10 rfl hl (by decide) rfl (fun ls hl => ?_)
  refine lv_aload_n hx hb d_LinkAuditModel_verdictOf_11 rfl (lv_at hl 2 rfl) ?_
  refine xg_LinkAuditModel_53 hx hb hta hown hKv hP d_LinkAuditModel_verdictOf_12 ?_
  refine lv_iload_n hx hb d_LinkAuditModel_verdictOf_15 rfl (lv_at hl 1 rfl) ?_
  refine lv_iconst (v := (1 : Int32)) hx hb d_LinkAuditModel_verdictOf_16 (by decide) ?_
  refine lv_iadd hx hb d_LinkAuditModel_verdictOf_17 ?_
  obtain ⟨g20, hf⟩ := gd_ok hf
  refine x_ild hx hb hKv hP r_c15 g20 d_LinkAuditModel_verdictOf_18 ?_
  refine lv_iconst (v := (4 : Int32)) hx hb d_LinkAuditModel_verdictOf_19 (by decide) ?_
  refine lv_idiv hx hb d_LinkAuditModel_verdictOf_20 (by decide) ?_
  refine lv_istore (lv' := [(4, .int ((M.1 15 ((((5 : Int32) * a1) + (1 : Int32))).toNatClampNeg) / (4 : Int32))), (3, .int (M.1 15 (((5 : Int32) * a1)).toNatClampNeg)), (2, .int ((5 : Int32) * a1)), (0, .ref (ad 0)), (1, .int a1)]) hx hb d_LinkAuditModel_verdictOf_21 hl (by decide) rfl (fun ls hl => ?_)
  refine lv_aload_n hx hb d_LinkAuditModel_verdictOf_23 rfl (lv_at hl 3 rfl) ?_
  refine xg_LinkAuditModel_56 hx hb hta hown hKv hP d_LinkAuditModel_verdictOf_24 ?_
  refine lv_iload_n hx hb d_LinkAuditModel_verdictOf_27 rfl (lv_at hl 1 rfl) ?_
  obtain ⟨g21, hf⟩ := gd_ok hf
  refine x_ild hx hb hKv hP r_c16 g21 d_LinkAuditModel_verdictOf_28 ?_
  refine lv_if_eq (tgt := 35) hx hb d_LinkAuditModel_verdictOf_29 (by decide) (fun c22 => ?_) (fun c22 => ?_)
  · have hf := ifp c22 hf
    refine lv_aload_n hx hb d_LinkAuditModel_verdictOf_35 rfl (lv_at hl 3 rfl) ?_
    refine lv_aload_n hx hb d_LinkAuditModel_verdictOf_36 rfl (lv_at hl 3 rfl) ?_
    refine xg_LinkAuditModel_19 hx hb hta hown hKv hP d_LinkAuditModel_verdictOf_37 ?_
    refine lv_iload_n hx hb d_LinkAuditModel_verdictOf_40 rfl (lv_at hl 1 rfl) ?_
    obtain ⟨g23, hf⟩ := gd_ok hf
    refine x_ild hx hb hKv hP r_c4 g23 d_LinkAuditModel_verdictOf_41 ?_
    refine lv_aload_n hx hb d_LinkAuditModel_verdictOf_42 rfl (lv_at hl 3 rfl) ?_
    refine xg_LinkAuditModel_53 hx hb hta hown hKv hP d_LinkAuditModel_verdictOf_43 ?_
    refine lv_iload_n hx hb d_LinkAuditModel_verdictOf_46 rfl (lv_at hl 2 rfl) ?_
    refine lv_iconst (v := (2 : Int32)) hx hb d_LinkAuditModel_verdictOf_47 (by decide) ?_
    refine lv_iadd hx hb d_LinkAuditModel_verdictOf_48 ?_
    obtain ⟨g24, hf⟩ := gd_ok hf
    refine x_ild hx hb hKv hP r_c15 g24 d_LinkAuditModel_verdictOf_49 ?_
    obtain ⟨r14, hc25, hf⟩ := bd1_e hf
    refine xvr_LinkAuditModel_132 X hkk hD (Nat.le_of_ble_eq_true rfl) ⟨by dsimp only [rmR]; omega, by dsimp only [rmR]; omega⟩ ⟨Nat.zero_le _, Nat.zero_le _⟩ hc25 hl.1 hP hS d_LinkAuditModel_verdictOf_50 (fun H locs hP hS => ?_)
    refine lv_istore (lv' := [(5, .int r14), (4, .int ((M.1 15 ((((5 : Int32) * a1) + (1 : Int32))).toNatClampNeg) / (4 : Int32))), (3, .int (M.1 15 (((5 : Int32) * a1)).toNatClampNeg)), (2, .int ((5 : Int32) * a1)), (0, .ref (ad 0)), (1, .int a1)]) hx hb d_LinkAuditModel_verdictOf_53 hl (by decide) rfl (fun ls hl => ?_)
    refine lv_iload hx hb d_LinkAuditModel_verdictOf_55 (lv_at hl 0 rfl) ?_
    refine lv_if_ne (tgt := 63) hx hb d_LinkAuditModel_verdictOf_57 (by decide) (fun c26 => ?_) (fun c26 => ?_)
    · have hf := ifn c26 hf
      refine lv_aload_n hx hb d_LinkAuditModel_verdictOf_63 rfl (lv_at hl 4 rfl) ?_
      refine xg_LinkAuditModel_56 hx hb hta hown hKv hP d_LinkAuditModel_verdictOf_64 ?_
      refine lv_iload hx hb d_LinkAuditModel_verdictOf_67 (lv_at hl 0 rfl) ?_
      obtain ⟨g27, hf⟩ := gd_ok hf
      refine x_ild hx hb hKv hP r_c16 g27 d_LinkAuditModel_verdictOf_69 ?_
      refine lv_if_eq (tgt := 81) hx hb d_LinkAuditModel_verdictOf_70 (by decide) (fun c28 => ?_) (fun c28 => ?_)
      · have hf := ifp c28 hf
        refine lv_aload_n hx hb d_LinkAuditModel_verdictOf_81 rfl (lv_at hl 4 rfl) ?_
        refine lv_iload_n hx hb d_LinkAuditModel_verdictOf_82 rfl (lv_at hl 2 rfl) ?_
        refine lv_iload hx hb d_LinkAuditModel_verdictOf_83 (lv_at hl 0 rfl) ?_
        obtain ⟨r15, hc29, hf⟩ := bd1_e hf
        refine xvr_LinkAuditModel_122 X hkk hD (Nat.le_of_ble_eq_true rfl) ⟨by dsimp only [rmR]; omega, by dsimp only [rmR]; omega⟩ ⟨Nat.zero_le _, Nat.zero_le _⟩ hc29 hl.1 hP hS d_LinkAuditModel_verdictOf_85 (fun H locs hP hS => ?_)
        refine lv_if_ne (tgt := 94) hx hb d_LinkAuditModel_verdictOf_88 (by decide) (fun c30 => ?_) (fun c30 => ?_)
        · have hf := ifn c30 hf
          refine lv_iload hx hb d_LinkAuditModel_verdictOf_94 (lv_at hl 1 rfl) ?_
          refine lv_if_ne (tgt := 120) hx hb d_LinkAuditModel_verdictOf_96 (by decide) (fun c31 => ?_) (fun c31 => ?_)
          · have hf := ifn c31 hf
            refine lv_iload hx hb d_LinkAuditModel_verdictOf_120 (lv_at hl 1 rfl) ?_
            refine lv_iconst (v := (3 : Int32)) hx hb d_LinkAuditModel_verdictOf_122 (by decide) ?_
            refine lv_icmp_ne (tgt := 135) hx hb d_LinkAuditModel_verdictOf_123 (by decide) (fun c32 => ?_) (fun c32 => ?_)
            · have hf := ifn c32 hf
              exact b135 M ((5 : Int32) * a1) (M.1 15 (((5 : Int32) * a1)).toNatClampNeg) ((M.1 15 ((((5 : Int32) * a1) + (1 : Int32))).toNatClampNeg) / (4 : Int32)) r14 _ _ _ hf hP hS (lv_sub hl [4, 3, 2, 1, 0] rfl)
            · have hf := ifp c32 hf
              refine lv_aload_n hx hb d_LinkAuditModel_verdictOf_126 rfl (lv_at hl 4 rfl) ?_
              refine lv_iload hx hb d_LinkAuditModel_verdictOf_127 (lv_at hl 0 rfl) ?_
              obtain ⟨r16, hc33, hf⟩ := bd1_e hf
              refine xvr_LinkAuditModel_111 X hkk hD (Nat.le_of_ble_eq_true rfl) ⟨by dsimp only [rmR]; omega, by dsimp only [rmR]; omega⟩ ⟨Nat.zero_le _, Nat.zero_le _⟩ hc33 hl.1 hP hS d_LinkAuditModel_verdictOf_129 (fun H locs hP hS => ?_)
              refine lv_if_ne (tgt := 150) hx hb d_LinkAuditModel_verdictOf_132 (by decide) (fun c34 => ?_) (fun c34 => ?_)
              · have hf := ifn c34 hf
                refine lv_bipush (v := (-5 : Int32)) hx hb d_LinkAuditModel_verdictOf_150 (by decide) ?_
                exact hret hf hP hS d_LinkAuditModel_verdictOf_152
              · have hf := ifp c34 hf
                exact b135 M ((5 : Int32) * a1) (M.1 15 (((5 : Int32) * a1)).toNatClampNeg) ((M.1 15 ((((5 : Int32) * a1) + (1 : Int32))).toNatClampNeg) / (4 : Int32)) r14 _ _ _ hf hP hS (lv_sub hl [4, 3, 2, 1, 0] rfl)
          · have hf := ifp c31 hf
            refine lv_aload_n hx hb d_LinkAuditModel_verdictOf_99 rfl (lv_at hl 4 rfl) ?_
            refine xg_LinkAuditModel_25 hx hb hta hown hKv hP d_LinkAuditModel_verdictOf_100 ?_
            refine lv_iload hx hb d_LinkAuditModel_verdictOf_103 (lv_at hl 0 rfl) ?_
            obtain ⟨g35, hf⟩ := gd_ok hf
            refine x_ild hx hb hKv hP r_c6 g35 d_LinkAuditModel_verdictOf_105 ?_
            refine lv_bipush (v := (12 : Int32)) hx hb d_LinkAuditModel_verdictOf_106 (by decide) ?_
            refine lv_iand hx hb d_LinkAuditModel_verdictOf_108 ?_
            refine lv_if_eq (tgt := 117) hx hb d_LinkAuditModel_verdictOf_109 (by decide) (fun c36 => ?_) (fun c36 => ?_)
            · have hf := ifp c36 hf
              refine lv_iload hx hb d_LinkAuditModel_verdictOf_117 (lv_at hl 0 rfl) ?_
              exact hret hf hP hS d_LinkAuditModel_verdictOf_119
            · have hf := ifn c36 hf
              refine lv_bipush (v := (-8 : Int32)) hx hb d_LinkAuditModel_verdictOf_112 (by decide) ?_
              refine lv_goto (tgt := 119) hx hb d_LinkAuditModel_verdictOf_114 (by decide) ?_
              exact hret hf hP hS d_LinkAuditModel_verdictOf_119
        · have hf := ifp c30 hf
          refine lv_bipush (v := (-6 : Int32)) hx hb d_LinkAuditModel_verdictOf_91 (by decide) ?_
          exact hret hf hP hS d_LinkAuditModel_verdictOf_93
      · have hf := ifn c28 hf
        refine lv_aload_n hx hb d_LinkAuditModel_verdictOf_73 rfl (lv_at hl 4 rfl) ?_
        refine xg_LinkAuditModel_56 hx hb hta hown hKv hP d_LinkAuditModel_verdictOf_74 ?_
        refine lv_iload hx hb d_LinkAuditModel_verdictOf_77 (lv_at hl 0 rfl) ?_
        obtain ⟨g37, hf⟩ := gd_ok hf
        refine x_ild hx hb hKv hP r_c16 g37 d_LinkAuditModel_verdictOf_79 ?_
        exact hret hf hP hS d_LinkAuditModel_verdictOf_80
    · have hf := ifp c26 hf
      refine lv_bipush (v := (-3 : Int32)) hx hb d_LinkAuditModel_verdictOf_60 (by decide) ?_
      exact hret hf hP hS d_LinkAuditModel_verdictOf_62
  · have hf := ifn c22 hf
    refine lv_bipush (v := (-10 : Int32)) hx hb d_LinkAuditModel_verdictOf_32 (by decide) ?_
    exact hret hf hP hS d_LinkAuditModel_verdictOf_34
-- LinkAuditModel.verdict
theorem xvr_LinkAuditModel_210 {p : Program} {l : Launch} {e : Env} {R : Room} {s : State} {m : MethodId} {args : Array Value} {below : List Frame} {meth : Method} {c : Code} {H : Heap} {locs : List Loc} {cells slots : Nat} {Q : State → Prop} {cc : ByteArray} {pc : Nat} {ls : Array Slot} {rest : List Value} {D : va_G} {cI cL cG cZ : ClassId} {ad : Nat → Nat} {M : Mem} {H0 : Heap} {M1 : Mem} {nL : Nat}  (X : CallFix p m c cc nL s args ALLW "LinkAuditModel") (hkk : Kk D cI cL cG cZ s) (hD : ∀ M, va_D (r_A ad) (r_ws cI cL cG cZ ad M)) (hrest : (rest.map fun v => v.category).sum ≤ 8) (hR : 4 + 1 ≤ R.frames ∧ 8 + (5 + 11) + 96 ≤ R.locals) (hcs : cells + 0 ≤ R.cells ∧ slots + 0 ≤ R.slots) (hc : f_LinkAuditModel_prepare M = some M1) (hsz : ls.size = nL) (hP : va_P D vwC (r_ws cI cL cG cZ ad M) H) (hS : va_S (r_A ad) H0 H locs) (hdg : decode cc pc = .ok (.invokevirtual 210, 3))
    (kk : ∀ (H1 : Heap) (locs1 : List Loc), va_P D vwC (r_ws cI cL cG cZ ad M1) H1 → va_S (r_A ad) H0 H1 locs1 → W p l e R s m args below meth c H1 locs1 cells slots Q (F0 m (pc + 3) ls (rest))) : W p l e R s m args below meth c H locs cells slots Q (F0 m pc ls (.ref (ad 0) :: rest)) := by
  have hta := X.2.2.2.2
  exact x_afterV (va_runV (As := []) (rest := rest) X (c_LinkAuditModel_prepare hD hc) ⟨callB_of 0 hta (good_all (L := .code y_LinkAuditModel_prepare prog_12_method_18_code 5 none :: ALLW) (List.forall_mem_cons.mpr ⟨wm_874, fun _ h => h⟩)) rfl rfl rfl (hta _ wm_11) (hta _ wm_871) (by decide +kernel) hR, hta _ wm_873, hta _ wp_32⟩ ⟨x_blind Kk_w _, va_recv hkk.1 hP (ci := 10) (q0 := 0) rfl r_c0, x_pre Kk_w hkk hP _⟩ rfl rfl hsz rfl (lv_room hrest) hdg hcs) hS kk
theorem xvr_LinkAuditModel_195 {p : Program} {l : Launch} {e : Env} {R : Room} {s : State} {m : MethodId} {args : Array Value} {below : List Frame} {meth : Method} {c : Code} {H : Heap} {locs : List Loc} {cells slots : Nat} {Q : State → Prop} {cc : ByteArray} {pc : Nat} {ls : Array Slot} {rest : List Value} {D : va_G} {cI cL cG cZ : ClassId} {ad : Nat → Nat} {M : Mem} {H0 : Heap} {M1 : Mem} {nL : Nat} {a0 : Int32} {r : Int32} (X : CallFix p m c cc nL s args ALLW "LinkAuditModel") (hkk : Kk D cI cL cG cZ s) (hD : ∀ M, va_D (r_A ad) (r_ws cI cL cG cZ ad M)) (hrest : (rest.map fun v => v.category).sum ≤ 8) (hR : 5 + 1 ≤ R.frames ∧ 8 + (9 + 11) + 127 ≤ R.locals) (hcs : cells + 0 ≤ R.cells ∧ slots + 0 ≤ R.slots) (hc : f_LinkAuditModel_verdictOf M a0 = some (r, M1)) (hsz : ls.size = nL) (hP : va_P D vwC (r_ws cI cL cG cZ ad M) H) (hS : va_S (r_A ad) H0 H locs) (hdg : decode cc pc = .ok (.invokevirtual 195, 3))
    (kk : ∀ (H1 : Heap) (locs1 : List Loc), va_P D vwC (r_ws cI cL cG cZ ad M1) H1 → va_S (r_A ad) H0 H1 locs1 → W p l e R s m args below meth c H1 locs1 cells slots Q (F0 m (pc + 3) ls (.int r :: rest))) : W p l e R s m args below meth c H locs cells slots Q (F0 m pc ls (.int a0 :: .ref (ad 0) :: rest)) := by
  have hta := X.2.2.2.2
  exact x_afterI (va_runV (As := [.int a0]) (rest := rest) X (c_LinkAuditModel_verdictOf hD hc) ⟨callB_of 1 hta (good_all (L := .code y_LinkAuditModel_verdictOf prog_12_method_28_code 9 (some .int) :: ALLW) (List.forall_mem_cons.mpr ⟨wm_878, fun _ h => h⟩)) rfl rfl rfl (hta _ wm_11) (hta _ wm_875) (by decide +kernel) hR, hta _ wm_877, hta _ wp_33⟩ ⟨x_blind Kk_w _, va_recv hkk.1 hP (ci := 10) (q0 := 0) rfl r_c0, x_pre Kk_w hkk hP _⟩ rfl rfl hsz rfl (lv_room hrest) hdg hcs) hS kk
set_option maxHeartbeats 4000000 in
set_option maxRecDepth 100000 in
theorem c_LinkAuditModel_verdict {l : Launch} {D : va_G} {cI cL cG cZ : ClassId} {ad : Nat → Nat} {M M' : Mem} {a1 : Int32} {r : Int32} (hD : ∀ M, va_D (r_A ad) (r_ws cI cL cG cZ ad M)) (hf : f_LinkAuditModel_verdict M a1 = some (r, M')) : Mi l y_LinkAuditModel_verdict (.code y_LinkAuditModel_verdict prog_12_method_44_code 2 (some .int) :: ALLW) (rmR 6 155) (Kk D cI cL cG cZ) D vwC (r_A ad) (r_ws cI cL cG cZ ad) [.ref (ad 0), .int a1] M M' r := by
  refine Mi_of (by decide) (Nat.le_of_ble_eq_true rfl) ?_
  intro p e s m args below meth c ls Q X hkk hret hP hl
  obtain ⟨hx, hb, hml, hown, hta⟩ := id X
  have hKv := hkk.1
  have hS : va_S (r_A ad) s.heap s.heap [] := va_S.rf
  have hl : lv_has ls 2 [(0, .ref (ad 0)), (1, .int a1)] := hl
  unfold f_LinkAuditModel_verdict at hf
  refine lv_iload_n hx hb d_LinkAuditModel_verdict_0 rfl (lv_at hl 1 rfl) ?_
  refine lv_iconst (v := (0 : Int32)) hx hb d_LinkAuditModel_verdict_1 (by decide) ?_
  refine lv_aload_n hx hb d_LinkAuditModel_verdict_2 rfl (lv_at hl 0 rfl) ?_
  refine xg_LinkAuditModel_115 hx hb hta hown hKv hP d_LinkAuditModel_verdict_3 ?_
  refine lv_iconst (v := (1 : Int32)) hx hb d_LinkAuditModel_verdict_6 (by decide) ?_
  refine lv_isub hx hb d_LinkAuditModel_verdict_7 ?_
  obtain ⟨r5, hc1, hf⟩ := bd1_e hf
  refine xvr_LinkAuditModel_92 X hkk hD (Nat.le_of_ble_eq_true rfl) ⟨by dsimp only [rmR]; omega, by dsimp only [rmR]; omega⟩ ⟨Nat.zero_le _, Nat.zero_le _⟩ hc1 hl.1 hP hS d_LinkAuditModel_verdict_8 (fun H locs hP hS => ?_)
  refine lv_if_ne (tgt := 16) hx hb d_LinkAuditModel_verdict_11 (by decide) (fun c2 => ?_) (fun c2 => ?_)
  · have hf := ifn c2 hf
    refine lv_aload_n hx hb d_LinkAuditModel_verdict_16 rfl (lv_at hl 0 rfl) ?_
    obtain ⟨M6, hc3, hf⟩ := bd1_e hf
    refine xvr_LinkAuditModel_210 X hkk hD (Nat.le_of_ble_eq_true rfl) ⟨by dsimp only [rmR]; omega, by dsimp only [rmR]; omega⟩ ⟨Nat.zero_le _, Nat.zero_le _⟩ hc3 hl.1 hP hS d_LinkAuditModel_verdict_17 (fun H locs hP hS => ?_)
    refine lv_aload_n hx hb d_LinkAuditModel_verdict_20 rfl (lv_at hl 0 rfl) ?_
    refine lv_iload_n hx hb d_LinkAuditModel_verdict_21 rfl (lv_at hl 1 rfl) ?_
    obtain ⟨r8, M7, hc4, hf⟩ := bd2_e hf
    refine xvr_LinkAuditModel_195 X hkk hD (Nat.le_of_ble_eq_true rfl) ⟨by dsimp only [rmR]; omega, by dsimp only [rmR]; omega⟩ ⟨Nat.zero_le _, Nat.zero_le _⟩ hc4 hl.1 hP hS d_LinkAuditModel_verdict_22 (fun H locs hP hS => ?_)
    exact hret hf hP hS d_LinkAuditModel_verdict_25
  · have hf := ifp c2 hf
    refine lv_iconst (v := (-1 : Int32)) hx hb d_LinkAuditModel_verdict_14 (by decide) ?_
    exact hret hf hP hS d_LinkAuditModel_verdict_15
-- LinkAuditModel.like
set_option maxHeartbeats 4000000 in
set_option maxRecDepth 100000 in
theorem c_LinkAuditModel_like {l : Launch} {D : va_G} {cI cL cG cZ : ClassId} {ad : Nat → Nat} {M : Mem} {a1 : Int32} {a2 : Int32} {r : Int32} (hD : ∀ M, va_D (r_A ad) (r_ws cI cL cG cZ ad M)) (hf : f_LinkAuditModel_like M a1 a2 = some r) : Mi l y_LinkAuditModel_like (.code y_LinkAuditModel_like prog_12_method_29_code 3 (some .boolean) :: ALLW) (rmR 0 0) (Kk D cI cL cG cZ) D vwC (r_A ad) (r_ws cI cL cG cZ ad) [.ref (ad 0), .int a1, .int a2] M M r := by
  refine Mz_ofR (by decide) (Nat.le_of_ble_eq_true rfl) ?_
  intro p e s m args below meth c ls Q X hkk hret hP hl
  obtain ⟨hx, hb, hml, hown, hta⟩ := id X
  have hKv := hkk.1
  have hS : va_S (r_A ad) s.heap s.heap [] := va_S.rf
  have hl : lv_has ls 3 [(0, .ref (ad 0)), (1, .int a1), (2, .int a2)] := hl
  unfold f_LinkAuditModel_like at hf
  refine lv_aload_n hx hb d_LinkAuditModel_like_0 rfl (lv_at hl 0 rfl) ?_
  refine xg_LinkAuditModel_37 hx hb hta hown hKv hP d_LinkAuditModel_like_1 ?_
  refine lv_iload_n hx hb d_LinkAuditModel_like_4 rfl (lv_at hl 1 rfl) ?_
  obtain ⟨g1, hf⟩ := gd_ok hf
  refine x_zld hx hb hKv hP r_c10 g1 d_LinkAuditModel_like_5 ?_
  refine lv_if_eq (tgt := 67) hx hb d_LinkAuditModel_like_6 (by decide) (fun c2 => ?_) (fun c2 => ?_)
  · have hf := ifp c2 hf
    refine lv_iconst (v := (0 : Int32)) hx hb d_LinkAuditModel_like_67 (by decide) ?_
    exact hret (Or.inl rfl) hf hP hS d_LinkAuditModel_like_68
  · have hf := ifn c2 hf
    refine lv_aload_n hx hb d_LinkAuditModel_like_9 rfl (lv_at hl 0 rfl) ?_
    refine xg_LinkAuditModel_37 hx hb hta hown hKv hP d_LinkAuditModel_like_10 ?_
    refine lv_iload_n hx hb d_LinkAuditModel_like_13 rfl (lv_at hl 2 rfl) ?_
    obtain ⟨g3, hf⟩ := gd_ok hf
    refine x_zld hx hb hKv hP r_c10 g3 d_LinkAuditModel_like_14 ?_
    refine lv_if_eq (tgt := 67) hx hb d_LinkAuditModel_like_15 (by decide) (fun c4 => ?_) (fun c4 => ?_)
    · have hf := ifp c4 hf
      refine lv_iconst (v := (0 : Int32)) hx hb d_LinkAuditModel_like_67 (by decide) ?_
      exact hret (Or.inl rfl) hf hP hS d_LinkAuditModel_like_68
    · have hf := ifn c4 hf
      refine lv_aload_n hx hb d_LinkAuditModel_like_18 rfl (lv_at hl 0 rfl) ?_
      refine xg_LinkAuditModel_41 hx hb hta hown hKv hP d_LinkAuditModel_like_19 ?_
      refine lv_iload_n hx hb d_LinkAuditModel_like_22 rfl (lv_at hl 1 rfl) ?_
      obtain ⟨g5, hf⟩ := gd_ok hf
      refine x_ild hx hb hKv hP r_c11 g5 d_LinkAuditModel_like_23 ?_
      refine lv_aload_n hx hb d_LinkAuditModel_like_24 rfl (lv_at hl 0 rfl) ?_
      refine xg_LinkAuditModel_41 hx hb hta hown hKv hP d_LinkAuditModel_like_25 ?_
      refine lv_iload_n hx hb d_LinkAuditModel_like_28 rfl (lv_at hl 2 rfl) ?_
      obtain ⟨g6, hf⟩ := gd_ok hf
      refine x_ild hx hb hKv hP r_c11 g6 d_LinkAuditModel_like_29 ?_
      refine lv_icmp_ne (tgt := 67) hx hb d_LinkAuditModel_like_30 (by decide) (fun c7 => ?_) (fun c7 => ?_)
      · have hf := ifn c7 hf
        refine lv_iconst (v := (0 : Int32)) hx hb d_LinkAuditModel_like_67 (by decide) ?_
        exact hret (Or.inl rfl) hf hP hS d_LinkAuditModel_like_68
      · have hf := ifp c7 hf
        refine lv_aload_n hx hb d_LinkAuditModel_like_33 rfl (lv_at hl 0 rfl) ?_
        refine xg_LinkAuditModel_44 hx hb hta hown hKv hP d_LinkAuditModel_like_34 ?_
        refine lv_iload_n hx hb d_LinkAuditModel_like_37 rfl (lv_at hl 1 rfl) ?_
        obtain ⟨g8, hf⟩ := gd_ok hf
        refine x_ild hx hb hKv hP r_c12 g8 d_LinkAuditModel_like_38 ?_
        refine lv_aload_n hx hb d_LinkAuditModel_like_39 rfl (lv_at hl 0 rfl) ?_
        refine xg_LinkAuditModel_44 hx hb hta hown hKv hP d_LinkAuditModel_like_40 ?_
        refine lv_iload_n hx hb d_LinkAuditModel_like_43 rfl (lv_at hl 2 rfl) ?_
        obtain ⟨g9, hf⟩ := gd_ok hf
        refine x_ild hx hb hKv hP r_c12 g9 d_LinkAuditModel_like_44 ?_
        refine lv_icmp_ne (tgt := 67) hx hb d_LinkAuditModel_like_45 (by decide) (fun c10 => ?_) (fun c10 => ?_)
        · have hf := ifn c10 hf
          refine lv_iconst (v := (0 : Int32)) hx hb d_LinkAuditModel_like_67 (by decide) ?_
          exact hret (Or.inl rfl) hf hP hS d_LinkAuditModel_like_68
        · have hf := ifp c10 hf
          refine lv_aload_n hx hb d_LinkAuditModel_like_48 rfl (lv_at hl 0 rfl) ?_
          refine xg_LinkAuditModel_47 hx hb hta hown hKv hP d_LinkAuditModel_like_49 ?_
          refine lv_iload_n hx hb d_LinkAuditModel_like_52 rfl (lv_at hl 1 rfl) ?_
          obtain ⟨g11, hf⟩ := gd_ok hf
          refine x_ild hx hb hKv hP r_c13 g11 d_LinkAuditModel_like_53 ?_
          refine lv_aload_n hx hb d_LinkAuditModel_like_54 rfl (lv_at hl 0 rfl) ?_
          refine xg_LinkAuditModel_47 hx hb hta hown hKv hP d_LinkAuditModel_like_55 ?_
          refine lv_iload_n hx hb d_LinkAuditModel_like_58 rfl (lv_at hl 2 rfl) ?_
          obtain ⟨g12, hf⟩ := gd_ok hf
          refine x_ild hx hb hKv hP r_c13 g12 d_LinkAuditModel_like_59 ?_
          refine lv_icmp_ne (tgt := 67) hx hb d_LinkAuditModel_like_60 (by decide) (fun c13 => ?_) (fun c13 => ?_)
          · have hf := ifn c13 hf
            refine lv_iconst (v := (0 : Int32)) hx hb d_LinkAuditModel_like_67 (by decide) ?_
            exact hret (Or.inl rfl) hf hP hS d_LinkAuditModel_like_68
          · have hf := ifp c13 hf
            refine lv_iconst (v := (1 : Int32)) hx hb d_LinkAuditModel_like_63 (by decide) ?_
            refine lv_goto (tgt := 68) hx hb d_LinkAuditModel_like_64 (by decide) ?_
            exact hret (Or.inr rfl) hf hP hS d_LinkAuditModel_like_68
-- LinkAuditModel.hidden
set_option maxHeartbeats 4000000 in
set_option maxRecDepth 100000 in
theorem c_LinkAuditModel_hidden {l : Launch} {D : va_G} {cI cL cG cZ : ClassId} {ad : Nat → Nat} {M : Mem} {a1 : Int32} {r : Int32} (hD : ∀ M, va_D (r_A ad) (r_ws cI cL cG cZ ad M)) (hf : f_LinkAuditModel_hidden M a1 = some r) : Mi l y_LinkAuditModel_hidden (.code y_LinkAuditModel_hidden prog_12_method_30_code 2 (some .boolean) :: ALLW) (rmR 0 0) (Kk D cI cL cG cZ) D vwC (r_A ad) (r_ws cI cL cG cZ ad) [.ref (ad 0), .int a1] M M r := by
  refine Mz_ofR (by decide) (Nat.le_of_ble_eq_true rfl) ?_
  intro p e s m args below meth c ls Q X hkk hret hP hl
  obtain ⟨hx, hb, hml, hown, hta⟩ := id X
  have hKv := hkk.1
  have hS : va_S (r_A ad) s.heap s.heap [] := va_S.rf
  have hl : lv_has ls 2 [(0, .ref (ad 0)), (1, .int a1)] := hl
  unfold f_LinkAuditModel_hidden at hf
  refine lv_aload_n hx hb d_LinkAuditModel_hidden_0 rfl (lv_at hl 0 rfl) ?_
  refine xg_LinkAuditModel_50 hx hb hta hown hKv hP d_LinkAuditModel_hidden_1 ?_
  refine lv_iload_n hx hb d_LinkAuditModel_hidden_4 rfl (lv_at hl 1 rfl) ?_
  obtain ⟨g1, hf⟩ := gd_ok hf
  refine x_ild hx hb hKv hP r_c14 g1 d_LinkAuditModel_hidden_5 ?_
  refine lv_iconst (v := (3 : Int32)) hx hb d_LinkAuditModel_hidden_6 (by decide) ?_
  refine lv_iand hx hb d_LinkAuditModel_hidden_7 ?_
  refine lv_iconst (v := (3 : Int32)) hx hb d_LinkAuditModel_hidden_8 (by decide) ?_
  refine lv_icmp_eq (tgt := 23) hx hb d_LinkAuditModel_hidden_9 (by decide) (fun c2 => ?_) (fun c2 => ?_)
  · have hf := ifp c2 hf
    refine lv_iconst (v := (1 : Int32)) hx hb d_LinkAuditModel_hidden_23 (by decide) ?_
    refine lv_goto (tgt := 28) hx hb d_LinkAuditModel_hidden_24 (by decide) ?_
    exact hret (Or.inr rfl) hf hP hS d_LinkAuditModel_hidden_28
  · have hf := ifn c2 hf
    refine lv_aload_n hx hb d_LinkAuditModel_hidden_12 rfl (lv_at hl 0 rfl) ?_
    refine xg_LinkAuditModel_50 hx hb hta hown hKv hP d_LinkAuditModel_hidden_13 ?_
    refine lv_iload_n hx hb d_LinkAuditModel_hidden_16 rfl (lv_at hl 1 rfl) ?_
    obtain ⟨g3, hf⟩ := gd_ok hf
    refine x_ild hx hb hKv hP r_c14 g3 d_LinkAuditModel_hidden_17 ?_
    refine lv_iconst (v := (4 : Int32)) hx hb d_LinkAuditModel_hidden_18 (by decide) ?_
    refine lv_iand hx hb d_LinkAuditModel_hidden_19 ?_
    refine lv_if_eq (tgt := 27) hx hb d_LinkAuditModel_hidden_20 (by decide) (fun c4 => ?_) (fun c4 => ?_)
    · have hf := ifp c4 hf
      refine lv_iconst (v := (0 : Int32)) hx hb d_LinkAuditModel_hidden_27 (by decide) ?_
      exact hret (Or.inl rfl) hf hP hS d_LinkAuditModel_hidden_28
    · have hf := ifn c4 hf
      refine lv_iconst (v := (1 : Int32)) hx hb d_LinkAuditModel_hidden_23 (by decide) ?_
      refine lv_goto (tgt := 28) hx hb d_LinkAuditModel_hidden_24 (by decide) ?_
      exact hret (Or.inr rfl) hf hP hS d_LinkAuditModel_hidden_28
-- LinkAuditModel.coversAtOnce
theorem xvr_LinkAuditModel_169 {p : Program} {l : Launch} {e : Env} {R : Room} {s : State} {m : MethodId} {args : Array Value} {below : List Frame} {meth : Method} {c : Code} {H : Heap} {locs : List Loc} {cells slots : Nat} {Q : State → Prop} {cc : ByteArray} {pc : Nat} {ls : Array Slot} {rest : List Value} {D : va_G} {cI cL cG cZ : ClassId} {ad : Nat → Nat} {M : Mem} {H0 : Heap} {nL : Nat} {a0 : Int32} {a1 : Int32} {r : Int32} (X : CallFix p m c cc nL s args ALLW "LinkAuditModel") (hkk : Kk D cI cL cG cZ s) (hD : ∀ M, va_D (r_A ad) (r_ws cI cL cG cZ ad M)) (hrest : (rest.map fun v => v.category).sum ≤ 8) (hR : 0 + 1 ≤ R.frames ∧ 8 + (3 + 11) + 0 ≤ R.locals) (hcs : cells + 0 ≤ R.cells ∧ slots + 0 ≤ R.slots) (hc : f_LinkAuditModel_like M a0 a1 = some r) (hsz : ls.size = nL) (hP : va_P D vwC (r_ws cI cL cG cZ ad M) H) (hS : va_S (r_A ad) H0 H locs) (hdg : decode cc pc = .ok (.invokevirtual 169, 3))
    (kk : ∀ (H1 : Heap) (locs1 : List Loc), va_P D vwC (r_ws cI cL cG cZ ad M) H1 → va_S (r_A ad) H0 H1 locs1 → W p l e R s m args below meth c H1 locs1 cells slots Q (F0 m (pc + 3) ls (.int r :: rest))) : W p l e R s m args below meth c H locs cells slots Q (F0 m pc ls (.int a1 :: .int a0 :: .ref (ad 0) :: rest)) := by
  have hta := X.2.2.2.2
  exact x_afterI (va_runV (As := [.int a0, .int a1]) (rest := rest) X (c_LinkAuditModel_like hD hc) ⟨callB_of 2 hta (good_all (L := .code y_LinkAuditModel_like prog_12_method_29_code 3 (some .boolean) :: ALLW) (List.forall_mem_cons.mpr ⟨wm_938, fun _ h => h⟩)) rfl rfl rfl (hta _ wm_11) (hta _ wm_935) (by decide +kernel) hR, hta _ wm_937, hta _ wp_47⟩ ⟨x_blind Kk_w _, va_recv hkk.1 hP (ci := 10) (q0 := 0) rfl r_c0, x_pre Kk_w hkk hP _⟩ rfl rfl hsz rfl (lv_room hrest) hdg hcs) hS kk
theorem xvr_LinkAuditModel_172 {p : Program} {l : Launch} {e : Env} {R : Room} {s : State} {m : MethodId} {args : Array Value} {below : List Frame} {meth : Method} {c : Code} {H : Heap} {locs : List Loc} {cells slots : Nat} {Q : State → Prop} {cc : ByteArray} {pc : Nat} {ls : Array Slot} {rest : List Value} {D : va_G} {cI cL cG cZ : ClassId} {ad : Nat → Nat} {M : Mem} {H0 : Heap} {nL : Nat} {a0 : Int32} {r : Int32} (X : CallFix p m c cc nL s args ALLW "LinkAuditModel") (hkk : Kk D cI cL cG cZ s) (hD : ∀ M, va_D (r_A ad) (r_ws cI cL cG cZ ad M)) (hrest : (rest.map fun v => v.category).sum ≤ 8) (hR : 0 + 1 ≤ R.frames ∧ 8 + (2 + 11) + 0 ≤ R.locals) (hcs : cells + 0 ≤ R.cells ∧ slots + 0 ≤ R.slots) (hc : f_LinkAuditModel_hidden M a0 = some r) (hsz : ls.size = nL) (hP : va_P D vwC (r_ws cI cL cG cZ ad M) H) (hS : va_S (r_A ad) H0 H locs) (hdg : decode cc pc = .ok (.invokevirtual 172, 3))
    (kk : ∀ (H1 : Heap) (locs1 : List Loc), va_P D vwC (r_ws cI cL cG cZ ad M) H1 → va_S (r_A ad) H0 H1 locs1 → W p l e R s m args below meth c H1 locs1 cells slots Q (F0 m (pc + 3) ls (.int r :: rest))) : W p l e R s m args below meth c H locs cells slots Q (F0 m pc ls (.int a0 :: .ref (ad 0) :: rest)) := by
  have hta := X.2.2.2.2
  exact x_afterI (va_runV (As := [.int a0]) (rest := rest) X (c_LinkAuditModel_hidden hD hc) ⟨callB_of 1 hta (good_all (L := .code y_LinkAuditModel_hidden prog_12_method_30_code 2 (some .boolean) :: ALLW) (List.forall_mem_cons.mpr ⟨wm_942, fun _ h => h⟩)) rfl rfl rfl (hta _ wm_11) (hta _ wm_939) (by decide +kernel) hR, hta _ wm_941, hta _ wp_48⟩ ⟨x_blind Kk_w _, va_recv hkk.1 hP (ci := 10) (q0 := 0) rfl r_c0, x_pre Kk_w hkk hP _⟩ rfl rfl hsz rfl (lv_room hrest) hdg hcs) hS kk
set_option maxHeartbeats 4000000 in
set_option maxRecDepth 100000 in
theorem c_LinkAuditModel_coversAtOnce {l : Launch} {D : va_G} {cI cL cG cZ : ClassId} {ad : Nat → Nat} {M : Mem} {a1 : Int32} {a2 : Int32} {r : Int32} (hD : ∀ M, va_D (r_A ad) (r_ws cI cL cG cZ ad M)) (hf : f_LinkAuditModel_coversAtOnce M a1 a2 = some r) : Mi l y_LinkAuditModel_coversAtOnce (.code y_LinkAuditModel_coversAtOnce prog_12_method_31_code 3 (some .boolean) :: ALLW) (rmR 1 22) (Kk D cI cL cG cZ) D vwC (r_A ad) (r_ws cI cL cG cZ ad) [.ref (ad 0), .int a1, .int a2] M M r := by
  refine Mz_ofR (by decide) (Nat.le_of_ble_eq_true rfl) ?_
  intro p e s m args below meth c ls Q X hkk hret hP hl
  obtain ⟨hx, hb, hml, hown, hta⟩ := id X
  have hKv := hkk.1
  have hS : va_S (r_A ad) s.heap s.heap [] := va_S.rf
  have hl : lv_has ls 3 [(0, .ref (ad 0)), (1, .int a1), (2, .int a2)] := hl
  unfold f_LinkAuditModel_coversAtOnce at hf
  refine lv_aload_n hx hb d_LinkAuditModel_coversAtOnce_0 rfl (lv_at hl 0 rfl) ?_
  refine lv_iload_n hx hb d_LinkAuditModel_coversAtOnce_1 rfl (lv_at hl 1 rfl) ?_
  refine lv_iload_n hx hb d_LinkAuditModel_coversAtOnce_2 rfl (lv_at hl 2 rfl) ?_
  obtain ⟨r5, hc1, hf⟩ := bd1_e hf
  refine xvr_LinkAuditModel_169 X hkk hD (Nat.le_of_ble_eq_true rfl) ⟨by dsimp only [rmR]; omega, by dsimp only [rmR]; omega⟩ ⟨Nat.zero_le _, Nat.zero_le _⟩ hc1 hl.1 hP hS d_LinkAuditModel_coversAtOnce_3 (fun H locs hP hS => ?_)
  refine lv_if_eq (tgt := 60) hx hb d_LinkAuditModel_coversAtOnce_6 (by decide) (fun c2 => ?_) (fun c2 => ?_)
  · have hf := ifp c2 hf
    refine lv_iconst (v := (0 : Int32)) hx hb d_LinkAuditModel_coversAtOnce_60 (by decide) ?_
    exact hret (Or.inl rfl) hf hP hS d_LinkAuditModel_coversAtOnce_61
  · have hf := ifn c2 hf
    refine lv_aload_n hx hb d_LinkAuditModel_coversAtOnce_9 rfl (lv_at hl 0 rfl) ?_
    refine lv_iload_n hx hb d_LinkAuditModel_coversAtOnce_10 rfl (lv_at hl 1 rfl) ?_
    obtain ⟨r6, hc3, hf⟩ := bd1_e hf
    refine xvr_LinkAuditModel_172 X hkk hD (Nat.le_of_ble_eq_true rfl) ⟨by dsimp only [rmR]; omega, by dsimp only [rmR]; omega⟩ ⟨Nat.zero_le _, Nat.zero_le _⟩ hc3 hl.1 hP hS d_LinkAuditModel_coversAtOnce_11 (fun H locs hP hS => ?_)
    refine lv_if_ne (tgt := 60) hx hb d_LinkAuditModel_coversAtOnce_14 (by decide) (fun c4 => ?_) (fun c4 => ?_)
    · have hf := ifn c4 hf
      refine lv_iconst (v := (0 : Int32)) hx hb d_LinkAuditModel_coversAtOnce_60 (by decide) ?_
      exact hret (Or.inl rfl) hf hP hS d_LinkAuditModel_coversAtOnce_61
    · have hf := ifp c4 hf
      refine lv_aload_n hx hb d_LinkAuditModel_coversAtOnce_17 rfl (lv_at hl 0 rfl) ?_
      refine lv_iload_n hx hb d_LinkAuditModel_coversAtOnce_18 rfl (lv_at hl 2 rfl) ?_
      obtain ⟨r7, hc5, hf⟩ := bd1_e hf
      refine xvr_LinkAuditModel_172 X hkk hD (Nat.le_of_ble_eq_true rfl) ⟨by dsimp only [rmR]; omega, by dsimp only [rmR]; omega⟩ ⟨Nat.zero_le _, Nat.zero_le _⟩ hc5 hl.1 hP hS d_LinkAuditModel_coversAtOnce_19 (fun H locs hP hS => ?_)
      refine lv_if_ne (tgt := 60) hx hb d_LinkAuditModel_coversAtOnce_22 (by decide) (fun c6 => ?_) (fun c6 => ?_)
      · have hf := ifn c6 hf
        refine lv_iconst (v := (0 : Int32)) hx hb d_LinkAuditModel_coversAtOnce_60 (by decide) ?_
        exact hret (Or.inl rfl) hf hP hS d_LinkAuditModel_coversAtOnce_61
      · have hf := ifp c6 hf
        refine lv_aload_n hx hb d_LinkAuditModel_coversAtOnce_25 rfl (lv_at hl 0 rfl) ?_
        refine xg_LinkAuditModel_50 hx hb hta hown hKv hP d_LinkAuditModel_coversAtOnce_26 ?_
        refine lv_iload_n hx hb d_LinkAuditModel_coversAtOnce_29 rfl (lv_at hl 2 rfl) ?_
        obtain ⟨g7, hf⟩ := gd_ok hf
        refine x_ild hx hb hKv hP r_c14 g7 d_LinkAuditModel_coversAtOnce_30 ?_
        refine lv_iconst (v := (3 : Int32)) hx hb d_LinkAuditModel_coversAtOnce_31 (by decide) ?_
        refine lv_iand hx hb d_LinkAuditModel_coversAtOnce_32 ?_
        refine lv_iconst (v := (2 : Int32)) hx hb d_LinkAuditModel_coversAtOnce_33 (by decide) ?_
        refine lv_icmp_lt (tgt := 56) hx hb d_LinkAuditModel_coversAtOnce_34 (by decide) (fun c8 => ?_) (fun c8 => ?_)
        · have hf := ifp c8 hf
          refine lv_iconst (v := (1 : Int32)) hx hb d_LinkAuditModel_coversAtOnce_56 (by decide) ?_
          refine lv_goto (tgt := 61) hx hb d_LinkAuditModel_coversAtOnce_57 (by decide) ?_
          exact hret (Or.inr rfl) hf hP hS d_LinkAuditModel_coversAtOnce_61
        · have hf := ifn c8 hf
          refine lv_aload_n hx hb d_LinkAuditModel_coversAtOnce_37 rfl (lv_at hl 0 rfl) ?_
          refine lv_aload_n hx hb d_LinkAuditModel_coversAtOnce_38 rfl (lv_at hl 0 rfl) ?_
          refine xg_LinkAuditModel_34 hx hb hta hown hKv hP d_LinkAuditModel_coversAtOnce_39 ?_
          refine lv_iload_n hx hb d_LinkAuditModel_coversAtOnce_42 rfl (lv_at hl 1 rfl) ?_
          obtain ⟨g9, hf⟩ := gd_ok hf
          refine x_ild hx hb hKv hP r_c9 g9 d_LinkAuditModel_coversAtOnce_43 ?_
          refine lv_aload_n hx hb d_LinkAuditModel_coversAtOnce_44 rfl (lv_at hl 0 rfl) ?_
          refine xg_LinkAuditModel_34 hx hb hta hown hKv hP d_LinkAuditModel_coversAtOnce_45 ?_
          refine lv_iload_n hx hb d_LinkAuditModel_coversAtOnce_48 rfl (lv_at hl 2 rfl) ?_
          obtain ⟨g10, hf⟩ := gd_ok hf
          refine x_ild hx hb hKv hP r_c9 g10 d_LinkAuditModel_coversAtOnce_49 ?_
          obtain ⟨r8, hc11, hf⟩ := bd1_e hf
          refine xvr_LinkAuditModel_118 X hkk hD (Nat.le_of_ble_eq_true rfl) ⟨by dsimp only [rmR]; omega, by dsimp only [rmR]; omega⟩ ⟨Nat.zero_le _, Nat.zero_le _⟩ hc11 hl.1 hP hS d_LinkAuditModel_coversAtOnce_50 (fun H locs hP hS => ?_)
          refine lv_if_eq (tgt := 60) hx hb d_LinkAuditModel_coversAtOnce_53 (by decide) (fun c12 => ?_) (fun c12 => ?_)
          · have hf := ifp c12 hf
            refine lv_iconst (v := (0 : Int32)) hx hb d_LinkAuditModel_coversAtOnce_60 (by decide) ?_
            exact hret (Or.inl rfl) hf hP hS d_LinkAuditModel_coversAtOnce_61
          · have hf := ifn c12 hf
            refine lv_iconst (v := (1 : Int32)) hx hb d_LinkAuditModel_coversAtOnce_56 (by decide) ?_
            refine lv_goto (tgt := 61) hx hb d_LinkAuditModel_coversAtOnce_57 (by decide) ?_
            exact hret (Or.inr rfl) hf hP hS d_LinkAuditModel_coversAtOnce_61
