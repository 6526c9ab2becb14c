-- LinkAudit$Selector.isOverriding
set_option maxHeartbeats 4000000 in
set_option maxRecDepth 100000 in
theorem c_Selector_isOverriding {l : Launch} {D : va_G} {cI cL cG cZ : ClassId} {ad : Nat → Nat} {M : Mem} {a1 : Int32} {a2 : Int32} {r : Int32} (hD : ∀ M, va_D (c_A ad) (c_ws cI cL cG cZ ad M)) (hf : f_Selector_isOverriding M a1 a2 = some r) : Mi l y_Selector_isOverriding (.code y_Selector_isOverriding prog_10_method_7_code 4 (some .boolean) :: ALLW) (rmR 3 66) (Kk D cI cL cG cZ) D vwC (c_A ad) (c_ws cI cL cG cZ ad) [.ref (ad 8), .int a1, .int a2] M M r := by
  refine Mz_ofR (by decide) (Nat.le_of_ble_eq_true rfl) ?_
  intro p e s m args below meth c ls Q X hkk hret hP hl
  obtain ⟨hx, hb, hml, hown, hta⟩ := id X
  have hKv := hkk.1
  have hS : va_S (c_A ad) s.heap s.heap [] := va_S.rf
  have hl : lv_has ls 4 [(0, .ref (ad 8)), (1, .int a1), (2, .int a2)] := hl
  unfold f_Selector_isOverriding at hf
  refine lv_aload_n hx hb d_Selector_isOverriding_0 rfl (lv_at hl 0 rfl) ?_
  refine xg_Selector_33 hx hb hta hown hKv hP d_Selector_isOverriding_1 ?_
  refine xg_Selector_51 hx hb hta hown hKv hP d_Selector_isOverriding_4 ?_
  refine lv_iload_n hx hb d_Selector_isOverriding_7 rfl (lv_at hl 1 rfl) ?_
  obtain ⟨g1, hf⟩ := gd_ok hf
  refine x_ild hx hb hKv hP c_c29 g1 d_Selector_isOverriding_8 ?_
  refine lv_istore_n (lv' := [(3, .int (M.1 29 a1.toNatClampNeg)), (0, .ref (ad 8)), (1, .int a1), (2, .int a2)]) hx hb d_Selector_isOverriding_9 rfl hl (by decide) rfl (fun ls hl => ?_)
  refine lv_aload_n hx hb d_Selector_isOverriding_10 rfl (lv_at hl 1 rfl) ?_
  refine xg_Selector_21 hx hb hta hown hKv hP d_Selector_isOverriding_11 ?_
  refine lv_iload_n hx hb d_Selector_isOverriding_14 rfl (lv_at hl 0 rfl) ?_
  obtain ⟨r4, hc2, hf⟩ := bd1_e hf
  refine xvc_Selector_103 X hkk hD (Nat.le_of_ble_eq_true rfl) ⟨by dsimp only [rmR]; omega, by dsimp only [rmR]; omega⟩ ⟨Nat.zero_le _, Nat.zero_le _⟩ hc2 hl.1 hP hS d_Selector_isOverriding_15 (fun H locs hP hS => ?_)
  refine lv_if_eq (tgt := 54) hx hb d_Selector_isOverriding_18 (by decide) (fun c3 => ?_) (fun c3 => ?_)
  · have hf := ifp c3 hf
    refine lv_iconst (v := (0 : Int32)) hx hb d_Selector_isOverriding_54 (by decide) ?_
    exact hret (Or.inl rfl) hf hP hS d_Selector_isOverriding_55
  · have hf := ifn c3 hf
    refine lv_aload_n hx hb d_Selector_isOverriding_21 rfl (lv_at hl 1 rfl) ?_
    refine xg_Selector_21 hx hb hta hown hKv hP d_Selector_isOverriding_22 ?_
    refine lv_iload_n hx hb d_Selector_isOverriding_25 rfl (lv_at hl 0 rfl) ?_
    refine lv_aload_n hx hb d_Selector_isOverriding_26 rfl (lv_at hl 1 rfl) ?_
    refine xg_Selector_33 hx hb hta hown hKv hP d_Selector_isOverriding_27 ?_
    refine xg_Selector_51 hx hb hta hown hKv hP d_Selector_isOverriding_30 ?_
    refine lv_iload_n hx hb d_Selector_isOverriding_33 rfl (lv_at hl 3 rfl) ?_
    obtain ⟨g4, hf⟩ := gd_ok hf
    refine x_ild hx hb hKv hP c_c29 g4 d_Selector_isOverriding_34 ?_
    obtain ⟨r5, hc5, hf⟩ := bd1_e hf
    refine xvc_Selector_107 X hkk hD (Nat.le_of_ble_eq_true rfl) ⟨by dsimp only [rmR]; omega, by dsimp only [rmR]; omega⟩ ⟨Nat.zero_le _, Nat.zero_le _⟩ hc5 hl.1 hP hS d_Selector_isOverriding_35 (fun H locs hP hS => ?_)
    refine lv_if_eq (tgt := 54) hx hb d_Selector_isOverriding_38 (by decide) (fun c6 => ?_) (fun c6 => ?_)
    · have hf := ifp c6 hf
      refine lv_iconst (v := (0 : Int32)) hx hb d_Selector_isOverriding_54 (by decide) ?_
      exact hret (Or.inl rfl) hf hP hS d_Selector_isOverriding_55
    · have hf := ifn c6 hf
      refine lv_aload_n hx hb d_Selector_isOverriding_41 rfl (lv_at hl 1 rfl) ?_
      refine lv_iload_n hx hb d_Selector_isOverriding_42 rfl (lv_at hl 2 rfl) ?_
      refine lv_iload_n hx hb d_Selector_isOverriding_43 rfl (lv_at hl 3 rfl) ?_
      obtain ⟨r6, hc7, hf⟩ := bd1_e hf
      refine xvc_Selector_110 X hkk hD (Nat.le_of_ble_eq_true rfl) ⟨by dsimp only [rmR]; omega, by dsimp only [rmR]; omega⟩ ⟨Nat.zero_le _, Nat.zero_le _⟩ hc7 hl.1 hP hS d_Selector_isOverriding_44 (fun H locs hP hS => ?_)
      refine lv_if_eq (tgt := 54) hx hb d_Selector_isOverriding_47 (by decide) (fun c8 => ?_) (fun c8 => ?_)
      · have hf := ifp c8 hf
        refine lv_iconst (v := (0 : Int32)) hx hb d_Selector_isOverriding_54 (by decide) ?_
        exact hret (Or.inl rfl) hf hP hS d_Selector_isOverriding_55
      · have hf := ifn c8 hf
        refine lv_iconst (v := (1 : Int32)) hx hb d_Selector_isOverriding_50 (by decide) ?_
        refine lv_goto (tgt := 55) hx hb d_Selector_isOverriding_51 (by decide) ?_
        exact hret (Or.inr rfl) hf hP hS d_Selector_isOverriding_55
-- LinkAudit.overrides
theorem xvc_LinkAudit_163 {p : Program} {l : Launch} {e : Env} {R : Room} {s : State} {m : MethodId} {args : Array Value} {below : List Frame} {meth : Method} {c : Code} {H : Heap} {locs : List Loc} {cells slots : Nat} {Q : State → Prop} {cc : ByteArray} {pc : Nat} {ls : Array Slot} {rest : List Value} {D : va_G} {cI cL cG cZ : ClassId} {ad : Nat → Nat} {M : Mem} {H0 : Heap} {nL : Nat} {a0 : Int32} {a1 : Int32} {r : Int32} (X : CallFix p m c cc nL s args ALLW "LinkAudit") (hkk : Kk D cI cL cG cZ s) (hD : ∀ M, va_D (c_A ad) (c_ws cI cL cG cZ ad M)) (hrest : (rest.map fun v => v.category).sum ≤ 8) (hR : 3 + 1 ≤ R.frames ∧ 8 + (4 + 11) + 66 ≤ R.locals) (hcs : cells + 0 ≤ R.cells ∧ slots + 0 ≤ R.slots) (hc : f_Selector_isOverriding M a0 a1 = some r) (hsz : ls.size = nL) (hP : va_P D vwC (c_ws cI cL cG cZ ad M) H) (hS : va_S (c_A ad) H0 H locs) (hdg : decode cc pc = .ok (.invokevirtual 163, 3))
    (kk : ∀ (H1 : Heap) (locs1 : List Loc), va_P D vwC (c_ws cI cL cG cZ ad M) H1 → va_S (c_A ad) H0 H1 locs1 → W p l e R s m args below meth c H1 locs1 cells slots Q (F0 m (pc + 3) ls (.int r :: rest))) : W p l e R s m args below meth c H locs cells slots Q (F0 m pc ls (.int a1 :: .int a0 :: .ref (ad 8) :: rest)) := by
  have hta := X.2.2.2.2
  exact x_afterI (va_runV (As := [.int a0, .int a1]) (rest := rest) X (c_Selector_isOverriding hD hc) ⟨callB_of 2 hta (good_all (L := .code y_Selector_isOverriding prog_10_method_7_code 4 (some .boolean) :: ALLW) (List.forall_mem_cons.mpr ⟨wm_626, fun _ h => h⟩)) rfl rfl rfl (hta _ wm_9) (hta _ wm_623) (by decide +kernel) hR, hta _ wm_624, hta _ wm_625⟩ ⟨x_blind Kk_w _, va_recv hkk.1 hP (ci := 8) (q0 := 8) rfl c_c8, x_pre Kk_w hkk hP _⟩ rfl rfl hsz rfl (lv_room hrest) hdg hcs) hS kk
set_option maxHeartbeats 4000000 in
set_option maxRecDepth 100000 in
theorem c_LinkAudit_overrides {l : Launch} {D : va_G} {cI cL cG cZ : ClassId} {ad : Nat → Nat} {M M' : Mem} {a1 : Int32} {a2 : Int32} {r : Int32} (hD : ∀ M, va_D (c_A ad) (c_ws cI cL cG cZ ad M)) (hf : f_LinkAudit_overrides M a1 a2 = some (r, M')) : Mi l y_LinkAudit_overrides (.code y_LinkAudit_overrides prog_1_method_12_code 3 (some .boolean) :: ALLW) (rmR 86 2292) (Kk D cI cL cG cZ) D vwC (c_A ad) (c_ws cI cL cG cZ ad) [.ref (ad 0), .int a1, .int a2] M M' r := by
  refine Mz_of (by decide) (Nat.le_of_ble_eq_true rfl) ?_
  intro p e s m args below meth c ls Q X hkk hret hP hl
  obtain ⟨hx, hb, hml, hown, hta⟩ := id X
  have hKv := hkk.1
  have hS : va_S (c_A ad) s.heap s.heap [] := va_S.rf
  have hl : lv_has ls 3 [(0, .ref (ad 0)), (1, .int a1), (2, .int a2)] := hl
  unfold f_LinkAudit_overrides at hf
  refine lv_aload_n hx hb d_LinkAudit_overrides_0 rfl (lv_at hl 0 rfl) ?_
  refine lv_iload_n hx hb d_LinkAudit_overrides_1 rfl (lv_at hl 1 rfl) ?_
  obtain ⟨r5, hc1, hf⟩ := bd1_e hf
  refine xvc_LinkAudit_154 X hkk hD (Nat.le_of_ble_eq_true rfl) ⟨by dsimp only [rmR]; omega, by dsimp only [rmR]; omega⟩ ⟨Nat.zero_le _, Nat.zero_le _⟩ hc1 hl.1 hP hS d_LinkAudit_overrides_2 (fun H locs hP hS => ?_)
  refine lv_if_eq (tgt := 16) hx hb d_LinkAudit_overrides_5 (by decide) (fun c2 => ?_) (fun c2 => ?_)
  · have hf := ifp c2 hf
    refine lv_iconst (v := (0 : Int32)) hx hb d_LinkAudit_overrides_16 (by decide) ?_
    exact hret (Or.inl rfl) hf hP hS d_LinkAudit_overrides_17
  · have hf := ifn c2 hf
    refine lv_aload_n hx hb d_LinkAudit_overrides_8 rfl (lv_at hl 0 rfl) ?_
    refine lv_iload_n hx hb d_LinkAudit_overrides_9 rfl (lv_at hl 2 rfl) ?_
    obtain ⟨r6, hc3, hf⟩ := bd1_e hf
    refine xvc_LinkAudit_154 X hkk hD (Nat.le_of_ble_eq_true rfl) ⟨by dsimp only [rmR]; omega, by dsimp only [rmR]; omega⟩ ⟨Nat.zero_le _, Nat.zero_le _⟩ hc3 hl.1 hP hS d_LinkAudit_overrides_10 (fun H locs hP hS => ?_)
    refine lv_if_ne (tgt := 18) hx hb d_LinkAudit_overrides_13 (by decide) (fun c4 => ?_) (fun c4 => ?_)
    · have hf := ifn c4 hf
      refine lv_aload_n hx hb d_LinkAudit_overrides_18 rfl (lv_at hl 0 rfl) ?_
      obtain ⟨M7, hc5, hf⟩ := bd1_e hf
      refine xvc_LinkAudit_144 X hkk hD (Nat.le_of_ble_eq_true rfl) ⟨by dsimp only [rmR]; omega, by dsimp only [rmR]; omega⟩ ⟨Nat.zero_le _, Nat.zero_le _⟩ hc5 hl.1 hP hS d_LinkAudit_overrides_19 (fun H locs hP hS => ?_)
      refine lv_aload_n hx hb d_LinkAudit_overrides_22 rfl (lv_at hl 0 rfl) ?_
      refine xg_LinkAudit_65 hx hb hta hown hKv hP d_LinkAudit_overrides_23 ?_
      refine lv_iload_n hx hb d_LinkAudit_overrides_26 rfl (lv_at hl 1 rfl) ?_
      refine lv_iload_n hx hb d_LinkAudit_overrides_27 rfl (lv_at hl 2 rfl) ?_
      obtain ⟨r8, hc6, hf⟩ := bd1_e hf
      refine xvc_LinkAudit_163 X hkk hD (Nat.le_of_ble_eq_true rfl) ⟨by dsimp only [rmR]; omega, by dsimp only [rmR]; omega⟩ ⟨Nat.zero_le _, Nat.zero_le _⟩ hc6 hl.1 hP hS d_LinkAudit_overrides_28 (fun H locs hP hS => ?_)
      obtain ⟨g7, hf⟩ := gd_d hf
      exact hret g7 hf hP hS d_LinkAudit_overrides_31
    · have hf := ifp c4 hf
      refine lv_iconst (v := (0 : Int32)) hx hb d_LinkAudit_overrides_16 (by decide) ?_
      exact hret (Or.inl rfl) hf hP hS d_LinkAudit_overrides_17
-- LinkAudit$Selector.needsCode
theorem xvc_Selector_146 {p : Program} {l : Launch} {e : Env} {R : Room} {s : State} {m : MethodId} {args : Array Value} {below : List Frame} {meth : Method} {c : Code} {H : Heap} {locs : List Loc} {cells slots : Nat} {Q : State → Prop} {cc : ByteArray} {pc : Nat} {ls : Array Slot} {rest : List Value} {D : va_G} {cI cL cG cZ : ClassId} {ad : Nat → Nat} {M : Mem} {H0 : Heap} {nL : Nat} {a0 : Int32} {r : Int32} (X : CallFix p m c cc nL s args ALLW "LinkAudit$Selector") (hkk : Kk D cI cL cG cZ s) (hD : ∀ M, va_D (c_A ad) (c_ws cI cL cG cZ ad M)) (hrest : (rest.map fun v => v.category).sum ≤ 8) (hR : 0 + 1 ≤ R.frames ∧ 8 + (2 + 11) + 0 ≤ R.locals) (hcs : cells + 0 ≤ R.cells ∧ slots + 0 ≤ R.slots) (hc : f_Classes_isAbstract M a0 = some r) (hsz : ls.size = nL) (hP : va_P D vwC (c_ws cI cL cG cZ ad M) H) (hS : va_S (c_A ad) H0 H locs) (hdg : decode cc pc = .ok (.invokevirtual 146, 3))
    (kk : ∀ (H1 : Heap) (locs1 : List Loc), va_P D vwC (c_ws cI cL cG cZ ad M) H1 → va_S (c_A ad) H0 H1 locs1 → W p l e R s m args below meth c H1 locs1 cells slots Q (F0 m (pc + 3) ls (.int r :: rest))) : W p l e R s m args below meth c H locs cells slots Q (F0 m pc ls (.int a0 :: .ref (ad 2) :: rest)) := by
  have hta := X.2.2.2.2
  exact x_afterI (va_runV (As := [.int a0]) (rest := rest) X (c_Classes_isAbstract hD hc) ⟨callB_of 1 hta (good_all (L := .code y_Classes_isAbstract prog_3_method_4_code 2 (some .boolean) :: ALLW) (List.forall_mem_cons.mpr ⟨wm_532, fun _ h => h⟩)) rfl rfl rfl (hta _ wm_3) (hta _ wm_639) (by decide +kernel) hR, hta _ wm_530, hta _ wm_531⟩ ⟨x_blind Kk_w _, va_recv hkk.1 hP (ci := 2) (q0 := 2) rfl c_c2, x_pre Kk_w hkk hP _⟩ rfl rfl hsz rfl (lv_room hrest) hdg hcs) hS kk
set_option maxHeartbeats 4000000 in
set_option maxRecDepth 100000 in
theorem c_Selector_needsCode {l : Launch} {D : va_G} {cI cL cG cZ : ClassId} {ad : Nat → Nat} {M : Mem} {a1 : Int32} {a2 : Int32} {r : Int32} (hD : ∀ M, va_D (c_A ad) (c_ws cI cL cG cZ ad M)) (hf : f_Selector_needsCode M a1 a2 = some r) : Mi l y_Selector_needsCode (.code y_Selector_needsCode prog_10_method_12_code 3 (some .boolean) :: ALLW) (rmR 2 44) (Kk D cI cL cG cZ) D vwC (c_A ad) (c_ws cI cL cG cZ ad) [.ref (ad 8), .int a1, .int a2] M M r := by
  refine Mz_ofR (by decide) (Nat.le_of_ble_eq_true rfl) ?_
  intro p e s m args below meth c ls Q X hkk hret hP hl
  obtain ⟨hx, hb, hml, hown, hta⟩ := id X
  have hKv := hkk.1
  have hS : va_S (c_A ad) s.heap s.heap [] := va_S.rf
  have hl : lv_has ls 3 [(0, .ref (ad 8)), (1, .int a1), (2, .int a2)] := hl
  unfold f_Selector_needsCode at hf
  refine lv_aload_n hx hb d_Selector_needsCode_0 rfl (lv_at hl 0 rfl) ?_
  refine xg_Selector_21 hx hb hta hown hKv hP d_Selector_needsCode_1 ?_
  refine lv_iload_n hx hb d_Selector_needsCode_4 rfl (lv_at hl 1 rfl) ?_
  obtain ⟨r5, hc1, hf⟩ := bd1_e hf
  refine xvc_Selector_103 X hkk hD (Nat.le_of_ble_eq_true rfl) ⟨by dsimp only [rmR]; omega, by dsimp only [rmR]; omega⟩ ⟨Nat.zero_le _, Nat.zero_le _⟩ hc1 hl.1 hP hS d_Selector_needsCode_5 (fun H locs hP hS => ?_)
  refine lv_if_eq (tgt := 60) hx hb d_Selector_needsCode_8 (by decide) (fun c2 => ?_) (fun c2 => ?_)
  · have hf := ifp c2 hf
    refine lv_iconst (v := (0 : Int32)) hx hb d_Selector_needsCode_60 (by decide) ?_
    exact hret (Or.inl rfl) hf hP hS d_Selector_needsCode_61
  · have hf := ifn c2 hf
    refine lv_aload_n hx hb d_Selector_needsCode_11 rfl (lv_at hl 0 rfl) ?_
    refine xg_Selector_28 hx hb hta hown hKv hP d_Selector_needsCode_12 ?_
    refine lv_iload_n hx hb d_Selector_needsCode_15 rfl (lv_at hl 1 rfl) ?_
    obtain ⟨r6, hc3, hf⟩ := bd1_e hf
    refine xvc_Selector_146 X hkk hD (Nat.le_of_ble_eq_true rfl) ⟨by dsimp only [rmR]; omega, by dsimp only [rmR]; omega⟩ ⟨Nat.zero_le _, Nat.zero_le _⟩ hc3 hl.1 hP hS d_Selector_needsCode_16 (fun H locs hP hS => ?_)
    refine lv_if_ne (tgt := 60) hx hb d_Selector_needsCode_19 (by decide) (fun c4 => ?_) (fun c4 => ?_)
    · have hf := ifn c4 hf
      refine lv_iconst (v := (0 : Int32)) hx hb d_Selector_needsCode_60 (by decide) ?_
      exact hret (Or.inl rfl) hf hP hS d_Selector_needsCode_61
    · have hf := ifp c4 hf
      refine lv_aload_n hx hb d_Selector_needsCode_22 rfl (lv_at hl 0 rfl) ?_
      refine xg_Selector_33 hx hb hta hown hKv hP d_Selector_needsCode_23 ?_
      refine xg_Selector_54 hx hb hta hown hKv hP d_Selector_needsCode_26 ?_
      refine lv_iload_n hx hb d_Selector_needsCode_29 rfl (lv_at hl 2 rfl) ?_
      obtain ⟨r7, hc5, hf⟩ := bd1_e hf
      refine xvc_Selector_58 X hkk hD (Nat.le_of_ble_eq_true rfl) ⟨by dsimp only [rmR]; omega, by dsimp only [rmR]; omega⟩ ⟨Nat.zero_le _, Nat.zero_le _⟩ hc5 hl.1 hP hS d_Selector_needsCode_30 (fun H locs hP hS => ?_)
      refine lv_if_eq (tgt := 60) hx hb d_Selector_needsCode_33 (by decide) (fun c6 => ?_) (fun c6 => ?_)
      · have hf := ifp c6 hf
        refine lv_iconst (v := (0 : Int32)) hx hb d_Selector_needsCode_60 (by decide) ?_
        exact hret (Or.inl rfl) hf hP hS d_Selector_needsCode_61
      · have hf := ifn c6 hf
        refine lv_aload_n hx hb d_Selector_needsCode_36 rfl (lv_at hl 0 rfl) ?_
        refine xg_Selector_21 hx hb hta hown hKv hP d_Selector_needsCode_37 ?_
        refine lv_iload_n hx hb d_Selector_needsCode_40 rfl (lv_at hl 1 rfl) ?_
        refine lv_aload_n hx hb d_Selector_needsCode_41 rfl (lv_at hl 0 rfl) ?_
        refine xg_Selector_33 hx hb hta hown hKv hP d_Selector_needsCode_42 ?_
        refine xg_Selector_51 hx hb hta hown hKv hP d_Selector_needsCode_45 ?_
        refine lv_iload_n hx hb d_Selector_needsCode_48 rfl (lv_at hl 2 rfl) ?_
        obtain ⟨g7, hf⟩ := gd_ok hf
        refine x_ild hx hb hKv hP c_c29 g7 d_Selector_needsCode_49 ?_
        obtain ⟨r8, hc8, hf⟩ := bd1_e hf
        refine xvc_Selector_107 X hkk hD (Nat.le_of_ble_eq_true rfl) ⟨by dsimp only [rmR]; omega, by dsimp only [rmR]; omega⟩ ⟨Nat.zero_le _, Nat.zero_le _⟩ hc8 hl.1 hP hS d_Selector_needsCode_50 (fun H locs hP hS => ?_)
        refine lv_if_eq (tgt := 60) hx hb d_Selector_needsCode_53 (by decide) (fun c9 => ?_) (fun c9 => ?_)
        · have hf := ifp c9 hf
          refine lv_iconst (v := (0 : Int32)) hx hb d_Selector_needsCode_60 (by decide) ?_
          exact hret (Or.inl rfl) hf hP hS d_Selector_needsCode_61
        · have hf := ifn c9 hf
          refine lv_iconst (v := (1 : Int32)) hx hb d_Selector_needsCode_56 (by decide) ?_
          refine lv_goto (tgt := 61) hx hb d_Selector_needsCode_57 (by decide) ?_
          exact hret (Or.inr rfl) hf hP hS d_Selector_needsCode_61
-- LinkAudit$Selector.gapCount
theorem xvc_Selector_140 {p : Program} {l : Launch} {e : Env} {R : Room} {s : State} {m : MethodId} {args : Array Value} {below : List Frame} {meth : Method} {c : Code} {H : Heap} {locs : List Loc} {cells slots : Nat} {Q : State → Prop} {cc : ByteArray} {pc : Nat} {ls : Array Slot} {rest : List Value} {D : va_G} {cI cL cG cZ : ClassId} {ad : Nat → Nat} {M : Mem} {H0 : Heap} {nL : Nat} {a0 : Int32} {a1 : Int32} {r : Int32} (X : CallFix p m c cc nL s args ALLW "LinkAudit$Selector") (hkk : Kk D cI cL cG cZ s) (hD : ∀ M, va_D (c_A ad) (c_ws cI cL cG cZ ad M)) (hrest : (rest.map fun v => v.category).sum ≤ 8) (hR : 2 + 1 ≤ R.frames ∧ 8 + (3 + 11) + 44 ≤ R.locals) (hcs : cells + 0 ≤ R.cells ∧ slots + 0 ≤ R.slots) (hc : f_Selector_needsCode M a0 a1 = some r) (hsz : ls.size = nL) (hP : va_P D vwC (c_ws cI cL cG cZ ad M) H) (hS : va_S (c_A ad) H0 H locs) (hdg : decode cc pc = .ok (.invokevirtual 140, 3))
    (kk : ∀ (H1 : Heap) (locs1 : List Loc), va_P D vwC (c_ws cI cL cG cZ ad M) H1 → va_S (c_A ad) H0 H1 locs1 → W p l e R s m args below meth c H1 locs1 cells slots Q (F0 m (pc + 3) ls (.int r :: rest))) : W p l e R s m args below meth c H locs cells slots Q (F0 m pc ls (.int a1 :: .int a0 :: .ref (ad 8) :: rest)) := by
  have hta := X.2.2.2.2
  exact x_afterI (va_runV (As := [.int a0, .int a1]) (rest := rest) X (c_Selector_needsCode hD hc) ⟨callB_of 2 hta (good_all (L := .code y_Selector_needsCode prog_10_method_12_code 3 (some .boolean) :: ALLW) (List.forall_mem_cons.mpr ⟨wm_638, fun _ h => h⟩)) rfl rfl rfl (hta _ wm_9) (hta _ wm_635) (by decide +kernel) hR, hta _ wm_637, hta _ wp_19⟩ ⟨x_blind Kk_w _, va_recv hkk.1 hP (ci := 8) (q0 := 8) rfl c_c8, x_pre Kk_w hkk hP _⟩ rfl rfl hsz rfl (lv_room hrest) hdg hcs) hS kk
theorem xvc_Selector_143 {p : Program} {l : Launch} {e : Env} {R : Room} {s : State} {m : MethodId} {args : Array Value} {below : List Frame} {meth : Method} {c : Code} {H : Heap} {locs : List Loc} {cells slots : Nat} {Q : State → Prop} {cc : ByteArray} {pc : Nat} {ls : Array Slot} {rest : List Value} {D : va_G} {cI cL cG cZ : ClassId} {ad : Nat → Nat} {M : Mem} {H0 : Heap} {nL : Nat} {a0 : Int32} {a1 : Int32} {r : Int32} (X : CallFix p m c cc nL s args ALLW "LinkAudit$Selector") (hkk : Kk D cI cL cG cZ s) (hD : ∀ M, va_D (c_A ad) (c_ws cI cL cG cZ ad M)) (hrest : (rest.map fun v => v.category).sum ≤ 8) (hR : 4 + 1 ≤ R.frames ∧ 8 + (5 + 11) + 94 ≤ R.locals) (hcs : cells + 0 ≤ R.cells ∧ slots + 0 ≤ R.slots) (hc : f_Selector_selected M a0 a1 = some r) (hsz : ls.size = nL) (hP : va_P D vwC (c_ws cI cL cG cZ ad M) H) (hS : va_S (c_A ad) H0 H locs) (hdg : decode cc pc = .ok (.invokevirtual 143, 3))
    (kk : ∀ (H1 : Heap) (locs1 : List Loc), va_P D vwC (c_ws cI cL cG cZ ad M) H1 → va_S (c_A ad) H0 H1 locs1 → W p l e R s m args below meth c H1 locs1 cells slots Q (F0 m (pc + 3) ls (.int r :: rest))) : W p l e R s m args below meth c H locs cells slots Q (F0 m pc ls (.int a1 :: .int a0 :: .ref (ad 8) :: rest)) := by
  have hta := X.2.2.2.2
  exact x_afterI (va_runV (As := [.int a0, .int a1]) (rest := rest) X (c_Selector_selected hD hc) ⟨callB_of 2 hta (good_all (L := .code y_Selector_selected prog_10_method_9_code 5 (some .int) :: ALLW) (List.forall_mem_cons.mpr ⟨wm_607, fun _ h => h⟩)) rfl rfl rfl (hta _ wm_9) (hta _ wm_640) (by decide +kernel) hR, hta _ wm_605, hta _ wm_606⟩ ⟨x_blind Kk_w _, va_recv hkk.1 hP (ci := 8) (q0 := 8) rfl c_c8, x_pre Kk_w hkk hP _⟩ rfl rfl hsz rfl (lv_room hrest) hdg hcs) hS kk
theorem xg_Selector_139 {p : Program} {l : Launch} {e : Env} {R : Room} {s : State} {m : MethodId} {args : Array Value} {below : List Frame} {meth : Method} {c : Code} {H : Heap} {locs : List Loc} {cells slots : Nat} {Q : State → Prop} {cc : ByteArray} {pc : Nat} {ls : Array Slot} {rest : List Value} {D : va_G} {cI cL cG cZ : ClassId} {ad : Nat → Nat} {M : Mem} (hx : p.tables.exec = Jvm.exec) (hb : c.code = cc) (hta : ∀ w ∈ ALLW, w.before args s = true) (hown : s.vm.findClass "LinkAudit$Selector" = some m.cls) (hK : va_K D vwC [(cI, .int), (cL, .long), (cG, .array .int), (cZ, .boolean)] s) (hP : va_P D vwC (c_ws cI cL cG cZ ad M) H) (hdg : decode cc pc = .ok (.getfield 139, 3))
    (kk : W p l e R s m args below meth c H locs cells slots Q (F0 m (pc + 3) ls (.int (M.1 2 5) :: rest))) : W p l e R s m args below meth c H locs cells slots Q (F0 m pc ls (.ref (ad 2) :: rest)) :=
  va_get (D := D) (ci := 2) (v := .int (M.1 2 5)) (C := "LinkAudit$Classes") (T := T_Classes) (N := 6) hx hb hta i_Classes hown hK hP 2 c_c2 rfl 5 (by decide) (hta _ wm_68) (fun _ h9 => h9) rfl hdg kk
set_option maxHeartbeats 4000000 in
set_option maxRecDepth 100000 in
theorem c_Selector_gapCount {l : Launch} {D : va_G} {cI cL cG cZ : ClassId} {ad : Nat → Nat} {M : Mem} {r : Int32} (hD : ∀ M, va_D (c_A ad) (c_ws cI cL cG cZ ad M)) (hf : f_Selector_gapCount M = some r) : Mi l y_Selector_gapCount (.code y_Selector_gapCount prog_10_method_11_code 4 (some .int) :: ALLW) (rmR 5 118) (Kk D cI cL cG cZ) D vwC (c_A ad) (c_ws cI cL cG cZ ad) [.ref (ad 8)] M M r := by
  refine Mi_ofR (by decide) (Nat.le_of_ble_eq_true rfl) ?_
  intro p e s m args below meth c ls Q X hkk hret hP hl
  obtain ⟨hx, hb, hml, hown, hta⟩ := id X
  have hKv := hkk.1
  have hS : va_S (c_A ad) s.heap s.heap [] := va_S.rf
  have hl : lv_has ls 4 [(0, .ref (ad 8))] := hl
  have L4 : ∀ (ke61 : Int32 → Option Int32), ke61 = (fun y1 => some (y1)) → ∀ (n4 : Nat) (x1 : Int32) (x2 : Int32) (H : Heap) (locs : List Loc) (ls : Array Slot), f_Selector_gapCount_L4 M ke61 n4 x1 x2 = some r → va_P D vwC (c_ws cI cL cG cZ ad M) H → va_S (c_A ad) s.heap H locs → lv_has ls 4 [(0, .ref (ad 8)), (1, .int x1), (2, .int x2)] → W p l e (rmR 5 118) s m args below meth c H locs 0 0 Q (F0 m 4 ls []) := by
    intro ke61 hke61 n4
    induction n4 with
    | zero => intro x1 x2 H locs ls hf; exact absurd (show (none : Option _) = some _ from hf) (fun q => by cases q)
    | succ n4 ih4 =>
      intro x1 x2 H locs ls hf hP hS hl
      rw [f_Selector_gapCount_L4] at hf
      have L17 : ∀ (x2 : Int32), ∀ (ke55 : Int32 → Option Int32), ke55 = (fun y1 => f_Selector_gapCount_L4 M ke61 n4 y1 (x2 + (1 : Int32))) → ∀ (n17 : Nat) (x1 : Int32) (x3 : Int32) (H : Heap) (locs : List Loc) (ls : Array Slot), f_Selector_gapCount_L17 M x2 ke55 n17 x1 x3 = some r → va_P D vwC (c_ws cI cL cG cZ ad M) H → va_S (c_A ad) s.heap H locs → lv_has ls 4 [(0, .ref (ad 8)), (1, .int x1), (2, .int x2), (3, .int x3)] → W p l e (rmR 5 118) s m args below meth c H locs 0 0 Q (F0 m 17 ls []) := by
        intro x2 ke55 hke55 n17
        induction n17 with
        | zero => intro x1 x3 H locs ls hf; exact absurd (show (none : Option _) = some _ from hf) (fun q => by cases q)
        | succ n17 ih17 =>
          intro x1 x3 H locs ls hf hP hS hl
          rw [f_Selector_gapCount_L17] at hf
          refine lv_iload_n hx hb d_Selector_gapCount_17 rfl (lv_at hl 3 rfl) ?_
          refine lv_aload_n hx hb d_Selector_gapCount_18 rfl (lv_at hl 0 rfl) ?_
          refine xg_Selector_33 hx hb hta hown hKv hP d_Selector_gapCount_19 ?_
          refine xg_Selector_46 hx hb hta hown hKv hP d_Selector_gapCount_22 ?_
          refine lv_icmp_gt (tgt := 55) hx hb d_Selector_gapCount_25 (by decide) (fun c1 => ?_) (fun c1 => ?_)
          · have hf := ifp c1 hf
            rw [hke55] at hf
            refine lv_iinc (v := (x2 + (1 : Int32))) (lv' := [(2, .int (x2 + (1 : Int32))), (0, .ref (ad 8)), (1, .int x1), (3, .int x3)]) hx hb d_Selector_gapCount_55 hl (k := 2) rfl rfl (by decide) rfl (fun ls hl => ?_)
            refine lv_goto (tgt := 4) hx hb d_Selector_gapCount_58 (by decide) ?_
            exact ih4 x1 (x2 + (1 : Int32)) _ _ _ hf hP hS (lv_sub hl [1, 2, 0] rfl)
          · have hf := ifn c1 hf
            refine lv_aload_n hx hb d_Selector_gapCount_28 rfl (lv_at hl 0 rfl) ?_
            refine lv_iload_n hx hb d_Selector_gapCount_29 rfl (lv_at hl 2 rfl) ?_
            refine lv_iload_n hx hb d_Selector_gapCount_30 rfl (lv_at hl 3 rfl) ?_
            obtain ⟨r3, hc2, hf⟩ := bd1_e hf
            refine xvc_Selector_140 X hkk hD (Nat.le_of_ble_eq_true rfl) ⟨by dsimp only [rmR]; omega, by dsimp only [rmR]; omega⟩ ⟨Nat.zero_le _, Nat.zero_le _⟩ hc2 hl.1 hP hS d_Selector_gapCount_31 (fun H locs hP hS => ?_)
            refine lv_if_eq (tgt := 49) hx hb d_Selector_gapCount_34 (by decide) (fun c3 => ?_) (fun c3 => ?_)
            · have hf := ifp c3 hf
              refine lv_iinc (v := (x3 + (1 : Int32))) (lv' := [(3, .int (x3 + (1 : Int32))), (0, .ref (ad 8)), (1, .int x1), (2, .int x2)]) hx hb d_Selector_gapCount_49 hl (k := 3) rfl rfl (by decide) rfl (fun ls hl => ?_)
              refine lv_goto (tgt := 17) hx hb d_Selector_gapCount_52 (by decide) ?_
              exact ih17 x1 (x3 + (1 : Int32)) _ _ _ hf hP hS (lv_sub hl [1, 2, 3, 0] rfl)
            · have hf := ifn c3 hf
              refine lv_aload_n hx hb d_Selector_gapCount_37 rfl (lv_at hl 0 rfl) ?_
              refine lv_iload_n hx hb d_Selector_gapCount_38 rfl (lv_at hl 2 rfl) ?_
              refine lv_iload_n hx hb d_Selector_gapCount_39 rfl (lv_at hl 3 rfl) ?_
              obtain ⟨r4, hc4, hf⟩ := bd1_e hf
              refine xvc_Selector_143 X hkk hD (Nat.le_of_ble_eq_true rfl) ⟨by dsimp only [rmR]; omega, by dsimp only [rmR]; omega⟩ ⟨Nat.zero_le _, Nat.zero_le _⟩ hc4 hl.1 hP hS d_Selector_gapCount_40 (fun H locs hP hS => ?_)
              refine lv_if_ge (tgt := 49) hx hb d_Selector_gapCount_43 (by decide) (fun c5 => ?_) (fun c5 => ?_)
              · have hf := ifp c5 hf
                refine lv_iinc (v := (x3 + (1 : Int32))) (lv' := [(3, .int (x3 + (1 : Int32))), (0, .ref (ad 8)), (1, .int x1), (2, .int x2)]) hx hb d_Selector_gapCount_49 hl (k := 3) rfl rfl (by decide) rfl (fun ls hl => ?_)
                refine lv_goto (tgt := 17) hx hb d_Selector_gapCount_52 (by decide) ?_
                exact ih17 x1 (x3 + (1 : Int32)) _ _ _ hf hP hS (lv_sub hl [1, 2, 3, 0] rfl)
              · have hf := ifn c5 hf
                refine lv_iinc (v := (x1 + (1 : Int32))) (lv' := [(1, .int (x1 + (1 : Int32))), (0, .ref (ad 8)), (2, .int x2), (3, .int x3)]) hx hb d_Selector_gapCount_46 hl (k := 1) rfl rfl (by decide) rfl (fun ls hl => ?_)
                refine lv_iinc (v := (x3 + (1 : Int32))) (lv' := [(3, .int (x3 + (1 : Int32))), (1, .int (x1 + (1 : Int32))), (0, .ref (ad 8)), (2, .int x2)]) hx hb d_Selector_gapCount_49 hl (k := 3) rfl rfl (by decide) rfl (fun ls hl => ?_)
                refine lv_goto (tgt := 17) hx hb d_Selector_gapCount_52 (by decide) ?_
                exact ih17 (x1 + (1 : Int32)) (x3 + (1 : Int32)) _ _ _ hf hP hS (lv_sub hl [2, 1, 3, 0] rfl)
      refine lv_iload_n hx hb d_Selector_gapCount_4 rfl (lv_at hl 2 rfl) ?_
      refine lv_aload_n hx hb d_Selector_gapCount_5 rfl (lv_at hl 0 rfl) ?_
      refine xg_Selector_28 hx hb hta hown hKv hP d_Selector_gapCount_6 ?_
      refine xg_Selector_139 hx hb hta hown hKv hP d_Selector_gapCount_9 ?_
      refine lv_icmp_gt (tgt := 61) hx hb d_Selector_gapCount_12 (by decide) (fun c6 => ?_) (fun c6 => ?_)
      · have hf := ifp c6 hf
        rw [hke61] at hf
        refine lv_iload_n hx hb d_Selector_gapCount_61 rfl (lv_at hl 1 rfl) ?_
        exact hret hf hP hS d_Selector_gapCount_62
      · have hf := ifn c6 hf
        refine lv_iconst (v := (1 : Int32)) hx hb d_Selector_gapCount_15 (by decide) ?_
        refine lv_istore_n (lv' := [(3, .int (1 : Int32)), (0, .ref (ad 8)), (1, .int x1), (2, .int x2)]) hx hb d_Selector_gapCount_16 rfl hl (by decide) rfl (fun ls hl => ?_)
        exact L17 x2 _ rfl FU x1 (1 : Int32) _ _ _ hf hP hS (lv_sub hl [1, 2, 3, 0] rfl)
  unfold f_Selector_gapCount at hf
  refine lv_iconst (v := (0 : Int32)) hx hb d_Selector_gapCount_0 (by decide) ?_
  refine lv_istore_n (lv' := [(1, .int (0 : Int32)), (0, .ref (ad 8))]) hx hb d_Selector_gapCount_1 rfl hl (by decide) rfl (fun ls hl => ?_)
  refine lv_iconst (v := (1 : Int32)) hx hb d_Selector_gapCount_2 (by decide) ?_
  refine lv_istore_n (lv' := [(2, .int (1 : Int32)), (1, .int (0 : Int32)), (0, .ref (ad 8))]) hx hb d_Selector_gapCount_3 rfl hl (by decide) rfl (fun ls hl => ?_)
  exact L4  _ rfl FU (0 : Int32) (1 : Int32) _ _ _ hf hP hS (lv_sub hl [2, 1, 0] rfl)
-- LinkAudit.gaps
theorem xvc_LinkAudit_166 {p : Program} {l : Launch} {e : Env} {R : Room} {s : State} {m : MethodId} {args : Array Value} {below : List Frame} {meth : Method} {c : Code} {H : Heap} {locs : List Loc} {cells slots : Nat} {Q : State → Prop} {cc : ByteArray} {pc : Nat} {ls : Array Slot} {rest : List Value} {D : va_G} {cI cL cG cZ : ClassId} {ad : Nat → Nat} {M : Mem} {H0 : Heap} {nL : Nat}  {r : Int32} (X : CallFix p m c cc nL s args ALLW "LinkAudit") (hkk : Kk D cI cL cG cZ s) (hD : ∀ M, va_D (c_A ad) (c_ws cI cL cG cZ ad M)) (hrest : (rest.map fun v => v.category).sum ≤ 8) (hR : 5 + 1 ≤ R.frames ∧ 8 + (4 + 11) + 118 ≤ R.locals) (hcs : cells + 0 ≤ R.cells ∧ slots + 0 ≤ R.slots) (hc : f_Selector_gapCount M = some r) (hsz : ls.size = nL) (hP : va_P D vwC (c_ws cI cL cG cZ ad M) H) (hS : va_S (c_A ad) H0 H locs) (hdg : decode cc pc = .ok (.invokevirtual 166, 3))
    (kk : ∀ (H1 : Heap) (locs1 : List Loc), va_P D vwC (c_ws cI cL cG cZ ad M) H1 → va_S (c_A ad) H0 H1 locs1 → W p l e R s m args below meth c H1 locs1 cells slots Q (F0 m (pc + 3) ls (.int r :: rest))) : W p l e R s m args below meth c H locs cells slots Q (F0 m pc ls (.ref (ad 8) :: rest)) := by
  have hta := X.2.2.2.2
  exact x_afterI (va_runV (As := []) (rest := rest) X (c_Selector_gapCount hD hc) ⟨callB_of 0 hta (good_all (L := .code y_Selector_gapCount prog_10_method_11_code 4 (some .int) :: ALLW) (List.forall_mem_cons.mpr ⟨wm_634, fun _ h => h⟩)) rfl rfl rfl (hta _ wm_9) (hta _ wm_631) (by decide +kernel) hR, hta _ wm_632, hta _ wm_633⟩ ⟨x_blind Kk_w _, va_recv hkk.1 hP (ci := 8) (q0 := 8) rfl c_c8, x_pre Kk_w hkk hP _⟩ rfl rfl hsz rfl (lv_room hrest) hdg hcs) hS kk
set_option maxHeartbeats 4000000 in
set_option maxRecDepth 100000 in
theorem c_LinkAudit_gaps {l : Launch} {D : va_G} {cI cL cG cZ : ClassId} {ad : Nat → Nat} {M M' : Mem} {r : Int32} (hD : ∀ M, va_D (c_A ad) (c_ws cI cL cG cZ ad M)) (hf : f_LinkAudit_gaps M = some (r, M')) : Mi l y_LinkAudit_gaps (.code y_LinkAudit_gaps prog_1_method_13_code 1 (some .int) :: ALLW) (rmR 86 2292) (Kk D cI cL cG cZ) D vwC (c_A ad) (c_ws cI cL cG cZ ad) [.ref (ad 0)] M M' r := by
  refine Mi_of (by decide) (Nat.le_of_ble_eq_true rfl) ?_
  intro p e s m args below meth c ls Q X hkk hret hP hl
  obtain ⟨hx, hb, hml, hown, hta⟩ := id X
  have hKv := hkk.1
  have hS : va_S (c_A ad) s.heap s.heap [] := va_S.rf
  have hl : lv_has ls 1 [(0, .ref (ad 0))] := hl
  unfold f_LinkAudit_gaps at hf
  refine lv_aload_n hx hb d_LinkAudit_gaps_0 rfl (lv_at hl 0 rfl) ?_
  obtain ⟨M3, hc1, hf⟩ := bd1_e hf
  refine xvc_LinkAudit_144 X hkk hD (Nat.le_of_ble_eq_true rfl) ⟨by dsimp only [rmR]; omega, by dsimp only [rmR]; omega⟩ ⟨Nat.zero_le _, Nat.zero_le _⟩ hc1 hl.1 hP hS d_LinkAudit_gaps_1 (fun H locs hP hS => ?_)
  refine lv_aload_n hx hb d_LinkAudit_gaps_4 rfl (lv_at hl 0 rfl) ?_
  refine xg_LinkAudit_65 hx hb hta hown hKv hP d_LinkAudit_gaps_5 ?_
  obtain ⟨r4, hc2, hf⟩ := bd1_e hf
  refine xvc_LinkAudit_166 X hkk hD (Nat.le_of_ble_eq_true rfl) ⟨by dsimp only [rmR]; omega, by dsimp only [rmR]; omega⟩ ⟨Nat.zero_le _, Nat.zero_le _⟩ hc2 hl.1 hP hS d_LinkAudit_gaps_8 (fun H locs hP hS => ?_)
  exact hret hf hP hS d_LinkAudit_gaps_11
-- LinkAudit$Agreements.clear
theorem xg_Agreements_11 {p : Program} {l : Launch} {e : Env} {R : Room} {s : State} {m : MethodId} {args : Array Value} {below : List Frame} {meth : Method} {c : Code} {H : Heap} {locs : List Loc} {cells slots : Nat} {Q : State → Prop} {cc : ByteArray} {pc : Nat} {ls : Array Slot} {rest : List Value} {D : va_G} {cI cL cG cZ : ClassId} {ad : Nat → Nat} {M : Mem} (hx : p.tables.exec = Jvm.exec) (hb : c.code = cc) (hta : ∀ w ∈ ALLW, w.before args s = true) (hown : s.vm.findClass "LinkAudit$Agreements" = some m.cls) (hK : va_K D vwC [(cI, .int), (cL, .long), (cG, .array .int), (cZ, .boolean)] s) (hP : va_P D vwC (c_ws cI cL cG cZ ad M) H) (hdg : decode cc pc = .ok (.getfield 11, 3))
    (kk : W p l e R s m args below meth c H locs cells slots Q (F0 m (pc + 3) ls (.ref (ad 61) :: rest))) : W p l e R s m args below meth c H locs cells slots Q (F0 m pc ls (.ref (ad 9) :: rest)) :=
  va_get (D := D) (ci := 9) (v := .ref (ad 61)) (C := "LinkAudit$Agreements") (T := T_Agreements) (N := 6) hx hb hta i_Agreements hown hK hP 9 c_c9 rfl 1 (by decide) (hta _ wm_276) (fun _ h9 => h9) rfl hdg kk
theorem xp_Agreements_26 {p : Program} {l : Launch} {e : Env} {R : Room} {s : State} {m : MethodId} {args : Array Value} {below : List Frame} {meth : Method} {c : Code} {H : Heap} {locs : List Loc} {cells slots : Nat} {Q : State → Prop} {cc : ByteArray} {pc : Nat} {ls : Array Slot} {rest : List Value} {D : va_G} {cI cL cG cZ : ClassId} {ad : Nat → Nat} {M : Mem} {H0 : Heap} {M1 : Mem} {x : Int32} (hx : p.tables.exec = Jvm.exec) (hb : c.code = cc) (hta : ∀ w ∈ ALLW, w.before args s = true) (hown : s.vm.findClass "LinkAudit$Agreements" = some m.cls) (hK : va_K D vwC [(cI, .int), (cL, .long), (cG, .array .int), (cZ, .boolean)] s) (hP : va_P D vwC (c_ws cI cL cG cZ ad M) H) (hD : va_D (c_A ad) (c_ws cI cL cG cZ ad M)) (hS : va_S (c_A ad) H0 H locs) (eM : M1 = u1 M 9 5 x) (hdg : decode cc pc = .ok (.putfield 26, 3))
    (kk : ∀ (H1 : Heap) (locs1 : List Loc), va_P D vwC (c_ws cI cL cG cZ ad M1) H1 → va_S (c_A ad) H0 H1 locs1 → W p l e R s m args below meth c H1 locs1 cells slots Q (F0 m (pc + 3) ls rest)) : W p l e R s m args below meth c H locs cells slots Q (F0 m pc ls (.int x :: .ref (ad 9) :: rest)) := by
  refine va_put (D := D) (ci := 9) (v := .int x) (ty := .int) (C := "LinkAudit$Agreements") (T := T_Agreements) (N := 6) hx hb hta i_Agreements t_Agreements t_Agreements_ok n_Agreements hown hK hP hD hS 9 c_c9 rfl 5 (by decide) (hta _ wm_283) (fun _ h9 => h9) rfl (by decide +kernel) rfl rfl (Nat.le_of_ble_eq_true rfl) hdg (fun H1 locs1 h1 _ h3 => kk H1 locs1 ?_ h3)
  rw [eM]
  exact h1
set_option maxHeartbeats 4000000 in
set_option maxRecDepth 100000 in
theorem c_Agreements_clear {l : Launch} {D : va_G} {cI cL cG cZ : ClassId} {ad : Nat → Nat} {M M' : Mem}  (hD : ∀ M, va_D (c_A ad) (c_ws cI cL cG cZ ad M)) (hf : f_Agreements_clear M = some M') : Mv l y_Agreements_clear (.code y_Agreements_clear prog_2_method_2_code 3 none :: ALLW) (rmR 0 0) (Kk D cI cL cG cZ) D vwC (c_A ad) (c_ws cI cL cG cZ ad) [.ref (ad 9)] M M' := by
  refine Mv_of (by decide) (Nat.le_of_ble_eq_true rfl) ?_
  intro p e s m args below meth c ls Q X hkk hret hP hl
  obtain ⟨hx, hb, hml, hown, hta⟩ := id X
  have hKv := hkk.1
  have hS : va_S (c_A ad) s.heap s.heap [] := va_S.rf
  have hl : lv_has ls 3 [(0, .ref (ad 9))] := hl
  have L7 : ∀ (ke41 : Mem → Option Mem), ke41 = (fun M5 => some M5) → ∀ (n7 : Nat) (x1 : Int32) (M : Mem) (H : Heap) (locs : List Loc) (ls : Array Slot), f_Agreements_clear_L7 ke41 n7 x1 M = some M' → va_P D vwC (c_ws cI cL cG cZ ad M) H → va_S (c_A ad) s.heap H locs → lv_has ls 3 [(0, .ref (ad 9)), (1, .int x1)] → W p l e (rmR 0 0) s m args below meth c H locs 0 0 Q (F0 m 7 ls []) := by
    intro ke41 hke41 n7
    induction n7 with
    | zero => intro x1 M H locs ls hf; exact absurd (show (none : Option _) = some _ from hf) (fun q => by cases q)
    | succ n7 ih7 =>
      intro x1 M H locs ls hf hP hS hl
      rw [f_Agreements_clear_L7] at hf
      have L15 : ∀ (x1 : Int32), ∀ (ke35 : Mem → Option Mem), ke35 = (fun M6 => f_Agreements_clear_L7 ke41 n7 (x1 + (1 : Int32)) M6) → ∀ (n15 : Nat) (x2 : Int32) (M : Mem) (H : Heap) (locs : List Loc) (ls : Array Slot), f_Agreements_clear_L15 x1 ke35 n15 x2 M = some M' → va_P D vwC (c_ws cI cL cG cZ ad M) H → va_S (c_A ad) s.heap H locs → lv_has ls 3 [(0, .ref (ad 9)), (1, .int x1), (2, .int x2)] → W p l e (rmR 0 0) s m args below meth c H locs 0 0 Q (F0 m 15 ls []) := by
        intro x1 ke35 hke35 n15
        induction n15 with
        | zero => intro x2 M H locs ls hf; exact absurd (show (none : Option _) = some _ from hf) (fun q => by cases q)
        | succ n15 ih15 =>
          intro x2 M H locs ls hf hP hS hl
          rw [f_Agreements_clear_L15] at hf
          refine lv_iload_n hx hb d_Agreements_clear_15 rfl (lv_at hl 2 rfl) ?_
          refine lv_iconst (v := (5 : Int32)) hx hb d_Agreements_clear_16 (by decide) ?_
          refine lv_icmp_ge (tgt := 35) hx hb d_Agreements_clear_17 (by decide) (fun c1 => ?_) (fun c1 => ?_)
          · have hf := ifp c1 hf
            rw [hke35] at hf
            refine lv_iinc (v := (x1 + (1 : Int32))) (lv' := [(1, .int (x1 + (1 : Int32))), (0, .ref (ad 9)), (2, .int x2)]) hx hb d_Agreements_clear_35 hl (k := 1) rfl rfl (by decide) rfl (fun ls hl => ?_)
            refine lv_goto (tgt := 7) hx hb d_Agreements_clear_38 (by decide) ?_
            exact ih7 (x1 + (1 : Int32)) M _ _ _ hf hP hS (lv_sub hl [1, 0] rfl)
          · have hf := ifn c1 hf
            refine lv_aload_n hx hb d_Agreements_clear_20 rfl (lv_at hl 0 rfl) ?_
            refine xg_Agreements_11 hx hb hta hown hKv hP d_Agreements_clear_21 ?_
            refine lv_iload_n hx hb d_Agreements_clear_24 rfl (lv_at hl 1 rfl) ?_
            obtain ⟨g2, hf⟩ := gd_ok hf
            refine x_ald (k0 := 61) (base := 62) (n := 12) hx hb hKv hP c_c61 g2 d_Agreements_clear_25 ?_
            refine lv_iload_n hx hb d_Agreements_clear_26 rfl (lv_at hl 2 rfl) ?_
            refine lv_iload_n hx hb d_Agreements_clear_27 rfl (lv_at hl 2 rfl) ?_
            obtain ⟨g3, hf⟩ := gd_ok hf
            obtain ⟨M7, eM7, hf⟩ := sm_e hf
            refine x_ist hx hb hKv hP (hD _) hS (c_c62 g2) (c_s62 g2) g3 eM7 d_Agreements_clear_28 (fun H locs hP hS => ?_)
            refine lv_iinc (v := (x2 + (1 : Int32))) (lv' := [(2, .int (x2 + (1 : Int32))), (0, .ref (ad 9)), (1, .int x1)]) hx hb d_Agreements_clear_29 hl (k := 2) rfl rfl (by decide) rfl (fun ls hl => ?_)
            refine lv_goto (tgt := 15) hx hb d_Agreements_clear_32 (by decide) ?_
            exact ih15 (x2 + (1 : Int32)) M7 _ _ _ hf hP hS (lv_sub hl [1, 2, 0] rfl)
      refine lv_iload_n hx hb d_Agreements_clear_7 rfl (lv_at hl 1 rfl) ?_
      refine lv_bipush (v := (12 : Int32)) hx hb d_Agreements_clear_8 (by decide) ?_
      refine lv_icmp_ge (tgt := 41) hx hb d_Agreements_clear_10 (by decide) (fun c4 => ?_) (fun c4 => ?_)
      · have hf := ifp c4 hf
        rw [hke41] at hf
        exact hret hf hP hS d_Agreements_clear_41
      · have hf := ifn c4 hf
        refine lv_iconst (v := (0 : Int32)) hx hb d_Agreements_clear_13 (by decide) ?_
        refine lv_istore_n (lv' := [(2, .int (0 : Int32)), (0, .ref (ad 9)), (1, .int x1)]) hx hb d_Agreements_clear_14 rfl hl (by decide) rfl (fun ls hl => ?_)
        exact L15 x1 _ rfl FU (0 : Int32) M _ _ _ hf hP hS (lv_sub hl [1, 2, 0] rfl)
  unfold f_Agreements_clear at hf
  refine lv_aload_n hx hb d_Agreements_clear_0 rfl (lv_at hl 0 rfl) ?_
  refine lv_iconst (v := (0 : Int32)) hx hb d_Agreements_clear_1 (by decide) ?_
  obtain ⟨M8, eM8, hf⟩ := sm_e hf
  refine xp_Agreements_26 hx hb hta hown hKv hP (hD _) hS eM8 d_Agreements_clear_2 (fun H locs hP hS => ?_)
  refine lv_iconst (v := (0 : Int32)) hx hb d_Agreements_clear_5 (by decide) ?_
  refine lv_istore_n (lv' := [(1, .int (0 : Int32)), (0, .ref (ad 9))]) hx hb d_Agreements_clear_6 rfl hl (by decide) rfl (fun ls hl => ?_)
  exact L7  _ rfl FU (0 : Int32) M8 _ _ _ hf hP hS (lv_sub hl [1, 0] rfl)
-- LinkAudit$Members.firstType
set_option maxHeartbeats 4000000 in
set_option maxRecDepth 100000 in
theorem c_Members_firstType {l : Launch} {D : va_G} {cI cL cG cZ : ClassId} {ad : Nat → Nat} {M : Mem} {a1 : Int32} {r : Int32} (hD : ∀ M, va_D (c_A ad) (c_ws cI cL cG cZ ad M)) (hf : f_Members_firstType M a1 = some r) : Mi l y_Members_firstType (.code y_Members_firstType prog_7_method_6_code 2 (some .int) :: ALLW) (rmR 0 0) (Kk D cI cL cG cZ) D vwC (c_A ad) (c_ws cI cL cG cZ ad) [.ref (ad 3), .int a1] M M r := by
  refine Mi_ofR (by decide) (Nat.le_of_ble_eq_true rfl) ?_
  intro p e s m args below meth c ls Q X hkk hret hP hl
  obtain ⟨hx, hb, hml, hown, hta⟩ := id X
  have hKv := hkk.1
  have hS : va_S (c_A ad) s.heap s.heap [] := va_S.rf
  have hl : lv_has ls 2 [(0, .ref (ad 3)), (1, .int a1)] := hl
  unfold f_Members_firstType at hf
  refine lv_aload_n hx hb d_Members_firstType_0 rfl (lv_at hl 0 rfl) ?_
  refine xg_Members_15 hx hb hta hown hKv hP d_Members_firstType_1 ?_
  refine lv_iload_n hx hb d_Members_firstType_4 rfl (lv_at hl 1 rfl) ?_
  obtain ⟨g1, hf⟩ := gd_ok hf
  refine x_ild hx hb hKv hP c_c30 g1 d_Members_firstType_5 ?_
  refine lv_bipush (v := (13 : Int32)) hx hb d_Members_firstType_6 (by decide) ?_
  refine lv_idiv hx hb d_Members_firstType_8 (by decide) ?_
  refine lv_bipush (v := (13 : Int32)) hx hb d_Members_firstType_9 (by decide) ?_
  refine lv_irem hx hb d_Members_firstType_11 (by decide) ?_
  exact hret hf hP hS d_Members_firstType_12
-- LinkAudit$Agreements.join
set_option maxHeartbeats 4000000 in
set_option maxRecDepth 100000 in
theorem c_Agreements_join {l : Launch} {D : va_G} {cI cL cG cZ : ClassId} {ad : Nat → Nat} {M M' : Mem} {a1 : Int32} {a2 : Int32} {a3 : Int32} (hD : ∀ M, va_D (c_A ad) (c_ws cI cL cG cZ ad M)) (hf : f_Agreements_join M a1 a2 a3 = some M') : Mv l y_Agreements_join (.code y_Agreements_join prog_2_method_3_code 7 none :: ALLW) (rmR 0 0) (Kk D cI cL cG cZ) D vwC (c_A ad) (c_ws cI cL cG cZ ad) [.ref (ad 9), .int a1, .int a2, .int a3] M M' := by
  refine Mv_of (by decide) (Nat.le_of_ble_eq_true rfl) ?_
  intro p e s m args below meth c ls Q X hkk hret hP hl
  obtain ⟨hx, hb, hml, hown, hta⟩ := id X
  have hKv := hkk.1
  have hS : va_S (c_A ad) s.heap s.heap [] := va_S.rf
  have hl : lv_has ls 7 [(0, .ref (ad 9)), (1, .int a1), (2, .int a2), (3, .int a3)] := hl
  have L30 : ∀ (x1 : Int32) (x4 : Int32) (x5 : Int32), ∀ (ke67 : Mem → Option Mem), ke67 = (fun M3 => some M3) → ∀ (n30 : Nat) (x6 : Int32) (M : Mem) (H : Heap) (locs : List Loc) (ls : Array Slot), f_Agreements_join_L30 x1 x4 x5 ke67 n30 x6 M = some M' → va_P D vwC (c_ws cI cL cG cZ ad M) H → va_S (c_A ad) s.heap H locs → lv_has ls 7 [(0, .ref (ad 9)), (1, .int x1), (4, .int x4), (5, .int x5), (6, .int x6)] → W p l e (rmR 0 0) s m args below meth c H locs 0 0 Q (F0 m 30 ls []) := by
    intro x1 x4 x5 ke67 hke67 n30
    induction n30 with
    | zero => intro x6 M H locs ls hf; exact absurd (show (none : Option _) = some _ from hf) (fun q => by cases q)
    | succ n30 ih30 =>
      intro x6 M H locs ls hf hP hS hl
      rw [f_Agreements_join_L30] at hf
      refine lv_iload hx hb d_Agreements_join_30 (lv_at hl 4 rfl) ?_
      refine lv_iconst (v := (5 : Int32)) hx hb d_Agreements_join_32 (by decide) ?_
      refine lv_icmp_ge (tgt := 67) hx hb d_Agreements_join_33 (by decide) (fun c1 => ?_) (fun c1 => ?_)
      · have hf := ifp c1 hf
        rw [hke67] at hf
        exact hret hf hP hS d_Agreements_join_67
      · have hf := ifn c1 hf
        refine lv_aload_n hx hb d_Agreements_join_36 rfl (lv_at hl 0 rfl) ?_
        refine xg_Agreements_11 hx hb hta hown hKv hP d_Agreements_join_37 ?_
        refine lv_iload_n hx hb d_Agreements_join_40 rfl (lv_at hl 1 rfl) ?_
        obtain ⟨g2, hf⟩ := gd_ok hf
        refine x_ald (k0 := 61) (base := 62) (n := 12) hx hb hKv hP c_c61 g2 d_Agreements_join_41 ?_
        refine lv_iload hx hb d_Agreements_join_42 (lv_at hl 4 rfl) ?_
        obtain ⟨g3, hf⟩ := gd_ok hf
        refine x_ild hx hb hKv hP (c_c62 g2) g3 d_Agreements_join_44 ?_
        refine lv_iload hx hb d_Agreements_join_45 (lv_at hl 3 rfl) ?_
        refine lv_icmp_ne (tgt := 61) hx hb d_Agreements_join_47 (by decide) (fun c4 => ?_) (fun c4 => ?_)
        · have hf := ifn c4 hf
          refine lv_iinc (v := (x6 + (1 : Int32))) (lv' := [(6, .int (x6 + (1 : Int32))), (0, .ref (ad 9)), (1, .int x1), (4, .int x4), (5, .int x5)]) hx hb d_Agreements_join_61 hl (k := 4) rfl rfl (by decide) rfl (fun ls hl => ?_)
          refine lv_goto (tgt := 30) hx hb d_Agreements_join_64 (by decide) ?_
          exact ih30 (x6 + (1 : Int32)) M _ _ _ hf hP hS (lv_sub hl [1, 2, 3, 4, 0] rfl)
        · have hf := ifp c4 hf
          refine lv_aload_n hx hb d_Agreements_join_50 rfl (lv_at hl 0 rfl) ?_
          refine xg_Agreements_11 hx hb hta hown hKv hP d_Agreements_join_51 ?_
          refine lv_iload_n hx hb d_Agreements_join_54 rfl (lv_at hl 1 rfl) ?_
          obtain ⟨g5, hf⟩ := gd_ok hf
          refine x_ald (k0 := 61) (base := 62) (n := 12) hx hb hKv hP c_c61 g5 d_Agreements_join_55 ?_
          refine lv_iload hx hb d_Agreements_join_56 (lv_at hl 4 rfl) ?_
          refine lv_iload hx hb d_Agreements_join_58 (lv_at hl 2 rfl) ?_
          obtain ⟨g6, hf⟩ := gd_ok hf
          obtain ⟨M4, eM4, hf⟩ := sm_e hf
          refine x_ist hx hb hKv hP (hD _) hS (c_c62 g5) (c_s62 g5) g6 eM4 d_Agreements_join_60 (fun H locs hP hS => ?_)
          refine lv_iinc (v := (x6 + (1 : Int32))) (lv' := [(6, .int (x6 + (1 : Int32))), (0, .ref (ad 9)), (1, .int x1), (4, .int x4), (5, .int x5)]) hx hb d_Agreements_join_61 hl (k := 4) rfl rfl (by decide) rfl (fun ls hl => ?_)
          refine lv_goto (tgt := 30) hx hb d_Agreements_join_64 (by decide) ?_
          exact ih30 (x6 + (1 : Int32)) M4 _ _ _ hf hP hS (lv_sub hl [1, 2, 3, 4, 0] rfl)
  unfold f_Agreements_join at hf
  refine lv_iload_n hx hb d_Agreements_join_0 rfl (lv_at hl 1 rfl) ?_
  refine lv_bipush (v := (12 : Int32)) hx hb d_Agreements_join_1 (by decide) ?_
  refine lv_icmp_ne (tgt := 7) hx hb d_Agreements_join_3 (by decide) (fun c7 => ?_) (fun c7 => ?_)
  · have hf := ifn c7 hf
    refine lv_aload_n hx hb d_Agreements_join_7 rfl (lv_at hl 0 rfl) ?_
    refine xg_Agreements_11 hx hb hta hown hKv hP d_Agreements_join_8 ?_
    refine lv_iload_n hx hb d_Agreements_join_11 rfl (lv_at hl 1 rfl) ?_
    obtain ⟨g8, hf⟩ := gd_ok hf
    refine x_ald (k0 := 61) (base := 62) (n := 12) hx hb hKv hP c_c61 g8 d_Agreements_join_12 ?_
    refine lv_iload_n hx hb d_Agreements_join_13 rfl (lv_at hl 2 rfl) ?_
    obtain ⟨g9, hf⟩ := gd_ok hf
    refine x_ild hx hb hKv hP (c_c62 g8) g9 d_Agreements_join_14 ?_
    refine lv_istore (lv' := [(4, .int (M.1 (62 + a1.toNatClampNeg) a2.toNatClampNeg)), (0, .ref (ad 9)), (1, .int a1), (2, .int a2), (3, .int a3)]) hx hb d_Agreements_join_15 hl (by decide) rfl (fun ls hl => ?_)
    refine lv_aload_n hx hb d_Agreements_join_17 rfl (lv_at hl 1 rfl) ?_
    refine xg_Agreements_11 hx hb hta hown hKv hP d_Agreements_join_18 ?_
    refine lv_iload_n hx hb d_Agreements_join_21 rfl (lv_at hl 2 rfl) ?_
    obtain ⟨g10, hf⟩ := gd_ok hf
    refine x_ald (k0 := 61) (base := 62) (n := 12) hx hb hKv hP c_c61 g10 d_Agreements_join_22 ?_
    refine lv_iload_n hx hb d_Agreements_join_23 rfl (lv_at hl 4 rfl) ?_
    obtain ⟨g11, hf⟩ := gd_ok hf
    refine x_ild hx hb hKv hP (c_c62 g10) g11 d_Agreements_join_24 ?_
    refine lv_istore (lv' := [(5, .int (M.1 (62 + a1.toNatClampNeg) a3.toNatClampNeg)), (4, .int (M.1 (62 + a1.toNatClampNeg) a2.toNatClampNeg)), (0, .ref (ad 9)), (1, .int a1), (2, .int a2), (3, .int a3)]) hx hb d_Agreements_join_25 hl (by decide) rfl (fun ls hl => ?_)
    refine lv_iconst (v := (0 : Int32)) hx hb d_Agreements_join_27 (by decide) ?_
    refine lv_istore (lv' := [(6, .int (0 : Int32)), (5, .int (M.1 (62 + a1.toNatClampNeg) a3.toNatClampNeg)), (4, .int (M.1 (62 + a1.toNatClampNeg) a2.toNatClampNeg)), (0, .ref (ad 9)), (1, .int a1), (2, .int a2), (3, .int a3)]) hx hb d_Agreements_join_28 hl (by decide) rfl (fun ls hl => ?_)
    exact L30 a1 (M.1 (62 + a1.toNatClampNeg) a2.toNatClampNeg) (M.1 (62 + a1.toNatClampNeg) a3.toNatClampNeg) _ rfl FU (0 : Int32) M _ _ _ hf hP hS (lv_sub hl [3, 4, 2, 1, 0] rfl)
  · have hf := ifp c7 hf
    exact hret hf hP hS d_Agreements_join_6
-- LinkAudit$Members.secondType
set_option maxHeartbeats 4000000 in
set_option maxRecDepth 100000 in
theorem c_Members_secondType {l : Launch} {D : va_G} {cI cL cG cZ : ClassId} {ad : Nat → Nat} {M : Mem} {a1 : Int32} {r : Int32} (hD : ∀ M, va_D (c_A ad) (c_ws cI cL cG cZ ad M)) (hf : f_Members_secondType M a1 = some r) : Mi l y_Members_secondType (.code y_Members_secondType prog_7_method_7_code 2 (some .int) :: ALLW) (rmR 0 0) (Kk D cI cL cG cZ) D vwC (c_A ad) (c_ws cI cL cG cZ ad) [.ref (ad 3), .int a1] M M r := by
  refine Mi_ofR (by decide) (Nat.le_of_ble_eq_true rfl) ?_
  intro p e s m args below meth c ls Q X hkk hret hP hl
  obtain ⟨hx, hb, hml, hown, hta⟩ := id X
  have hKv := hkk.1
  have hS : va_S (c_A ad) s.heap s.heap [] := va_S.rf
  have hl : lv_has ls 2 [(0, .ref (ad 3)), (1, .int a1)] := hl
  unfold f_Members_secondType at hf
  refine lv_aload_n hx hb d_Members_secondType_0 rfl (lv_at hl 0 rfl) ?_
  refine xg_Members_15 hx hb hta hown hKv hP d_Members_secondType_1 ?_
  refine lv_iload_n hx hb d_Members_secondType_4 rfl (lv_at hl 1 rfl) ?_
  obtain ⟨g1, hf⟩ := gd_ok hf
  refine x_ild hx hb hKv hP c_c30 g1 d_Members_secondType_5 ?_
  refine lv_bipush (v := (13 : Int32)) hx hb d_Members_secondType_6 (by decide) ?_
  refine lv_irem hx hb d_Members_secondType_8 (by decide) ?_
  exact hret hf hP hS d_Members_secondType_9
-- LinkAudit.agreeOnTypes
theorem xg_LinkAudit_227 {p : Program} {l : Launch} {e : Env} {R : Room} {s : State} {m : MethodId} {args : Array Value} {below : List Frame} {meth : Method} {c : Code} {H : Heap} {locs : List Loc} {cells slots : Nat} {Q : State → Prop} {cc : ByteArray} {pc : Nat} {ls : Array Slot} {rest : List Value} {D : va_G} {cI cL cG cZ : ClassId} {ad : Nat → Nat} {M : Mem} (hx : p.tables.exec = Jvm.exec) (hb : c.code = cc) (hta : ∀ w ∈ ALLW, w.before args s = true) (hown : s.vm.findClass "LinkAudit" = some m.cls) (hK : va_K D vwC [(cI, .int), (cL, .long), (cG, .array .int), (cZ, .boolean)] s) (hP : va_P D vwC (c_ws cI cL cG cZ ad M) H) (hdg : decode cc pc = .ok (.getfield 227, 3))
    (kk : W p l e R s m args below meth c H locs cells slots Q (F0 m (pc + 3) ls (.ref (ad 24) :: rest))) : W p l e R s m args below meth c H locs cells slots Q (F0 m pc ls (.ref (ad 2) :: rest)) :=
  va_get (D := D) (ci := 2) (v := .ref (ad 24)) (C := "LinkAudit$Classes") (T := T_Classes) (N := 6) hx hb hta i_Classes hown hK hP 2 c_c2 rfl 0 (by decide) (hta _ wm_56) (fun _ h9 => h9) rfl hdg kk
theorem xg_LinkAudit_221 {p : Program} {l : Launch} {e : Env} {R : Room} {s : State} {m : MethodId} {args : Array Value} {below : List Frame} {meth : Method} {c : Code} {H : Heap} {locs : List Loc} {cells slots : Nat} {Q : State → Prop} {cc : ByteArray} {pc : Nat} {ls : Array Slot} {rest : List Value} {D : va_G} {cI cL cG cZ : ClassId} {ad : Nat → Nat} {M : Mem} (hx : p.tables.exec = Jvm.exec) (hb : c.code = cc) (hta : ∀ w ∈ ALLW, w.before args s = true) (hown : s.vm.findClass "LinkAudit" = some m.cls) (hK : va_K D vwC [(cI, .int), (cL, .long), (cG, .array .int), (cZ, .boolean)] s) (hP : va_P D vwC (c_ws cI cL cG cZ ad M) H) (hdg : decode cc pc = .ok (.getfield 221, 3))
    (kk : W p l e R s m args below meth c H locs cells slots Q (F0 m (pc + 3) ls (.ref (ad 29) :: rest))) : W p l e R s m args below meth c H locs cells slots Q (F0 m pc ls (.ref (ad 3) :: rest)) :=
  va_get (D := D) (ci := 3) (v := .ref (ad 29)) (C := "LinkAudit$Members") (T := T_Members) (N := 7) hx hb hta i_Members hown hK hP 3 c_c3 rfl 0 (by decide) (hta _ wm_92) (fun _ h9 => h9) rfl hdg kk
theorem xg_LinkAudit_74 {p : Program} {l : Launch} {e : Env} {R : Room} {s : State} {m : MethodId} {args : Array Value} {below : List Frame} {meth : Method} {c : Code} {H : Heap} {locs : List Loc} {cells slots : Nat} {Q : State → Prop} {cc : ByteArray} {pc : Nat} {ls : Array Slot} {rest : List Value} {D : va_G} {cI cL cG cZ : ClassId} {ad : Nat → Nat} {M : Mem} (hx : p.tables.exec = Jvm.exec) (hb : c.code = cc) (hta : ∀ w ∈ ALLW, w.before args s = true) (hown : s.vm.findClass "LinkAudit" = some m.cls) (hK : va_K D vwC [(cI, .int), (cL, .long), (cG, .array .int), (cZ, .boolean)] s) (hP : va_P D vwC (c_ws cI cL cG cZ ad M) H) (hdg : decode cc pc = .ok (.getfield 74, 3))
    (kk : W p l e R s m args below meth c H locs cells slots Q (F0 m (pc + 3) ls (.ref (ad 9) :: rest))) : W p l e R s m args below meth c H locs cells slots Q (F0 m pc ls (.ref (ad 0) :: rest)) :=
  va_get (D := D) (ci := 0) (v := .ref (ad 9)) (C := "LinkAudit") (T := T_LinkAudit) (N := 10) hx hb hta i_LinkAudit hown hK hP 0 c_c0 rfl 7 (by decide) (hta _ wm_305) (fun _ h9 => h9) rfl hdg kk
theorem xvc_LinkAudit_229 {p : Program} {l : Launch} {e : Env} {R : Room} {s : State} {m : MethodId} {args : Array Value} {below : List Frame} {meth : Method} {c : Code} {H : Heap} {locs : List Loc} {cells slots : Nat} {Q : State → Prop} {cc : ByteArray} {pc : Nat} {ls : Array Slot} {rest : List Value} {D : va_G} {cI cL cG cZ : ClassId} {ad : Nat → Nat} {M : Mem} {H0 : Heap} {nL : Nat} {a0 : Int32} {r : Int32} (X : CallFix p m c cc nL s args ALLW "LinkAudit") (hkk : Kk D cI cL cG cZ s) (hD : ∀ M, va_D (c_A ad) (c_ws cI cL cG cZ ad M)) (hrest : (rest.map fun v => v.category).sum ≤ 8) (hR : 0 + 1 ≤ R.frames ∧ 8 + (2 + 11) + 0 ≤ R.locals) (hcs : cells + 0 ≤ R.cells ∧ slots + 0 ≤ R.slots) (hc : f_Members_firstType M a0 = some r) (hsz : ls.size = nL) (hP : va_P D vwC (c_ws cI cL cG cZ ad M) H) (hS : va_S (c_A ad) H0 H locs) (hdg : decode cc pc = .ok (.invokevirtual 229, 3))
    (kk : ∀ (H1 : Heap) (locs1 : List Loc), va_P D vwC (c_ws cI cL cG cZ ad M) H1 → va_S (c_A ad) H0 H1 locs1 → W p l e R s m args below meth c H1 locs1 cells slots Q (F0 m (pc + 3) ls (.int r :: rest))) : W p l e R s m args below meth c H locs cells slots Q (F0 m pc ls (.int a0 :: .ref (ad 3) :: rest)) := by
  have hta := X.2.2.2.2
  exact x_afterI (va_runV (As := [.int a0]) (rest := rest) X (c_Members_firstType hD hc) ⟨callB_of 1 hta (good_all (L := .code y_Members_firstType prog_7_method_6_code 2 (some .int) :: ALLW) (List.forall_mem_cons.mpr ⟨wm_660, fun _ h => h⟩)) rfl rfl rfl (hta _ wm_4) (hta _ wm_657) (by decide +kernel) hR, hta _ wm_658, hta _ wm_659⟩ ⟨x_blind Kk_w _, va_recv hkk.1 hP (ci := 3) (q0 := 3) rfl c_c3, x_pre Kk_w hkk hP _⟩ rfl rfl hsz rfl (lv_room hrest) hdg hcs) hS kk
theorem xvc_LinkAudit_232 {p : Program} {l : Launch} {e : Env} {R : Room} {s : State} {m : MethodId} {args : Array Value} {below : List Frame} {meth : Method} {c : Code} {H : Heap} {locs : List Loc} {cells slots : Nat} {Q : State → Prop} {cc : ByteArray} {pc : Nat} {ls : Array Slot} {rest : List Value} {D : va_G} {cI cL cG cZ : ClassId} {ad : Nat → Nat} {M : Mem} {H0 : Heap} {M1 : Mem} {nL : Nat} {a0 : Int32} {a1 : Int32} {a2 : Int32} (X : CallFix p m c cc nL s args ALLW "LinkAudit") (hkk : Kk D cI cL cG cZ s) (hD : ∀ M, va_D (c_A ad) (c_ws cI cL cG cZ ad M)) (hrest : (rest.map fun v => v.category).sum ≤ 8) (hR : 0 + 1 ≤ R.frames ∧ 8 + (7 + 11) + 0 ≤ R.locals) (hcs : cells + 0 ≤ R.cells ∧ slots + 0 ≤ R.slots) (hc : f_Agreements_join M a0 a1 a2 = some M1) (hsz : ls.size = nL) (hP : va_P D vwC (c_ws cI cL cG cZ ad M) H) (hS : va_S (c_A ad) H0 H locs) (hdg : decode cc pc = .ok (.invokevirtual 232, 3))
    (kk : ∀ (H1 : Heap) (locs1 : List Loc), va_P D vwC (c_ws cI cL cG cZ ad M1) H1 → va_S (c_A ad) H0 H1 locs1 → W p l e R s m args below meth c H1 locs1 cells slots Q (F0 m (pc + 3) ls (rest))) : W p l e R s m args below meth c H locs cells slots Q (F0 m pc ls (.int a2 :: .int a1 :: .int a0 :: .ref (ad 9) :: rest)) := by
  have hta := X.2.2.2.2
  exact x_afterV (va_runV (As := [.int a0, .int a1, .int a2]) (rest := rest) X (c_Agreements_join hD hc) ⟨callB_of 3 hta (good_all (L := .code y_Agreements_join prog_2_method_3_code 7 none :: ALLW) (List.forall_mem_cons.mpr ⟨wm_664, fun _ h => h⟩)) rfl rfl rfl (hta _ wm_10) (hta _ wm_661) (by decide +kernel) hR, hta _ wm_662, hta _ wm_663⟩ ⟨x_blind Kk_w _, va_recv hkk.1 hP (ci := 9) (q0 := 9) rfl c_c9, x_pre Kk_w hkk hP _⟩ rfl rfl hsz rfl (lv_room hrest) hdg hcs) hS kk
theorem xvc_LinkAudit_236 {p : Program} {l : Launch} {e : Env} {R : Room} {s : State} {m : MethodId} {args : Array Value} {below : List Frame} {meth : Method} {c : Code} {H : Heap} {locs : List Loc} {cells slots : Nat} {Q : State → Prop} {cc : ByteArray} {pc : Nat} {ls : Array Slot} {rest : List Value} {D : va_G} {cI cL cG cZ : ClassId} {ad : Nat → Nat} {M : Mem} {H0 : Heap} {nL : Nat} {a0 : Int32} {r : Int32} (X : CallFix p m c cc nL s args ALLW "LinkAudit") (hkk : Kk D cI cL cG cZ s) (hD : ∀ M, va_D (c_A ad) (c_ws cI cL cG cZ ad M)) (hrest : (rest.map fun v => v.category).sum ≤ 8) (hR : 0 + 1 ≤ R.frames ∧ 8 + (2 + 11) + 0 ≤ R.locals) (hcs : cells + 0 ≤ R.cells ∧ slots + 0 ≤ R.slots) (hc : f_Members_secondType M a0 = some r) (hsz : ls.size = nL) (hP : va_P D vwC (c_ws cI cL cG cZ ad M) H) (hS : va_S (c_A ad) H0 H locs) (hdg : decode cc pc = .ok (.invokevirtual 236, 3))
    (kk : ∀ (H1 : Heap) (locs1 : List Loc), va_P D vwC (c_ws cI cL cG cZ ad M) H1 → va_S (c_A ad) H0 H1 locs1 → W p l e R s m args below meth c H1 locs1 cells slots Q (F0 m (pc + 3) ls (.int r :: rest))) : W p l e R s m args below meth c H locs cells slots Q (F0 m pc ls (.int a0 :: .ref (ad 3) :: rest)) := by
  have hta := X.2.2.2.2
  exact x_afterI (va_runV (As := [.int a0]) (rest := rest) X (c_Members_secondType hD hc) ⟨callB_of 1 hta (good_all (L := .code y_Members_secondType prog_7_method_7_code 2 (some .int) :: ALLW) (List.forall_mem_cons.mpr ⟨wm_668, fun _ h => h⟩)) rfl rfl rfl (hta _ wm_4) (hta _ wm_665) (by decide +kernel) hR, hta _ wm_666, hta _ wm_667⟩ ⟨x_blind Kk_w _, va_recv hkk.1 hP (ci := 3) (q0 := 3) rfl c_c3, x_pre Kk_w hkk hP _⟩ rfl rfl hsz rfl (lv_room hrest) hdg hcs) hS kk
set_option maxHeartbeats 4000000 in
set_option maxRecDepth 100000 in
theorem c_LinkAudit_agreeOnTypes {l : Launch} {D : va_G} {cI cL cG cZ : ClassId} {ad : Nat → Nat} {M M' : Mem} {a1 : Int32} {a2 : Int32} (hD : ∀ M, va_D (c_A ad) (c_ws cI cL cG cZ ad M)) (hf : f_LinkAudit_agreeOnTypes M a1 a2 = some M') : Mv l y_LinkAudit_agreeOnTypes (.code y_LinkAudit_agreeOnTypes prog_1_method_28_code 5 none :: ALLW) (rmR 1 26) (Kk D cI cL cG cZ) D vwC (c_A ad) (c_ws cI cL cG cZ ad) [.ref (ad 0), .int a1, .int a2] M M' := by
  refine Mv_of (by decide) (Nat.le_of_ble_eq_true rfl) ?_
  intro p e s m args below meth c ls Q X hkk hret hP hl
  obtain ⟨hx, hb, hml, hown, hta⟩ := id X
  have hKv := hkk.1
  have hS : va_S (c_A ad) s.heap s.heap [] := va_S.rf
  have hl : lv_has ls 5 [(0, .ref (ad 0)), (1, .int a1), (2, .int a2)] := hl
  unfold f_LinkAudit_agreeOnTypes at hf
  refine lv_aload_n hx hb d_LinkAudit_agreeOnTypes_0 rfl (lv_at hl 0 rfl) ?_
  refine xg_LinkAudit_19 hx hb hta hown hKv hP d_LinkAudit_agreeOnTypes_1 ?_
  refine xg_LinkAudit_227 hx hb hta hown hKv hP d_LinkAudit_agreeOnTypes_4 ?_
  refine lv_aload_n hx hb d_LinkAudit_agreeOnTypes_7 rfl (lv_at hl 0 rfl) ?_
  refine xg_LinkAudit_26 hx hb hta hown hKv hP d_LinkAudit_agreeOnTypes_8 ?_
  refine xg_LinkAudit_221 hx hb hta hown hKv hP d_LinkAudit_agreeOnTypes_11 ?_
  refine lv_iload_n hx hb d_LinkAudit_agreeOnTypes_14 rfl (lv_at hl 1 rfl) ?_
  obtain ⟨g1, hf⟩ := gd_ok hf
  refine x_ild hx hb hKv hP c_c29 g1 d_LinkAudit_agreeOnTypes_15 ?_
  obtain ⟨g2, hf⟩ := gd_ok hf
  refine x_ild hx hb hKv hP c_c24 g2 d_LinkAudit_agreeOnTypes_16 ?_
  refine lv_istore_n (lv' := [(3, .int (M.1 24 ((M.1 29 a1.toNatClampNeg)).toNatClampNeg)), (0, .ref (ad 0)), (1, .int a1), (2, .int a2)]) hx hb d_LinkAudit_agreeOnTypes_17 rfl hl (by decide) rfl (fun ls hl => ?_)
  refine lv_aload_n hx hb d_LinkAudit_agreeOnTypes_18 rfl (lv_at hl 1 rfl) ?_
  refine xg_LinkAudit_19 hx hb hta hown hKv hP d_LinkAudit_agreeOnTypes_19 ?_
  refine xg_LinkAudit_227 hx hb hta hown hKv hP d_LinkAudit_agreeOnTypes_22 ?_
  refine lv_iload_n hx hb d_LinkAudit_agreeOnTypes_25 rfl (lv_at hl 3 rfl) ?_
  obtain ⟨g3, hf⟩ := gd_ok hf
  refine x_ild hx hb hKv hP c_c24 g3 d_LinkAudit_agreeOnTypes_26 ?_
  refine lv_istore (lv' := [(4, .int (M.1 24 a2.toNatClampNeg)), (3, .int (M.1 24 ((M.1 29 a1.toNatClampNeg)).toNatClampNeg)), (0, .ref (ad 0)), (1, .int a1), (2, .int a2)]) hx hb d_LinkAudit_agreeOnTypes_27 hl (by decide) rfl (fun ls hl => ?_)
  refine lv_aload_n hx hb d_LinkAudit_agreeOnTypes_29 rfl (lv_at hl 2 rfl) ?_
  refine xg_LinkAudit_74 hx hb hta hown hKv hP d_LinkAudit_agreeOnTypes_30 ?_
  refine lv_aload_n hx hb d_LinkAudit_agreeOnTypes_33 rfl (lv_at hl 2 rfl) ?_
  refine xg_LinkAudit_26 hx hb hta hown hKv hP d_LinkAudit_agreeOnTypes_34 ?_
  refine lv_iload_n hx hb d_LinkAudit_agreeOnTypes_37 rfl (lv_at hl 3 rfl) ?_
  obtain ⟨r5, hc4, hf⟩ := bd1_e hf
  refine xvc_LinkAudit_229 X hkk hD (Nat.le_of_ble_eq_true rfl) ⟨by dsimp only [rmR]; omega, by dsimp only [rmR]; omega⟩ ⟨Nat.zero_le _, Nat.zero_le _⟩ hc4 hl.1 hP hS d_LinkAudit_agreeOnTypes_38 (fun H locs hP hS => ?_)
  refine lv_iload_n hx hb d_LinkAudit_agreeOnTypes_41 rfl (lv_at hl 1 rfl) ?_
  refine lv_iload hx hb d_LinkAudit_agreeOnTypes_42 (lv_at hl 0 rfl) ?_
  obtain ⟨M6, hc5, hf⟩ := bd1_e hf
  refine xvc_LinkAudit_232 X hkk hD (Nat.le_of_ble_eq_true rfl) ⟨by dsimp only [rmR]; omega, by dsimp only [rmR]; omega⟩ ⟨Nat.zero_le _, Nat.zero_le _⟩ hc5 hl.1 hP hS d_LinkAudit_agreeOnTypes_44 (fun H locs hP hS => ?_)
  refine lv_aload_n hx hb d_LinkAudit_agreeOnTypes_47 rfl (lv_at hl 2 rfl) ?_
  refine xg_LinkAudit_74 hx hb hta hown hKv hP d_LinkAudit_agreeOnTypes_48 ?_
  refine lv_aload_n hx hb d_LinkAudit_agreeOnTypes_51 rfl (lv_at hl 2 rfl) ?_
  refine xg_LinkAudit_26 hx hb hta hown hKv hP d_LinkAudit_agreeOnTypes_52 ?_
  refine lv_iload_n hx hb d_LinkAudit_agreeOnTypes_55 rfl (lv_at hl 3 rfl) ?_
  obtain ⟨r7, hc6, hf⟩ := bd1_e hf
  refine xvc_LinkAudit_236 X hkk hD (Nat.le_of_ble_eq_true rfl) ⟨by dsimp only [rmR]; omega, by dsimp only [rmR]; omega⟩ ⟨Nat.zero_le _, Nat.zero_le _⟩ hc6 hl.1 hP hS d_LinkAudit_agreeOnTypes_56 (fun H locs hP hS => ?_)
  refine lv_iload_n hx hb d_LinkAudit_agreeOnTypes_59 rfl (lv_at hl 1 rfl) ?_
  refine lv_iload hx hb d_LinkAudit_agreeOnTypes_60 (lv_at hl 0 rfl) ?_
  obtain ⟨M8, hc7, hf⟩ := bd1_e hf
  refine xvc_LinkAudit_232 X hkk hD (Nat.le_of_ble_eq_true rfl) ⟨by dsimp only [rmR]; omega, by dsimp only [rmR]; omega⟩ ⟨Nat.zero_le _, Nat.zero_le _⟩ hc7 hl.1 hP hS d_LinkAudit_agreeOnTypes_62 (fun H locs hP hS => ?_)
  exact hret hf hP hS d_LinkAudit_agreeOnTypes_65
-- LinkAudit$Agreements.areInConflict
theorem xg_Agreements_30 {p : Program} {l : Launch} {e : Env} {R : Room} {s : State} {m : MethodId} {args : Array Value} {below : List Frame} {meth : Method} {c : Code} {H : Heap} {locs : List Loc} {cells slots : Nat} {Q : State → Prop} {cc : ByteArray} {pc : Nat} {ls : Array Slot} {rest : List Value} {D : va_G} {cI cL cG cZ : ClassId} {ad : Nat → Nat} {M : Mem} (hx : p.tables.exec = Jvm.exec) (hb : c.code = cc) (hta : ∀ w ∈ ALLW, w.before args s = true) (hown : s.vm.findClass "LinkAudit$Agreements" = some m.cls) (hK : va_K D vwC [(cI, .int), (cL, .long), (cG, .array .int), (cZ, .boolean)] s) (hP : va_P D vwC (c_ws cI cL cG cZ ad M) H) (hdg : decode cc pc = .ok (.getfield 30, 3))
    (kk : W p l e R s m args below meth c H locs cells slots Q (F0 m (pc + 3) ls (.ref (ad 1) :: rest))) : W p l e R s m args below meth c H locs cells slots Q (F0 m pc ls (.ref (ad 9) :: rest)) :=
  va_get (D := D) (ci := 9) (v := .ref (ad 1)) (C := "LinkAudit$Agreements") (T := T_Agreements) (N := 6) hx hb hta i_Agreements hown hK hP 9 c_c9 rfl 0 (by decide) (hta _ wm_275) (fun _ h9 => h9) rfl hdg kk
theorem xvc_Agreements_38 {p : Program} {l : Launch} {e : Env} {R : Room} {s : State} {m : MethodId} {args : Array Value} {below : List Frame} {meth : Method} {c : Code} {H : Heap} {locs : List Loc} {cells slots : Nat} {Q : State → Prop} {cc : ByteArray} {pc : Nat} {ls : Array Slot} {rest : List Value} {D : va_G} {cI cL cG cZ : ClassId} {ad : Nat → Nat} {M : Mem} {H0 : Heap} {nL : Nat} {a0 : Int32} {a1 : Int32} {r : Int32} (X : CallFix p m c cc nL s args ALLW "LinkAudit$Agreements") (hkk : Kk D cI cL cG cZ s) (hD : ∀ M, va_D (c_A ad) (c_ws cI cL cG cZ ad M)) (hrest : (rest.map fun v => v.category).sum ≤ 8) (hR : 1 + 1 ≤ R.frames ∧ 8 + (5 + 11) + 22 ≤ R.locals) (hcs : cells + 0 ≤ R.cells ∧ slots + 0 ≤ R.slots) (hc : f_Loaders_found M a0 a1 = some r) (hsz : ls.size = nL) (hP : va_P D vwC (c_ws cI cL cG cZ ad M) H) (hS : va_S (c_A ad) H0 H locs) (hdg : decode cc pc = .ok (.invokevirtual 38, 3))
    (kk : ∀ (H1 : Heap) (locs1 : List Loc), va_P D vwC (c_ws cI cL cG cZ ad M) H1 → va_S (c_A ad) H0 H1 locs1 → W p l e R s m args below meth c H1 locs1 cells slots Q (F0 m (pc + 3) ls (.int r :: rest))) : W p l e R s m args below meth c H locs cells slots Q (F0 m pc ls (.int a1 :: .int a0 :: .ref (ad 1) :: rest)) := by
  have hta := X.2.2.2.2
  exact x_afterI (va_runV (As := [.int a0, .int a1]) (rest := rest) X (c_Loaders_found hD hc) ⟨callB_of 2 hta (good_all (L := .code y_Loaders_found prog_6_method_5_code 5 (some .int) :: ALLW) (List.forall_mem_cons.mpr ⟨wm_430, fun _ h => h⟩)) rfl rfl rfl (hta _ wm_2) (hta _ wm_677) (by decide +kernel) hR, hta _ wm_428, hta _ wm_429⟩ ⟨x_blind Kk_w _, va_recv hkk.1 hP (ci := 1) (q0 := 1) rfl c_c1, x_pre Kk_w hkk hP _⟩ rfl rfl hsz rfl (lv_room hrest) hdg hcs) hS kk
set_option maxHeartbeats 4000000 in
set_option maxRecDepth 100000 in
theorem c_Agreements_areInConflict {l : Launch} {D : va_G} {cI cL cG cZ : ClassId} {ad : Nat → Nat} {M : Mem} {a1 : Int32} {a2 : Int32} {a3 : Int32} {r : Int32} (hD : ∀ M, va_D (c_A ad) (c_ws cI cL cG cZ ad M)) (hf : f_Agreements_areInConflict M a1 a2 a3 = some r) : Mi l y_Agreements_areInConflict (.code y_Agreements_areInConflict prog_2_method_5_code 6 (some .boolean) :: ALLW) (rmR 2 46) (Kk D cI cL cG cZ) D vwC (c_A ad) (c_ws cI cL cG cZ ad) [.ref (ad 9), .int a1, .int a2, .int a3] M M r := by
  refine Mz_ofR (by decide) (Nat.le_of_ble_eq_true rfl) ?_
  intro p e s m args below meth c ls Q X hkk hret hP hl
  obtain ⟨hx, hb, hml, hown, hta⟩ := id X
  have hKv := hkk.1
  have hS : va_S (c_A ad) s.heap s.heap [] := va_S.rf
  have hl : lv_has ls 6 [(0, .ref (ad 9)), (1, .int a1), (2, .int a2), (3, .int a3)] := hl
  unfold f_Agreements_areInConflict at hf
  refine lv_aload_n hx hb d_Agreements_areInConflict_0 rfl (lv_at hl 0 rfl) ?_
  refine xg_Agreements_30 hx hb hta hown hKv hP d_Agreements_areInConflict_1 ?_
  refine lv_iload_n hx hb d_Agreements_areInConflict_4 rfl (lv_at hl 2 rfl) ?_
  refine lv_iload_n hx hb d_Agreements_areInConflict_5 rfl (lv_at hl 1 rfl) ?_
  obtain ⟨r3, hc1, hf⟩ := bd1_e hf
  refine xvc_Agreements_38 X hkk hD (Nat.le_of_ble_eq_true rfl) ⟨by dsimp only [rmR]; omega, by dsimp only [rmR]; omega⟩ ⟨Nat.zero_le _, Nat.zero_le _⟩ hc1 hl.1 hP hS d_Agreements_areInConflict_6 (fun H locs hP hS => ?_)
  refine lv_istore (lv' := [(4, .int r3), (0, .ref (ad 9)), (1, .int a1), (2, .int a2), (3, .int a3)]) hx hb d_Agreements_areInConflict_9 hl (by decide) rfl (fun ls hl => ?_)
  refine lv_aload_n hx hb d_Agreements_areInConflict_11 rfl (lv_at hl 1 rfl) ?_
  refine xg_Agreements_30 hx hb hta hown hKv hP d_Agreements_areInConflict_12 ?_
  refine lv_iload_n hx hb d_Agreements_areInConflict_15 rfl (lv_at hl 4 rfl) ?_
  refine lv_iload_n hx hb d_Agreements_areInConflict_16 rfl (lv_at hl 2 rfl) ?_
  obtain ⟨r4, hc2, hf⟩ := bd1_e hf
  refine xvc_Agreements_38 X hkk hD (Nat.le_of_ble_eq_true rfl) ⟨by dsimp only [rmR]; omega, by dsimp only [rmR]; omega⟩ ⟨Nat.zero_le _, Nat.zero_le _⟩ hc2 hl.1 hP hS d_Agreements_areInConflict_17 (fun H locs hP hS => ?_)
  refine lv_istore (lv' := [(5, .int r4), (4, .int r3), (0, .ref (ad 9)), (1, .int a1), (2, .int a2), (3, .int a3)]) hx hb d_Agreements_areInConflict_20 hl (by decide) rfl (fun ls hl => ?_)
  refine lv_aload_n hx hb d_Agreements_areInConflict_22 rfl (lv_at hl 2 rfl) ?_
  refine xg_Agreements_11 hx hb hta hown hKv hP d_Agreements_areInConflict_23 ?_
  refine lv_iload_n hx hb d_Agreements_areInConflict_26 rfl (lv_at hl 3 rfl) ?_
  obtain ⟨g3, hf⟩ := gd_ok hf
  refine x_ald (k0 := 61) (base := 62) (n := 12) hx hb hKv hP c_c61 g3 d_Agreements_areInConflict_27 ?_
  refine lv_iload_n hx hb d_Agreements_areInConflict_28 rfl (lv_at hl 4 rfl) ?_
  obtain ⟨g4, hf⟩ := gd_ok hf
  refine x_ild hx hb hKv hP (c_c62 g3) g4 d_Agreements_areInConflict_29 ?_
  refine lv_aload_n hx hb d_Agreements_areInConflict_30 rfl (lv_at hl 2 rfl) ?_
  refine xg_Agreements_11 hx hb hta hown hKv hP d_Agreements_areInConflict_31 ?_
  refine lv_iload_n hx hb d_Agreements_areInConflict_34 rfl (lv_at hl 3 rfl) ?_
  obtain ⟨g5, hf⟩ := gd_ok hf
  refine x_ald (k0 := 61) (base := 62) (n := 12) hx hb hKv hP c_c61 g5 d_Agreements_areInConflict_35 ?_
  refine lv_iload_n hx hb d_Agreements_areInConflict_36 rfl (lv_at hl 5 rfl) ?_
  obtain ⟨g6, hf⟩ := gd_ok hf
  refine x_ild hx hb hKv hP (c_c62 g5) g6 d_Agreements_areInConflict_37 ?_
  refine lv_icmp_ne (tgt := 62) hx hb d_Agreements_areInConflict_38 (by decide) (fun c7 => ?_) (fun c7 => ?_)
  · have hf := ifn c7 hf
    refine lv_iconst (v := (0 : Int32)) hx hb d_Agreements_areInConflict_62 (by decide) ?_
    exact hret (Or.inl rfl) hf hP hS d_Agreements_areInConflict_63
  · have hf := ifp c7 hf
    refine lv_iload hx hb d_Agreements_areInConflict_41 (lv_at hl 1 rfl) ?_
    refine lv_if_eq (tgt := 62) hx hb d_Agreements_areInConflict_43 (by decide) (fun c8 => ?_) (fun c8 => ?_)
    · have hf := ifp c8 hf
      refine lv_iconst (v := (0 : Int32)) hx hb d_Agreements_areInConflict_62 (by decide) ?_
      exact hret (Or.inl rfl) hf hP hS d_Agreements_areInConflict_63
    · have hf := ifn c8 hf
      refine lv_iload hx hb d_Agreements_areInConflict_46 (lv_at hl 0 rfl) ?_
      refine lv_if_eq (tgt := 62) hx hb d_Agreements_areInConflict_48 (by decide) (fun c9 => ?_) (fun c9 => ?_)
      · have hf := ifp c9 hf
        refine lv_iconst (v := (0 : Int32)) hx hb d_Agreements_areInConflict_62 (by decide) ?_
        exact hret (Or.inl rfl) hf hP hS d_Agreements_areInConflict_63
      · have hf := ifn c9 hf
        refine lv_iload hx hb d_Agreements_areInConflict_51 (lv_at hl 1 rfl) ?_
        refine lv_iload hx hb d_Agreements_areInConflict_53 (lv_at hl 0 rfl) ?_
        refine lv_icmp_eq (tgt := 62) hx hb d_Agreements_areInConflict_55 (by decide) (fun c10 => ?_) (fun c10 => ?_)
        · have hf := ifp c10 hf
          refine lv_iconst (v := (0 : Int32)) hx hb d_Agreements_areInConflict_62 (by decide) ?_
          exact hret (Or.inl rfl) hf hP hS d_Agreements_areInConflict_63
        · have hf := ifn c10 hf
          refine lv_iconst (v := (1 : Int32)) hx hb d_Agreements_areInConflict_58 (by decide) ?_
          refine lv_goto (tgt := 63) hx hb d_Agreements_areInConflict_59 (by decide) ?_
          exact hret (Or.inr rfl) hf hP hS d_Agreements_areInConflict_63
-- LinkAudit$Agreements.listConflicts
theorem xvc_Agreements_34 {p : Program} {l : Launch} {e : Env} {R : Room} {s : State} {m : MethodId} {args : Array Value} {below : List Frame} {meth : Method} {c : Code} {H : Heap} {locs : List Loc} {cells slots : Nat} {Q : State → Prop} {cc : ByteArray} {pc : Nat} {ls : Array Slot} {rest : List Value} {D : va_G} {cI cL cG cZ : ClassId} {ad : Nat → Nat} {M : Mem} {H0 : Heap} {nL : Nat} {a0 : Int32} {a1 : Int32} {a2 : Int32} {r : Int32} (X : CallFix p m c cc nL s args ALLW "LinkAudit$Agreements") (hkk : Kk D cI cL cG cZ s) (hD : ∀ M, va_D (c_A ad) (c_ws cI cL cG cZ ad M)) (hrest : (rest.map fun v => v.category).sum ≤ 8) (hR : 2 + 1 ≤ R.frames ∧ 8 + (6 + 11) + 46 ≤ R.locals) (hcs : cells + 0 ≤ R.cells ∧ slots + 0 ≤ R.slots) (hc : f_Agreements_areInConflict M a0 a1 a2 = some r) (hsz : ls.size = nL) (hP : va_P D vwC (c_ws cI cL cG cZ ad M) H) (hS : va_S (c_A ad) H0 H locs) (hdg : decode cc pc = .ok (.invokevirtual 34, 3))
    (kk : ∀ (H1 : Heap) (locs1 : List Loc), va_P D vwC (c_ws cI cL cG cZ ad M) H1 → va_S (c_A ad) H0 H1 locs1 → W p l e R s m args below meth c H1 locs1 cells slots Q (F0 m (pc + 3) ls (.int r :: rest))) : W p l e R s m args below meth c H locs cells slots Q (F0 m pc ls (.int a2 :: .int a1 :: .int a0 :: .ref (ad 9) :: rest)) := by
  have hta := X.2.2.2.2
  exact x_afterI (va_runV (As := [.int a0, .int a1, .int a2]) (rest := rest) X (c_Agreements_areInConflict hD hc) ⟨callB_of 3 hta (good_all (L := .code y_Agreements_areInConflict prog_2_method_5_code 6 (some .boolean) :: ALLW) (List.forall_mem_cons.mpr ⟨wm_676, fun _ h => h⟩)) rfl rfl rfl (hta _ wm_10) (hta _ wm_673) (by decide +kernel) hR, hta _ wm_675, hta _ wp_22⟩ ⟨x_blind Kk_w _, va_recv hkk.1 hP (ci := 9) (q0 := 9) rfl c_c9, x_pre Kk_w hkk hP _⟩ rfl rfl hsz rfl (lv_room hrest) hdg hcs) hS kk
theorem xg_Agreements_16 {p : Program} {l : Launch} {e : Env} {R : Room} {s : State} {m : MethodId} {args : Array Value} {below : List Frame} {meth : Method} {c : Code} {H : Heap} {locs : List Loc} {cells slots : Nat} {Q : State → Prop} {cc : ByteArray} {pc : Nat} {ls : Array Slot} {rest : List Value} {D : va_G} {cI cL cG cZ : ClassId} {ad : Nat → Nat} {M : Mem} (hx : p.tables.exec = Jvm.exec) (hb : c.code = cc) (hta : ∀ w ∈ ALLW, w.before args s = true) (hown : s.vm.findClass "LinkAudit$Agreements" = some m.cls) (hK : va_K D vwC [(cI, .int), (cL, .long), (cG, .array .int), (cZ, .boolean)] s) (hP : va_P D vwC (c_ws cI cL cG cZ ad M) H) (hdg : decode cc pc = .ok (.getfield 16, 3))
    (kk : W p l e R s m args below meth c H locs cells slots Q (F0 m (pc + 3) ls (.ref (ad 74) :: rest))) : W p l e R s m args below meth c H locs cells slots Q (F0 m pc ls (.ref (ad 9) :: rest)) :=
  va_get (D := D) (ci := 9) (v := .ref (ad 74)) (C := "LinkAudit$Agreements") (T := T_Agreements) (N := 6) hx hb hta i_Agreements hown hK hP 9 c_c9 rfl 2 (by decide) (hta _ wm_277) (fun _ h9 => h9) rfl hdg kk
theorem xg_Agreements_26 {p : Program} {l : Launch} {e : Env} {R : Room} {s : State} {m : MethodId} {args : Array Value} {below : List Frame} {meth : Method} {c : Code} {H : Heap} {locs : List Loc} {cells slots : Nat} {Q : State → Prop} {cc : ByteArray} {pc : Nat} {ls : Array Slot} {rest : List Value} {D : va_G} {cI cL cG cZ : ClassId} {ad : Nat → Nat} {M : Mem} (hx : p.tables.exec = Jvm.exec) (hb : c.code = cc) (hta : ∀ w ∈ ALLW, w.before args s = true) (hown : s.vm.findClass "LinkAudit$Agreements" = some m.cls) (hK : va_K D vwC [(cI, .int), (cL, .long), (cG, .array .int), (cZ, .boolean)] s) (hP : va_P D vwC (c_ws cI cL cG cZ ad M) H) (hdg : decode cc pc = .ok (.getfield 26, 3))
    (kk : W p l e R s m args below meth c H locs cells slots Q (F0 m (pc + 3) ls (.int (M.1 9 5) :: rest))) : W p l e R s m args below meth c H locs cells slots Q (F0 m pc ls (.ref (ad 9) :: rest)) :=
  va_get (D := D) (ci := 9) (v := .int (M.1 9 5)) (C := "LinkAudit$Agreements") (T := T_Agreements) (N := 6) hx hb hta i_Agreements hown hK hP 9 c_c9 rfl 5 (by decide) (hta _ wm_283) (fun _ h9 => h9) rfl hdg kk
theorem xg_Agreements_20 {p : Program} {l : Launch} {e : Env} {R : Room} {s : State} {m : MethodId} {args : Array Value} {below : List Frame} {meth : Method} {c : Code} {H : Heap} {locs : List Loc} {cells slots : Nat} {Q : State → Prop} {cc : ByteArray} {pc : Nat} {ls : Array Slot} {rest : List Value} {D : va_G} {cI cL cG cZ : ClassId} {ad : Nat → Nat} {M : Mem} (hx : p.tables.exec = Jvm.exec) (hb : c.code = cc) (hta : ∀ w ∈ ALLW, w.before args s = true) (hown : s.vm.findClass "LinkAudit$Agreements" = some m.cls) (hK : va_K D vwC [(cI, .int), (cL, .long), (cG, .array .int), (cZ, .boolean)] s) (hP : va_P D vwC (c_ws cI cL cG cZ ad M) H) (hdg : decode cc pc = .ok (.getfield 20, 3))
    (kk : W p l e R s m args below meth c H locs cells slots Q (F0 m (pc + 3) ls (.ref (ad 75) :: rest))) : W p l e R s m args below meth c H locs cells slots Q (F0 m pc ls (.ref (ad 9) :: rest)) :=
  va_get (D := D) (ci := 9) (v := .ref (ad 75)) (C := "LinkAudit$Agreements") (T := T_Agreements) (N := 6) hx hb hta i_Agreements hown hK hP 9 c_c9 rfl 3 (by decide) (hta _ wm_279) (fun _ h9 => h9) rfl hdg kk
theorem xg_Agreements_23 {p : Program} {l : Launch} {e : Env} {R : Room} {s : State} {m : MethodId} {args : Array Value} {below : List Frame} {meth : Method} {c : Code} {H : Heap} {locs : List Loc} {cells slots : Nat} {Q : State → Prop} {cc : ByteArray} {pc : Nat} {ls : Array Slot} {rest : List Value} {D : va_G} {cI cL cG cZ : ClassId} {ad : Nat → Nat} {M : Mem} (hx : p.tables.exec = Jvm.exec) (hb : c.code = cc) (hta : ∀ w ∈ ALLW, w.before args s = true) (hown : s.vm.findClass "LinkAudit$Agreements" = some m.cls) (hK : va_K D vwC [(cI, .int), (cL, .long), (cG, .array .int), (cZ, .boolean)] s) (hP : va_P D vwC (c_ws cI cL cG cZ ad M) H) (hdg : decode cc pc = .ok (.getfield 23, 3))
    (kk : W p l e R s m args below meth c H locs cells slots Q (F0 m (pc + 3) ls (.ref (ad 76) :: rest))) : W p l e R s m args below meth c H locs cells slots Q (F0 m pc ls (.ref (ad 9) :: rest)) :=
  va_get (D := D) (ci := 9) (v := .ref (ad 76)) (C := "LinkAudit$Agreements") (T := T_Agreements) (N := 6) hx hb hta i_Agreements hown hK hP 9 c_c9 rfl 4 (by decide) (hta _ wm_281) (fun _ h9 => h9) rfl hdg kk
set_option maxHeartbeats 4000000 in
set_option maxRecDepth 100000 in
theorem c_Agreements_listConflicts {l : Launch} {D : va_G} {cI cL cG cZ : ClassId} {ad : Nat → Nat} {M M' : Mem}  (hD : ∀ M, va_D (c_A ad) (c_ws cI cL cG cZ ad M)) (hf : f_Agreements_listConflicts M = some M') : Mv l y_Agreements_listConflicts (.code y_Agreements_listConflicts prog_2_method_4_code 4 none :: ALLW) (rmR 3 71) (Kk D cI cL cG cZ) D vwC (c_A ad) (c_ws cI cL cG cZ ad) [.ref (ad 9)] M M' := by
  refine Mv_of (by decide) (Nat.le_of_ble_eq_true rfl) ?_
  intro p e s m args below meth c ls Q X hkk hret hP hl
  obtain ⟨hx, hb, hml, hown, hta⟩ := id X
  have hKv := hkk.1
  have hS : va_S (c_A ad) s.heap s.heap [] := va_S.rf
  have hl : lv_has ls 4 [(0, .ref (ad 9))] := hl
  have L2 : ∀ (ke92 : Mem → Option Mem), ke92 = (fun M9 => some M9) → ∀ (n2 : Nat) (x1 : Int32) (M : Mem) (H : Heap) (locs : List Loc) (ls : Array Slot), f_Agreements_listConflicts_L2 ke92 n2 x1 M = some M' → va_P D vwC (c_ws cI cL cG cZ ad M) H → va_S (c_A ad) s.heap H locs → lv_has ls 4 [(0, .ref (ad 9)), (1, .int x1)] → W p l e (rmR 3 71) s m args below meth c H locs 0 0 Q (F0 m 2 ls []) := by
    intro ke92 hke92 n2
    induction n2 with
    | zero => intro x1 M H locs ls hf; exact absurd (show (none : Option _) = some _ from hf) (fun q => by cases q)
    | succ n2 ih2 =>
      intro x1 M H locs ls hf hP hS hl
      rw [f_Agreements_listConflicts_L2] at hf
      have L10 : ∀ (x1 : Int32), ∀ (ke86 : Mem → Option Mem), ke86 = (fun M10 => f_Agreements_listConflicts_L2 ke92 n2 (x1 + (1 : Int32)) M10) → ∀ (n10 : Nat) (x2 : Int32) (M : Mem) (H : Heap) (locs : List Loc) (ls : Array Slot), f_Agreements_listConflicts_L10 x1 ke86 n10 x2 M = some M' → va_P D vwC (c_ws cI cL cG cZ ad M) H → va_S (c_A ad) s.heap H locs → lv_has ls 4 [(0, .ref (ad 9)), (1, .int x1), (2, .int x2)] → W p l e (rmR 3 71) s m args below meth c H locs 0 0 Q (F0 m 10 ls []) := by
        intro x1 ke86 hke86 n10
        induction n10 with
        | zero => intro x2 M H locs ls hf; exact absurd (show (none : Option _) = some _ from hf) (fun q => by cases q)
        | succ n10 ih10 =>
          intro x2 M H locs ls hf hP hS hl
          rw [f_Agreements_listConflicts_L10] at hf
          have L19 : ∀ (x2 : Int32), ∀ (ke80 : Mem → Option Mem), ke80 = (fun M11 => f_Agreements_listConflicts_L10 x1 ke86 n10 (x2 + (1 : Int32)) M11) → ∀ (n19 : Nat) (x3 : Int32) (M : Mem) (H : Heap) (locs : List Loc) (ls : Array Slot), f_Agreements_listConflicts_L19 x1 x2 ke80 n19 x3 M = some M' → va_P D vwC (c_ws cI cL cG cZ ad M) H → va_S (c_A ad) s.heap H locs → lv_has ls 4 [(0, .ref (ad 9)), (1, .int x1), (2, .int x2), (3, .int x3)] → W p l e (rmR 3 71) s m args below meth c H locs 0 0 Q (F0 m 19 ls []) := by
            intro x2 ke80 hke80 n19
            induction n19 with
            | zero => intro x3 M H locs ls hf; exact absurd (show (none : Option _) = some _ from hf) (fun q => by cases q)
            | succ n19 ih19 =>
              intro x3 M H locs ls hf hP hS hl
              rw [f_Agreements_listConflicts_L19] at hf
              refine lv_iload_n hx hb d_Agreements_listConflicts_19 rfl (lv_at hl 3 rfl) ?_
              refine lv_iconst (v := (5 : Int32)) hx hb d_Agreements_listConflicts_20 (by decide) ?_
              refine lv_icmp_ge (tgt := 80) hx hb d_Agreements_listConflicts_21 (by decide) (fun c1 => ?_) (fun c1 => ?_)
              · have hf := ifp c1 hf
                rw [hke80] at hf
                refine lv_iinc (v := (x2 + (1 : Int32))) (lv' := [(2, .int (x2 + (1 : Int32))), (0, .ref (ad 9)), (1, .int x1), (3, .int x3)]) hx hb d_Agreements_listConflicts_80 hl (k := 2) rfl rfl (by decide) rfl (fun ls hl => ?_)
                refine lv_goto (tgt := 10) hx hb d_Agreements_listConflicts_83 (by decide) ?_
                exact ih10 (x2 + (1 : Int32)) M _ _ _ hf hP hS (lv_sub hl [1, 2, 0] rfl)
              · have hf := ifn c1 hf
                refine lv_aload_n hx hb d_Agreements_listConflicts_24 rfl (lv_at hl 0 rfl) ?_
                refine lv_iload_n hx hb d_Agreements_listConflicts_25 rfl (lv_at hl 1 rfl) ?_
                refine lv_iload_n hx hb d_Agreements_listConflicts_26 rfl (lv_at hl 2 rfl) ?_
                refine lv_iload_n hx hb d_Agreements_listConflicts_27 rfl (lv_at hl 3 rfl) ?_
                obtain ⟨r12, hc2, hf⟩ := bd1_e hf
                refine xvc_Agreements_34 X hkk hD (Nat.le_of_ble_eq_true rfl) ⟨by dsimp only [rmR]; omega, by dsimp only [rmR]; omega⟩ ⟨Nat.zero_le _, Nat.zero_le _⟩ hc2 hl.1 hP hS d_Agreements_listConflicts_28 (fun H locs hP hS => ?_)
                refine lv_if_eq (tgt := 74) hx hb d_Agreements_listConflicts_31 (by decide) (fun c3 => ?_) (fun c3 => ?_)
                · have hf := ifp c3 hf
                  refine lv_iinc (v := (x3 + (1 : Int32))) (lv' := [(3, .int (x3 + (1 : Int32))), (0, .ref (ad 9)), (1, .int x1), (2, .int x2)]) hx hb d_Agreements_listConflicts_74 hl (k := 3) rfl rfl (by decide) rfl (fun ls hl => ?_)
                  refine lv_goto (tgt := 19) hx hb d_Agreements_listConflicts_77 (by decide) ?_
                  exact ih19 (x3 + (1 : Int32)) M _ _ _ hf hP hS (lv_sub hl [1, 2, 3, 0] rfl)
                · have hf := ifn c3 hf
                  refine lv_aload_n hx hb d_Agreements_listConflicts_34 rfl (lv_at hl 0 rfl) ?_
                  refine xg_Agreements_16 hx hb hta hown hKv hP d_Agreements_listConflicts_35 ?_
                  refine lv_aload_n hx hb d_Agreements_listConflicts_38 rfl (lv_at hl 0 rfl) ?_
                  refine xg_Agreements_26 hx hb hta hown hKv hP d_Agreements_listConflicts_39 ?_
                  refine lv_iload_n hx hb d_Agreements_listConflicts_42 rfl (lv_at hl 1 rfl) ?_
                  obtain ⟨g4, hf⟩ := gd_ok hf
                  obtain ⟨M13, eM13, hf⟩ := sm_e hf
                  refine x_ist hx hb hKv hP (hD _) hS c_c74 c_s74 g4 eM13 d_Agreements_listConflicts_43 (fun H locs hP hS => ?_)
                  refine lv_aload_n hx hb d_Agreements_listConflicts_44 rfl (lv_at hl 0 rfl) ?_
                  refine xg_Agreements_20 hx hb hta hown hKv hP d_Agreements_listConflicts_45 ?_
                  refine lv_aload_n hx hb d_Agreements_listConflicts_48 rfl (lv_at hl 0 rfl) ?_
                  refine xg_Agreements_26 hx hb hta hown hKv hP d_Agreements_listConflicts_49 ?_
                  refine lv_iload_n hx hb d_Agreements_listConflicts_52 rfl (lv_at hl 2 rfl) ?_
                  obtain ⟨g5, hf⟩ := gd_ok hf
                  obtain ⟨M14, eM14, hf⟩ := sm_e hf
                  refine x_ist hx hb hKv hP (hD _) hS c_c75 c_s75 g5 eM14 d_Agreements_listConflicts_53 (fun H locs hP hS => ?_)
                  refine lv_aload_n hx hb d_Agreements_listConflicts_54 rfl (lv_at hl 0 rfl) ?_
                  refine xg_Agreements_23 hx hb hta hown hKv hP d_Agreements_listConflicts_55 ?_
                  refine lv_aload_n hx hb d_Agreements_listConflicts_58 rfl (lv_at hl 0 rfl) ?_
                  refine xg_Agreements_26 hx hb hta hown hKv hP d_Agreements_listConflicts_59 ?_
                  refine lv_iload_n hx hb d_Agreements_listConflicts_62 rfl (lv_at hl 3 rfl) ?_
                  obtain ⟨g6, hf⟩ := gd_ok hf
                  obtain ⟨M15, eM15, hf⟩ := sm_e hf
                  refine x_ist hx hb hKv hP (hD _) hS c_c76 c_s76 g6 eM15 d_Agreements_listConflicts_63 (fun H locs hP hS => ?_)
                  refine lv_aload_n hx hb d_Agreements_listConflicts_64 rfl (lv_at hl 0 rfl) ?_
                  refine lv_dup hx hb d_Agreements_listConflicts_65 rfl ?_
                  refine xg_Agreements_26 hx hb hta hown hKv hP d_Agreements_listConflicts_66 ?_
                  refine lv_iconst (v := (1 : Int32)) hx hb d_Agreements_listConflicts_69 (by decide) ?_
                  refine lv_iadd hx hb d_Agreements_listConflicts_70 ?_
                  obtain ⟨M16, eM16, hf⟩ := sm_e hf
                  refine xp_Agreements_26 hx hb hta hown hKv hP (hD _) hS eM16 d_Agreements_listConflicts_71 (fun H locs hP hS => ?_)
                  refine lv_iinc (v := (x3 + (1 : Int32))) (lv' := [(3, .int (x3 + (1 : Int32))), (0, .ref (ad 9)), (1, .int x1), (2, .int x2)]) hx hb d_Agreements_listConflicts_74 hl (k := 3) rfl rfl (by decide) rfl (fun ls hl => ?_)
                  refine lv_goto (tgt := 19) hx hb d_Agreements_listConflicts_77 (by decide) ?_
                  exact ih19 (x3 + (1 : Int32)) M16 _ _ _ hf hP hS (lv_sub hl [1, 2, 3, 0] rfl)
          refine lv_iload_n hx hb d_Agreements_listConflicts_10 rfl (lv_at hl 2 rfl) ?_
          refine lv_iconst (v := (5 : Int32)) hx hb d_Agreements_listConflicts_11 (by decide) ?_
          refine lv_icmp_ge (tgt := 86) hx hb d_Agreements_listConflicts_12 (by decide) (fun c7 => ?_) (fun c7 => ?_)
          · have hf := ifp c7 hf
            rw [hke86] at hf
            refine lv_iinc (v := (x1 + (1 : Int32))) (lv' := [(1, .int (x1 + (1 : Int32))), (0, .ref (ad 9)), (2, .int x2)]) hx hb d_Agreements_listConflicts_86 hl (k := 1) rfl rfl (by decide) rfl (fun ls hl => ?_)
            refine lv_goto (tgt := 2) hx hb d_Agreements_listConflicts_89 (by decide) ?_
            exact ih2 (x1 + (1 : Int32)) M _ _ _ hf hP hS (lv_sub hl [1, 0] rfl)
          · have hf := ifn c7 hf
            refine lv_iload_n hx hb d_Agreements_listConflicts_15 rfl (lv_at hl 2 rfl) ?_
            refine lv_iconst (v := (1 : Int32)) hx hb d_Agreements_listConflicts_16 (by decide) ?_
            refine lv_iadd hx hb d_Agreements_listConflicts_17 ?_
            refine lv_istore_n (lv' := [(3, .int (x2 + (1 : Int32))), (0, .ref (ad 9)), (1, .int x1), (2, .int x2)]) hx hb d_Agreements_listConflicts_18 rfl hl (by decide) rfl (fun ls hl => ?_)
            exact L19 x2 _ rfl FU (x2 + (1 : Int32)) M _ _ _ hf hP hS (lv_sub hl [1, 2, 3, 0] rfl)
      refine lv_iload_n hx hb d_Agreements_listConflicts_2 rfl (lv_at hl 1 rfl) ?_
      refine lv_bipush (v := (12 : Int32)) hx hb d_Agreements_listConflicts_3 (by decide) ?_
      refine lv_icmp_ge (tgt := 92) hx hb d_Agreements_listConflicts_5 (by decide) (fun c8 => ?_) (fun c8 => ?_)
      · have hf := ifp c8 hf
        rw [hke92] at hf
        exact hret hf hP hS d_Agreements_listConflicts_92
      · have hf := ifn c8 hf
        refine lv_iconst (v := (0 : Int32)) hx hb d_Agreements_listConflicts_8 (by decide) ?_
        refine lv_istore_n (lv' := [(2, .int (0 : Int32)), (0, .ref (ad 9)), (1, .int x1)]) hx hb d_Agreements_listConflicts_9 rfl hl (by decide) rfl (fun ls hl => ?_)
        exact L10 x1 _ rfl FU (0 : Int32) M _ _ _ hf hP hS (lv_sub hl [1, 2, 0] rfl)
  unfold f_Agreements_listConflicts at hf
  refine lv_iconst (v := (0 : Int32)) hx hb d_Agreements_listConflicts_0 (by decide) ?_
  refine lv_istore_n (lv' := [(1, .int (0 : Int32)), (0, .ref (ad 9))]) hx hb d_Agreements_listConflicts_1 rfl hl (by decide) rfl (fun ls hl => ?_)
  exact L2  _ rfl FU (0 : Int32) M _ _ _ hf hP hS (lv_sub hl [1, 0] rfl)
