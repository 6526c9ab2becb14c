/-! the law: class and reference side by side -/
def SimW (Rel : Mem → Mem → Prop) (x y : Option (Int32 × Mem)) : Prop := ∃ (r : Int32) (Nc Nr : Mem), x = some (r, Nc) ∧ y = some (r, Nr) ∧ Rel Nc Nr
def SimR (x y : Option Int32) : Prop := ∃ r : Int32, x = some r ∧ y = some r
def Sim_provide (Rel : Mem → Mem → Prop) : Prop := ∀ (Mc Mr : Mem), Rel Mc Mr → ∀ a0 a1 : Int32, SimW Rel (f_LinkAudit_provide Mc a0 a1) (f_LinkAuditModel_provide Mr a0 a1)
def Sim_mask (Rel : Mem → Mem → Prop) : Prop := ∀ (Mc Mr : Mem), Rel Mc Mr → ∀ a0 a1 a2 : Int32, (a2 = 0 ∨ a2 = 1) → SimW Rel (f_LinkAudit_mask Mc a0 a1 a2) (f_LinkAuditModel_mask Mr a0 a1 a2)
def Sim_define (Rel : Mem → Mem → Prop) : Prop := ∀ (Mc Mr : Mem), Rel Mc Mr → ∀ a0 a1 a2 a3 a4 : Int32, SimW Rel (f_LinkAudit_define Mc a0 a1 a2 a3 a4) (f_LinkAuditModel_define Mr a0 a1 a2 a3 a4)
def Sim_field (Rel : Mem → Mem → Prop) : Prop := ∀ (Mc Mr : Mem), Rel Mc Mr → ∀ a0 a1 a2 a3 : Int32, SimW Rel (f_LinkAudit_field Mc a0 a1 a2 a3) (f_LinkAuditModel_field Mr a0 a1 a2 a3)
def Sim_method (Rel : Mem → Mem → Prop) : Prop := ∀ (Mc Mr : Mem), Rel Mc Mr → ∀ a0 a1 a2 a3 a4 : Int32, SimW Rel (f_LinkAudit_method Mc a0 a1 a2 a3 a4) (f_LinkAuditModel_method Mr a0 a1 a2 a3 a4)
def Sim_reference (Rel : Mem → Mem → Prop) : Prop := ∀ (Mc Mr : Mem), Rel Mc Mr → ∀ a0 a1 a2 a3 a4 : Int32, SimW Rel (f_LinkAudit_reference Mc a0 a1 a2 a3 a4) (f_LinkAuditModel_reference Mr a0 a1 a2 a3 a4)
def Sim_find (Rel : Mem → Mem → Prop) : Prop := ∀ (Mc Mr : Mem), Rel Mc Mr → ∀ a0 a1 : Int32, SimR (f_LinkAudit_find Mc a0 a1) (f_LinkAuditModel_find Mr a0 a1)
def Sim_load (Rel : Mem → Mem → Prop) : Prop := ∀ (Mc Mr : Mem), Rel Mc Mr → ∀ a0 : Int32, SimW Rel (f_LinkAudit_load Mc a0) (f_LinkAuditModel_load Mr a0)
def Sim_verdict (Rel : Mem → Mem → Prop) : Prop := ∀ (Mc Mr : Mem), Rel Mc Mr → ∀ a0 : Int32, SimW Rel (f_LinkAudit_verdict Mc a0) (f_LinkAuditModel_verdict Mr a0)
def Sim_select (Rel : Mem → Mem → Prop) : Prop := ∀ (Mc Mr : Mem), Rel Mc Mr → ∀ a0 a1 : Int32, SimW Rel (f_LinkAudit_select Mc a0 a1) (f_LinkAuditModel_select Mr a0 a1)
def Sim_overrides (Rel : Mem → Mem → Prop) : Prop := ∀ (Mc Mr : Mem), Rel Mc Mr → ∀ a0 a1 : Int32, SimW Rel (f_LinkAudit_overrides Mc a0 a1) (f_LinkAuditModel_overrides Mr a0 a1)
def Sim_gaps (Rel : Mem → Mem → Prop) : Prop := ∀ (Mc Mr : Mem), Rel Mc Mr → SimW Rel (f_LinkAudit_gaps Mc) (f_LinkAuditModel_gaps Mr)
def Sim_conflicts (Rel : Mem → Mem → Prop) : Prop := ∀ (Mc Mr : Mem), Rel Mc Mr → SimW Rel (f_LinkAudit_conflicts Mc) (f_LinkAuditModel_conflicts Mr)
def Sim_conflict (Rel : Mem → Mem → Prop) : Prop := ∀ (Mc Mr : Mem), Rel Mc Mr → ∀ a0 a1 : Int32, SimW Rel (f_LinkAudit_conflict Mc a0 a1) (f_LinkAuditModel_conflict Mr a0 a1)
def Sim_faults (Rel : Mem → Mem → Prop) : Prop := ∀ (Mc Mr : Mem), Rel Mc Mr → SimW Rel (f_LinkAudit_faults Mc) (f_LinkAuditModel_faults Mr)
def Sim_count (Rel : Mem → Mem → Prop) : Prop := ∀ (Mc Mr : Mem), Rel Mc Mr → ∀ a0 : Int32, SimR (f_LinkAudit_count Mc a0) (f_LinkAuditModel_count Mr a0)
def Sims (Rel : Mem → Mem → Prop) : Prop := Sim_provide Rel ∧ Sim_mask Rel ∧ Sim_define Rel ∧ Sim_field Rel ∧ Sim_method Rel ∧ Sim_reference Rel ∧ Sim_find Rel ∧ Sim_load Rel ∧ Sim_verdict Rel ∧ Sim_select Rel ∧ Sim_overrides Rel ∧ Sim_gaps Rel ∧ Sim_conflicts Rel ∧ Sim_conflict Rel ∧ Sim_faults Rel ∧ Sim_count Rel
section XL
variable {p : Program} {l : Launch} {e : Env} {R : Room} {s : State} {m : MethodId} {args : Array Value} {below : List Frame} {meth : Method} {c : Code} {H H0 : Heap} {locs : List Loc} {cells slots : Nat} {Q : State → Prop} {pc : Nat} {ls : Array Slot} {rest st0 : List Value} {D : va_G} {cl : List vw_C} {A0 A1 : Nat → Prop} {cw : Mem → va_W} {M1 : Mem} {ws2 : va_W}
theorem xl_I {r : Int32} {a : Array Value} (hr : va_Run p l e R s m args below meth c H locs cells slots 0 0 (F0 m pc ls st0) rest (va_Qi (fun r' (_ : Unit) => r' = r) (fun _ t => va_P D cl (cw M1) t.heap) A1 a) A1) (hS : va_S A0 H0 H locs) (hA : ∀ q, A1 q → A0 q) (hP2 : va_P D cl ws2 H) (hno : ∀ (k : Nat) (q : Nat × va_E), ws2[k]? = some q → ¬ A1 q.1)
    (kk : ∀ (H1 : Heap) (locs1 : List Loc), va_P D cl (cw M1) H1 → va_P D cl ws2 H1 → va_S A0 H0 H1 locs1 → W p l e R s m args below meth c H1 locs1 cells slots Q (F0 m (pc + 3) ls (.int r :: rest))) : W p l e R s m args below meth c H locs cells slots Q (F0 m pc ls st0) := by
  refine va_calli hr hS (fun q _ h => hA q h) hA (fun r1 u t H1 locs1 ht _ hw hB _ hk hS1 => ?_)
  subst hw
  rw [ht] at hB
  exact kk H1 locs1 hB (hP2.kept (fun k q hq => hk q.1 ((hP2 k q hq).lt) (hno k q hq))) hS1
end XL
theorem xl_in {i k L : Nat} (h : i + k < L) (hL : L ≤ 3072) : vp_in (nI i + nI k) L := by
  rw [nI_add]
  exact vp_in_nI h (by omega)
theorem xl_le {i L : Nat} (hL : L ≤ 3072) (hi : i ≤ L) (h : ¬ nI L - 6 < nI i) : i + 6 ≤ L := by
  rw [Int32.lt_iff_toInt_lt, show (6 : Int32) = nI 6 from rfl, pk_sub_toInt (by omega) (by omega), nI_toInt (by omega)] at h
  omega
set_option maxHeartbeats 4000000 in
set_option maxRecDepth 100000 in
theorem law_provide {p : Program} {l : Launch} {e : Env} {s : State} {m : MethodId} {below : List Frame} {meth : Method} {c : Code} {b L : Nat} {xs : Nat → Int32} {D : va_G} {cI cL cG cZ : ClassId} {adc adr : Nat → Nat} {Rel : Mem → Mem → Prop} (hsim : Sim_provide Rel) (hL : L ≤ 3072) (C0 : lw_At p s m meth c b L xs) (hkk : Kk D cI cL cG cZ s) (hDc : ∀ M, va_D (c_A adc) (c_ws cI cL cG cZ adc M)) (hDr : ∀ M, va_D (r_A adr) (r_ws cI cL cG cZ adr M)) (hAc : ∀ q, c_A adc q → s.heap.size ≤ q) (hAr : ∀ q, r_A adr q → s.heap.size ≤ q) (hno : ∀ q, c_A adc q → ¬ r_A adr q) {i : Nat} {x3 : Int32} (ex3 : x3 = nI i) (hi : i + 6 ≤ L) {Mc Mr : Mem} (hrel : Rel Mc Mr) {H : Heap} {locs : List Loc} {ls : Array Slot} (hPc : va_P D vwC (c_ws cI cL cG cZ adc Mc) H) (hPr : va_P D vwC (r_ws cI cL cG cZ adr Mr) H) (hS : va_S (fun q : Nat => s.heap.size ≤ q) s.heap H locs) (hl : lv_has ls 4 [(0, .ref b), (1, .ref (adc 0)), (2, .ref (adr 0)), (3, .int x3)])
    (kk : ∀ (Nc Nr : Mem), Rel Nc Nr → ∀ (H : Heap) (locs : List Loc) (ls : Array Slot), va_P D vwC (c_ws cI cL cG cZ adc Nc) H → va_P D vwC (r_ws cI cL cG cZ adr Nr) H → va_S (fun q : Nat => s.heap.size ≤ q) s.heap H locs → lv_has ls 4 [(0, .ref b), (1, .ref (adc 0)), (2, .ref (adr 0)), (3, .int x3)] → W p l e room_1 s m #[Value.ref b] below meth c H locs 105 3226 (lw_Z below #[Value.ref b] s) (F0 m 686 ls [])) : W p l e room_1 s m #[Value.ref b] below meth c H locs 105 3226 (lw_Z below #[Value.ref b] s) (F0 m 112 ls []) := by
  obtain ⟨hx, hb, hr, hml, hown, hts, hX, hbl, hlocks, hgv⟩ := C0
  have hta : ∀ w ∈ ALLW, w.before #[Value.ref b] s = true := fun w h => hts w (ALLW_tbl h)
  have hbA : ¬ (fun q : Nat => s.heap.size ≤ q) b := Nat.not_le.mpr hbl
  have hnr : ∀ (M : Mem) (k : Nat) (q : Nat × va_E), (r_ws cI cL cG cZ adr M)[k]? = some q → ¬ c_A adc q.1 := fun M k q hq h => hno _ h ((hDr M).2 k q hq)
  have hnc : ∀ (M : Mem) (k : Nat) (q : Nat × va_E), (c_ws cI cL cG cZ adc M)[k]? = some q → ¬ r_A adr q.1 := fun M k q hq h => hno _ ((hDc M).2 k q hq) h
  have g1 : vp_in (x3 + 1) L := by rw [ex3]; exact xl_in (k := 1) (by omega) hL
  have g2 : vp_in (x3 + 2) L := by rw [ex3]; exact xl_in (k := 2) (by omega) hL
  obtain ⟨r, Nc, Nr, h1, h2, hR⟩ := hsim Mc Mr hrel (xs (x3 + 1).toNatClampNeg) (xs (x3 + 2).toNatClampNeg)
  refine lv_aload_n hx hb d_LinkAuditLaw_law_112 rfl (lv_at hl 1 rfl) ?_
  refine lv_aload_n hx hb d_LinkAuditLaw_law_113 rfl (lv_at hl 0 rfl) ?_
  refine lv_iload_n hx hb d_LinkAuditLaw_law_114 rfl (lv_at hl 3 rfl) ?_
  refine lv_iconst (v := 1) hx hb d_LinkAuditLaw_law_115 (by decide) ?_
  refine lv_iadd hx hb d_LinkAuditLaw_law_116 ?_
  refine va_sld hx hb hX hbl hbA hS g1 d_LinkAuditLaw_law_117 ?_
  refine lv_aload_n hx hb d_LinkAuditLaw_law_118 rfl (lv_at hl 0 rfl) ?_
  refine lv_iload_n hx hb d_LinkAuditLaw_law_119 rfl (lv_at hl 3 rfl) ?_
  refine lv_iconst (v := 2) hx hb d_LinkAuditLaw_law_120 (by decide) ?_
  refine lv_iadd hx hb d_LinkAuditLaw_law_121 ?_
  refine va_sld hx hb hX hbl hbA hS g2 d_LinkAuditLaw_law_122 ?_
  refine xl_I (va_runV (As := [.int (xs (x3 + 1).toNatClampNeg), .int (xs (x3 + 2).toNatClampNeg)]) (rest := []) ⟨hx, hb, hml, hown, hta⟩ (c_LinkAudit_provide hDc h1) ⟨callB_of 2 hta (good_all (L := .code y_LinkAudit_provide prog_1_method_2_code 3 (some .int) :: ALLW) (List.forall_mem_cons.mpr ⟨wm_332, fun _ h => h⟩)) rfl rfl rfl (hta _ wm_1) (hta _ wm_329) (by decide +kernel) ⟨Nat.le_of_ble_eq_true rfl, Nat.le_of_ble_eq_true rfl⟩, hta _ wm_330, hta _ wm_331⟩ ⟨x_blind Kk_w _, va_recv hkk.1 hPc (ci := 0) (q0 := 0) rfl c_c0, x_pre Kk_w hkk hPc _⟩ rfl rfl hl.1 rfl (lv_room (Nat.le_of_ble_eq_true rfl)) d_LinkAuditLaw_law_123 ⟨Nat.le_of_ble_eq_true rfl, Nat.le_of_ble_eq_true rfl⟩) hS hAc hPr (hnr _) (fun H locs hPc hPr hS => ?_)
  refine lv_aload_n hx hb d_LinkAuditLaw_law_126 rfl (lv_at hl 2 rfl) ?_
  refine lv_aload_n hx hb d_LinkAuditLaw_law_127 rfl (lv_at hl 0 rfl) ?_
  refine lv_iload_n hx hb d_LinkAuditLaw_law_128 rfl (lv_at hl 3 rfl) ?_
  refine lv_iconst (v := 1) hx hb d_LinkAuditLaw_law_129 (by decide) ?_
  refine lv_iadd hx hb d_LinkAuditLaw_law_130 ?_
  refine va_sld hx hb hX hbl hbA hS g1 d_LinkAuditLaw_law_131 ?_
  refine lv_aload_n hx hb d_LinkAuditLaw_law_132 rfl (lv_at hl 0 rfl) ?_
  refine lv_iload_n hx hb d_LinkAuditLaw_law_133 rfl (lv_at hl 3 rfl) ?_
  refine lv_iconst (v := 2) hx hb d_LinkAuditLaw_law_134 (by decide) ?_
  refine lv_iadd hx hb d_LinkAuditLaw_law_135 ?_
  refine va_sld hx hb hX hbl hbA hS g2 d_LinkAuditLaw_law_136 ?_
  refine xl_I (va_runV (As := [.int (xs (x3 + 1).toNatClampNeg), .int (xs (x3 + 2).toNatClampNeg)]) (rest := [.int r]) ⟨hx, hb, hml, hown, hta⟩ (c_LinkAuditModel_provide hDr h2) ⟨callB_of 2 hta (good_all (L := .code y_LinkAuditModel_provide prog_12_method_3_code 4 (some .int) :: ALLW) (List.forall_mem_cons.mpr ⟨wm_799, fun _ h => h⟩)) rfl rfl rfl (hta _ wm_11) (hta _ wm_796) (by decide +kernel) ⟨Nat.le_of_ble_eq_true rfl, Nat.le_of_ble_eq_true rfl⟩, hta _ wm_797, hta _ wm_798⟩ ⟨x_blind Kk_w _, va_recv hkk.1 hPr (ci := 10) (q0 := 0) rfl r_c0, x_pre Kk_w hkk hPr _⟩ rfl rfl hl.1 rfl (lv_room (Nat.le_of_ble_eq_true rfl)) d_LinkAuditLaw_law_137 ⟨Nat.le_of_ble_eq_true rfl, Nat.le_of_ble_eq_true rfl⟩) hS hAr hPc (hnc _) (fun H locs hPr hPc hS => ?_)
  refine lv_icmp_eq (tgt := 686) hx hb d_LinkAuditLaw_law_140 (by decide) (fun _ => ?_) (fun h => absurd rfl h)
  exact kk Nc Nr hR _ _ ls hPc hPr hS hl
set_option maxHeartbeats 4000000 in
set_option maxRecDepth 100000 in
theorem law_mask {p : Program} {l : Launch} {e : Env} {s : State} {m : MethodId} {below : List Frame} {meth : Method} {c : Code} {b L : Nat} {xs : Nat → Int32} {D : va_G} {cI cL cG cZ : ClassId} {adc adr : Nat → Nat} {Rel : Mem → Mem → Prop} (hsim : Sim_mask Rel) (hL : L ≤ 3072) (C0 : lw_At p s m meth c b L xs) (hkk : Kk D cI cL cG cZ s) (hDc : ∀ M, va_D (c_A adc) (c_ws cI cL cG cZ adc M)) (hDr : ∀ M, va_D (r_A adr) (r_ws cI cL cG cZ adr M)) (hAc : ∀ q, c_A adc q → s.heap.size ≤ q) (hAr : ∀ q, r_A adr q → s.heap.size ≤ q) (hno : ∀ q, c_A adc q → ¬ r_A adr q) {i : Nat} {x3 : Int32} (ex3 : x3 = nI i) (hi : i + 6 ≤ L) {Mc Mr : Mem} (hrel : Rel Mc Mr) {H : Heap} {locs : List Loc} {ls : Array Slot} (hPc : va_P D vwC (c_ws cI cL cG cZ adc Mc) H) (hPr : va_P D vwC (r_ws cI cL cG cZ adr Mr) H) (hS : va_S (fun q : Nat => s.heap.size ≤ q) s.heap H locs) (hl : lv_has ls 4 [(0, .ref b), (1, .ref (adc 0)), (2, .ref (adr 0)), (3, .int x3)])
    (kk : ∀ (Nc Nr : Mem), Rel Nc Nr → ∀ (H : Heap) (locs : List Loc) (ls : Array Slot), va_P D vwC (c_ws cI cL cG cZ adc Nc) H → va_P D vwC (r_ws cI cL cG cZ adr Nr) H → va_S (fun q : Nat => s.heap.size ≤ q) s.heap H locs → lv_has ls 4 [(0, .ref b), (1, .ref (adc 0)), (2, .ref (adr 0)), (3, .int x3)] → W p l e room_1 s m #[Value.ref b] below meth c H locs 105 3226 (lw_Z below #[Value.ref b] s) (F0 m 686 ls [])) : W p l e room_1 s m #[Value.ref b] below meth c H locs 105 3226 (lw_Z below #[Value.ref b] s) (F0 m 145 ls []) := by
  obtain ⟨hx, hb, hr, hml, hown, hts, hX, hbl, hlocks, hgv⟩ := C0
  have hta : ∀ w ∈ ALLW, w.before #[Value.ref b] s = true := fun w h => hts w (ALLW_tbl h)
  have hbA : ¬ (fun q : Nat => s.heap.size ≤ q) b := Nat.not_le.mpr hbl
  have hnr : ∀ (M : Mem) (k : Nat) (q : Nat × va_E), (r_ws cI cL cG cZ adr M)[k]? = some q → ¬ c_A adc q.1 := fun M k q hq h => hno _ h ((hDr M).2 k q hq)
  have hnc : ∀ (M : Mem) (k : Nat) (q : Nat × va_E), (c_ws cI cL cG cZ adc M)[k]? = some q → ¬ r_A adr q.1 := fun M k q hq h => hno _ ((hDc M).2 k q hq) h
  have g1 : vp_in (x3 + 1) L := by rw [ex3]; exact xl_in (k := 1) (by omega) hL
  have g2 : vp_in (x3 + 2) L := by rw [ex3]; exact xl_in (k := 2) (by omega) hL
  have g3 : vp_in (x3 + 3) L := by rw [ex3]; exact xl_in (k := 3) (by omega) hL
  by_cases hz : xs (x3 + 3).toNatClampNeg = 0
  · skip
    obtain ⟨r, Nc, Nr, h1, h2, hR⟩ := hsim Mc Mr hrel (xs (x3 + 1).toNatClampNeg) (xs (x3 + 2).toNatClampNeg) 0 (Or.inl rfl)
    refine lv_aload_n hx hb d_LinkAuditLaw_law_145 rfl (lv_at hl 1 rfl) ?_
    refine lv_aload_n hx hb d_LinkAuditLaw_law_146 rfl (lv_at hl 0 rfl) ?_
    refine lv_iload_n hx hb d_LinkAuditLaw_law_147 rfl (lv_at hl 3 rfl) ?_
    refine lv_iconst (v := 1) hx hb d_LinkAuditLaw_law_148 (by decide) ?_
    refine lv_iadd hx hb d_LinkAuditLaw_law_149 ?_
    refine va_sld hx hb hX hbl hbA hS g1 d_LinkAuditLaw_law_150 ?_
    refine lv_aload_n hx hb d_LinkAuditLaw_law_151 rfl (lv_at hl 0 rfl) ?_
    refine lv_iload_n hx hb d_LinkAuditLaw_law_152 rfl (lv_at hl 3 rfl) ?_
    refine lv_iconst (v := 2) hx hb d_LinkAuditLaw_law_153 (by decide) ?_
    refine lv_iadd hx hb d_LinkAuditLaw_law_154 ?_
    refine va_sld hx hb hX hbl hbA hS g2 d_LinkAuditLaw_law_155 ?_
    refine lv_aload_n hx hb d_LinkAuditLaw_law_156 rfl (lv_at hl 0 rfl) ?_
    refine lv_iload_n hx hb d_LinkAuditLaw_law_157 rfl (lv_at hl 3 rfl) ?_
    refine lv_iconst (v := 3) hx hb d_LinkAuditLaw_law_158 (by decide) ?_
    refine lv_iadd hx hb d_LinkAuditLaw_law_159 ?_
    refine va_sld hx hb hX hbl hbA hS g3 d_LinkAuditLaw_law_160 ?_
    refine lv_if_eq (tgt := 168) hx hb d_LinkAuditLaw_law_161 (by decide) (fun c1 => ?_) (fun c1 => ?_)
    · skip
      refine lv_iconst (v := 0) hx hb d_LinkAuditLaw_law_168 (by decide) ?_
      refine xl_I (va_runV (As := [.int (xs (x3 + 1).toNatClampNeg), .int (xs (x3 + 2).toNatClampNeg), .int 0]) (rest := []) ⟨hx, hb, hml, hown, hta⟩ (c_LinkAudit_mask hDc h1) ⟨callB_of 3 hta (good_all (L := .code y_LinkAudit_mask prog_1_method_3_code 4 (some .int) :: ALLW) (List.forall_mem_cons.mpr ⟨wm_354, fun _ h => h⟩)) rfl rfl rfl (hta _ wm_1) (hta _ wm_351) (by decide +kernel) ⟨Nat.le_of_ble_eq_true rfl, Nat.le_of_ble_eq_true rfl⟩, hta _ wm_352, hta _ wm_353⟩ ⟨x_blind Kk_w _, va_recv hkk.1 hPc (ci := 0) (q0 := 0) rfl c_c0, x_pre Kk_w hkk hPc _⟩ rfl rfl hl.1 rfl (lv_room (Nat.le_of_ble_eq_true rfl)) d_LinkAuditLaw_law_169 ⟨Nat.le_of_ble_eq_true rfl, Nat.le_of_ble_eq_true rfl⟩) hS hAc hPr (hnr _) (fun H locs hPc hPr hS => ?_)
      refine lv_aload_n hx hb d_LinkAuditLaw_law_172 rfl (lv_at hl 2 rfl) ?_
      refine lv_aload_n hx hb d_LinkAuditLaw_law_173 rfl (lv_at hl 0 rfl) ?_
      refine lv_iload_n hx hb d_LinkAuditLaw_law_174 rfl (lv_at hl 3 rfl) ?_
      refine lv_iconst (v := 1) hx hb d_LinkAuditLaw_law_175 (by decide) ?_
      refine lv_iadd hx hb d_LinkAuditLaw_law_176 ?_
      refine va_sld hx hb hX hbl hbA hS g1 d_LinkAuditLaw_law_177 ?_
      refine lv_aload_n hx hb d_LinkAuditLaw_law_178 rfl (lv_at hl 0 rfl) ?_
      refine lv_iload_n hx hb d_LinkAuditLaw_law_179 rfl (lv_at hl 3 rfl) ?_
      refine lv_iconst (v := 2) hx hb d_LinkAuditLaw_law_180 (by decide) ?_
      refine lv_iadd hx hb d_LinkAuditLaw_law_181 ?_
      refine va_sld hx hb hX hbl hbA hS g2 d_LinkAuditLaw_law_182 ?_
      refine lv_aload_n hx hb d_LinkAuditLaw_law_183 rfl (lv_at hl 0 rfl) ?_
      refine lv_iload_n hx hb d_LinkAuditLaw_law_184 rfl (lv_at hl 3 rfl) ?_
      refine lv_iconst (v := 3) hx hb d_LinkAuditLaw_law_185 (by decide) ?_
      refine lv_iadd hx hb d_LinkAuditLaw_law_186 ?_
      refine va_sld hx hb hX hbl hbA hS g3 d_LinkAuditLaw_law_187 ?_
      refine lv_if_eq (tgt := 195) hx hb d_LinkAuditLaw_law_188 (by decide) (fun c1 => ?_) (fun c1 => ?_)
      · skip
        refine lv_iconst (v := 0) hx hb d_LinkAuditLaw_law_195 (by decide) ?_
        refine xl_I (va_runV (As := [.int (xs (x3 + 1).toNatClampNeg), .int (xs (x3 + 2).toNatClampNeg), .int 0]) (rest := [.int r]) ⟨hx, hb, hml, hown, hta⟩ (c_LinkAuditModel_mask hDr h2) ⟨callB_of 3 hta (good_all (L := .code y_LinkAuditModel_mask prog_12_method_4_code 4 (some .int) :: ALLW) (List.forall_mem_cons.mpr ⟨wm_806, fun _ h => h⟩)) rfl rfl rfl (hta _ wm_11) (hta _ wm_803) (by decide +kernel) ⟨Nat.le_of_ble_eq_true rfl, Nat.le_of_ble_eq_true rfl⟩, hta _ wm_804, hta _ wm_805⟩ ⟨x_blind Kk_w _, va_recv hkk.1 hPr (ci := 10) (q0 := 0) rfl r_c0, x_pre Kk_w hkk hPr _⟩ rfl rfl hl.1 rfl (lv_room (Nat.le_of_ble_eq_true rfl)) d_LinkAuditLaw_law_196 ⟨Nat.le_of_ble_eq_true rfl, Nat.le_of_ble_eq_true rfl⟩) hS hAr hPc (hnc _) (fun H locs hPr hPc hS => ?_)
        refine lv_icmp_eq (tgt := 686) hx hb d_LinkAuditLaw_law_199 (by decide) (fun _ => ?_) (fun h => absurd rfl h)
        exact kk Nc Nr hR _ _ ls hPc hPr hS hl
      · exact absurd hz c1
    · exact absurd hz c1
  · skip
    obtain ⟨r, Nc, Nr, h1, h2, hR⟩ := hsim Mc Mr hrel (xs (x3 + 1).toNatClampNeg) (xs (x3 + 2).toNatClampNeg) 1 (Or.inr rfl)
    refine lv_aload_n hx hb d_LinkAuditLaw_law_145 rfl (lv_at hl 1 rfl) ?_
    refine lv_aload_n hx hb d_LinkAuditLaw_law_146 rfl (lv_at hl 0 rfl) ?_
    refine lv_iload_n hx hb d_LinkAuditLaw_law_147 rfl (lv_at hl 3 rfl) ?_
    refine lv_iconst (v := 1) hx hb d_LinkAuditLaw_law_148 (by decide) ?_
    refine lv_iadd hx hb d_LinkAuditLaw_law_149 ?_
    refine va_sld hx hb hX hbl hbA hS g1 d_LinkAuditLaw_law_150 ?_
    refine lv_aload_n hx hb d_LinkAuditLaw_law_151 rfl (lv_at hl 0 rfl) ?_
    refine lv_iload_n hx hb d_LinkAuditLaw_law_152 rfl (lv_at hl 3 rfl) ?_
    refine lv_iconst (v := 2) hx hb d_LinkAuditLaw_law_153 (by decide) ?_
    refine lv_iadd hx hb d_LinkAuditLaw_law_154 ?_
    refine va_sld hx hb hX hbl hbA hS g2 d_LinkAuditLaw_law_155 ?_
    refine lv_aload_n hx hb d_LinkAuditLaw_law_156 rfl (lv_at hl 0 rfl) ?_
    refine lv_iload_n hx hb d_LinkAuditLaw_law_157 rfl (lv_at hl 3 rfl) ?_
    refine lv_iconst (v := 3) hx hb d_LinkAuditLaw_law_158 (by decide) ?_
    refine lv_iadd hx hb d_LinkAuditLaw_law_159 ?_
    refine va_sld hx hb hX hbl hbA hS g3 d_LinkAuditLaw_law_160 ?_
    refine lv_if_eq (tgt := 168) hx hb d_LinkAuditLaw_law_161 (by decide) (fun c1 => ?_) (fun c1 => ?_)
    · exact absurd c1 hz
    · skip
      refine lv_iconst (v := 1) hx hb d_LinkAuditLaw_law_164 (by decide) ?_
      refine lv_goto (tgt := 169) hx hb d_LinkAuditLaw_law_165 (by decide) ?_
      refine xl_I (va_runV (As := [.int (xs (x3 + 1).toNatClampNeg), .int (xs (x3 + 2).toNatClampNeg), .int 1]) (rest := []) ⟨hx, hb, hml, hown, hta⟩ (c_LinkAudit_mask hDc h1) ⟨callB_of 3 hta (good_all (L := .code y_LinkAudit_mask prog_1_method_3_code 4 (some .int) :: ALLW) (List.forall_mem_cons.mpr ⟨wm_354, fun _ h => h⟩)) rfl rfl rfl (hta _ wm_1) (hta _ wm_351) (by decide +kernel) ⟨Nat.le_of_ble_eq_true rfl, Nat.le_of_ble_eq_true rfl⟩, hta _ wm_352, hta _ wm_353⟩ ⟨x_blind Kk_w _, va_recv hkk.1 hPc (ci := 0) (q0 := 0) rfl c_c0, x_pre Kk_w hkk hPc _⟩ rfl rfl hl.1 rfl (lv_room (Nat.le_of_ble_eq_true rfl)) d_LinkAuditLaw_law_169 ⟨Nat.le_of_ble_eq_true rfl, Nat.le_of_ble_eq_true rfl⟩) hS hAc hPr (hnr _) (fun H locs hPc hPr hS => ?_)
      refine lv_aload_n hx hb d_LinkAuditLaw_law_172 rfl (lv_at hl 2 rfl) ?_
      refine lv_aload_n hx hb d_LinkAuditLaw_law_173 rfl (lv_at hl 0 rfl) ?_
      refine lv_iload_n hx hb d_LinkAuditLaw_law_174 rfl (lv_at hl 3 rfl) ?_
      refine lv_iconst (v := 1) hx hb d_LinkAuditLaw_law_175 (by decide) ?_
      refine lv_iadd hx hb d_LinkAuditLaw_law_176 ?_
      refine va_sld hx hb hX hbl hbA hS g1 d_LinkAuditLaw_law_177 ?_
      refine lv_aload_n hx hb d_LinkAuditLaw_law_178 rfl (lv_at hl 0 rfl) ?_
      refine lv_iload_n hx hb d_LinkAuditLaw_law_179 rfl (lv_at hl 3 rfl) ?_
      refine lv_iconst (v := 2) hx hb d_LinkAuditLaw_law_180 (by decide) ?_
      refine lv_iadd hx hb d_LinkAuditLaw_law_181 ?_
      refine va_sld hx hb hX hbl hbA hS g2 d_LinkAuditLaw_law_182 ?_
      refine lv_aload_n hx hb d_LinkAuditLaw_law_183 rfl (lv_at hl 0 rfl) ?_
      refine lv_iload_n hx hb d_LinkAuditLaw_law_184 rfl (lv_at hl 3 rfl) ?_
      refine lv_iconst (v := 3) hx hb d_LinkAuditLaw_law_185 (by decide) ?_
      refine lv_iadd hx hb d_LinkAuditLaw_law_186 ?_
      refine va_sld hx hb hX hbl hbA hS g3 d_LinkAuditLaw_law_187 ?_
      refine lv_if_eq (tgt := 195) hx hb d_LinkAuditLaw_law_188 (by decide) (fun c1 => ?_) (fun c1 => ?_)
      · exact absurd c1 hz
      · skip
        refine lv_iconst (v := 1) hx hb d_LinkAuditLaw_law_191 (by decide) ?_
        refine lv_goto (tgt := 196) hx hb d_LinkAuditLaw_law_192 (by decide) ?_
        refine xl_I (va_runV (As := [.int (xs (x3 + 1).toNatClampNeg), .int (xs (x3 + 2).toNatClampNeg), .int 1]) (rest := [.int r]) ⟨hx, hb, hml, hown, hta⟩ (c_LinkAuditModel_mask hDr h2) ⟨callB_of 3 hta (good_all (L := .code y_LinkAuditModel_mask prog_12_method_4_code 4 (some .int) :: ALLW) (List.forall_mem_cons.mpr ⟨wm_806, fun _ h => h⟩)) rfl rfl rfl (hta _ wm_11) (hta _ wm_803) (by decide +kernel) ⟨Nat.le_of_ble_eq_true rfl, Nat.le_of_ble_eq_true rfl⟩, hta _ wm_804, hta _ wm_805⟩ ⟨x_blind Kk_w _, va_recv hkk.1 hPr (ci := 10) (q0 := 0) rfl r_c0, x_pre Kk_w hkk hPr _⟩ rfl rfl hl.1 rfl (lv_room (Nat.le_of_ble_eq_true rfl)) d_LinkAuditLaw_law_196 ⟨Nat.le_of_ble_eq_true rfl, Nat.le_of_ble_eq_true rfl⟩) hS hAr hPc (hnc _) (fun H locs hPr hPc hS => ?_)
        refine lv_icmp_eq (tgt := 686) hx hb d_LinkAuditLaw_law_199 (by decide) (fun _ => ?_) (fun h => absurd rfl h)
        exact kk Nc Nr hR _ _ ls hPc hPr hS hl
set_option maxHeartbeats 4000000 in
set_option maxRecDepth 100000 in
theorem law_define {p : Program} {l : Launch} {e : Env} {s : State} {m : MethodId} {below : List Frame} {meth : Method} {c : Code} {b L : Nat} {xs : Nat → Int32} {D : va_G} {cI cL cG cZ : ClassId} {adc adr : Nat → Nat} {Rel : Mem → Mem → Prop} (hsim : Sim_define Rel) (hL : L ≤ 3072) (C0 : lw_At p s m meth c b L xs) (hkk : Kk D cI cL cG cZ s) (hDc : ∀ M, va_D (c_A adc) (c_ws cI cL cG cZ adc M)) (hDr : ∀ M, va_D (r_A adr) (r_ws cI cL cG cZ adr M)) (hAc : ∀ q, c_A adc q → s.heap.size ≤ q) (hAr : ∀ q, r_A adr q → s.heap.size ≤ q) (hno : ∀ q, c_A adc q → ¬ r_A adr q) {i : Nat} {x3 : Int32} (ex3 : x3 = nI i) (hi : i + 6 ≤ L) {Mc Mr : Mem} (hrel : Rel Mc Mr) {H : Heap} {locs : List Loc} {ls : Array Slot} (hPc : va_P D vwC (c_ws cI cL cG cZ adc Mc) H) (hPr : va_P D vwC (r_ws cI cL cG cZ adr Mr) H) (hS : va_S (fun q : Nat => s.heap.size ≤ q) s.heap H locs) (hl : lv_has ls 4 [(0, .ref b), (1, .ref (adc 0)), (2, .ref (adr 0)), (3, .int x3)])
    (kk : ∀ (Nc Nr : Mem), Rel Nc Nr → ∀ (H : Heap) (locs : List Loc) (ls : Array Slot), va_P D vwC (c_ws cI cL cG cZ adc Nc) H → va_P D vwC (r_ws cI cL cG cZ adr Nr) H → va_S (fun q : Nat => s.heap.size ≤ q) s.heap H locs → lv_has ls 4 [(0, .ref b), (1, .ref (adc 0)), (2, .ref (adr 0)), (3, .int x3)] → W p l e room_1 s m #[Value.ref b] below meth c H locs 105 3226 (lw_Z below #[Value.ref b] s) (F0 m 686 ls [])) : W p l e room_1 s m #[Value.ref b] below meth c H locs 105 3226 (lw_Z below #[Value.ref b] s) (F0 m 204 ls []) := by
  obtain ⟨hx, hb, hr, hml, hown, hts, hX, hbl, hlocks, hgv⟩ := C0
  have hta : ∀ w ∈ ALLW, w.before #[Value.ref b] s = true := fun w h => hts w (ALLW_tbl h)
  have hbA : ¬ (fun q : Nat => s.heap.size ≤ q) b := Nat.not_le.mpr hbl
  have hnr : ∀ (M : Mem) (k : Nat) (q : Nat × va_E), (r_ws cI cL cG cZ adr M)[k]? = some q → ¬ c_A adc q.1 := fun M k q hq h => hno _ h ((hDr M).2 k q hq)
  have hnc : ∀ (M : Mem) (k : Nat) (q : Nat × va_E), (c_ws cI cL cG cZ adc M)[k]? = some q → ¬ r_A adr q.1 := fun M k q hq h => hno _ ((hDc M).2 k q hq) h
  have g1 : vp_in (x3 + 1) L := by rw [ex3]; exact xl_in (k := 1) (by omega) hL
  have g2 : vp_in (x3 + 2) L := by rw [ex3]; exact xl_in (k := 2) (by omega) hL
  have g3 : vp_in (x3 + 3) L := by rw [ex3]; exact xl_in (k := 3) (by omega) hL
  have g4 : vp_in (x3 + 4) L := by rw [ex3]; exact xl_in (k := 4) (by omega) hL
  have g5 : vp_in (x3 + 5) L := by rw [ex3]; exact xl_in (k := 5) (by omega) hL
  obtain ⟨r, Nc, Nr, h1, h2, hR⟩ := hsim Mc Mr hrel (xs (x3 + 1).toNatClampNeg) (xs (x3 + 2).toNatClampNeg) (xs (x3 + 3).toNatClampNeg) (xs (x3 + 4).toNatClampNeg) (xs (x3 + 5).toNatClampNeg)
  refine lv_aload_n hx hb d_LinkAuditLaw_law_204 rfl (lv_at hl 1 rfl) ?_
  refine lv_aload_n hx hb d_LinkAuditLaw_law_205 rfl (lv_at hl 0 rfl) ?_
  refine lv_iload_n hx hb d_LinkAuditLaw_law_206 rfl (lv_at hl 3 rfl) ?_
  refine lv_iconst (v := 1) hx hb d_LinkAuditLaw_law_207 (by decide) ?_
  refine lv_iadd hx hb d_LinkAuditLaw_law_208 ?_
  refine va_sld hx hb hX hbl hbA hS g1 d_LinkAuditLaw_law_209 ?_
  refine lv_aload_n hx hb d_LinkAuditLaw_law_210 rfl (lv_at hl 0 rfl) ?_
  refine lv_iload_n hx hb d_LinkAuditLaw_law_211 rfl (lv_at hl 3 rfl) ?_
  refine lv_iconst (v := 2) hx hb d_LinkAuditLaw_law_212 (by decide) ?_
  refine lv_iadd hx hb d_LinkAuditLaw_law_213 ?_
  refine va_sld hx hb hX hbl hbA hS g2 d_LinkAuditLaw_law_214 ?_
  refine lv_aload_n hx hb d_LinkAuditLaw_law_215 rfl (lv_at hl 0 rfl) ?_
  refine lv_iload_n hx hb d_LinkAuditLaw_law_216 rfl (lv_at hl 3 rfl) ?_
  refine lv_iconst (v := 3) hx hb d_LinkAuditLaw_law_217 (by decide) ?_
  refine lv_iadd hx hb d_LinkAuditLaw_law_218 ?_
  refine va_sld hx hb hX hbl hbA hS g3 d_LinkAuditLaw_law_219 ?_
  refine lv_aload_n hx hb d_LinkAuditLaw_law_220 rfl (lv_at hl 0 rfl) ?_
  refine lv_iload_n hx hb d_LinkAuditLaw_law_221 rfl (lv_at hl 3 rfl) ?_
  refine lv_iconst (v := 4) hx hb d_LinkAuditLaw_law_222 (by decide) ?_
  refine lv_iadd hx hb d_LinkAuditLaw_law_223 ?_
  refine va_sld hx hb hX hbl hbA hS g4 d_LinkAuditLaw_law_224 ?_
  refine lv_aload_n hx hb d_LinkAuditLaw_law_225 rfl (lv_at hl 0 rfl) ?_
  refine lv_iload_n hx hb d_LinkAuditLaw_law_226 rfl (lv_at hl 3 rfl) ?_
  refine lv_iconst (v := 5) hx hb d_LinkAuditLaw_law_227 (by decide) ?_
  refine lv_iadd hx hb d_LinkAuditLaw_law_228 ?_
  refine va_sld hx hb hX hbl hbA hS g5 d_LinkAuditLaw_law_229 ?_
  refine xl_I (va_runV (As := [.int (xs (x3 + 1).toNatClampNeg), .int (xs (x3 + 2).toNatClampNeg), .int (xs (x3 + 3).toNatClampNeg), .int (xs (x3 + 4).toNatClampNeg), .int (xs (x3 + 5).toNatClampNeg)]) (rest := []) ⟨hx, hb, hml, hown, hta⟩ (c_LinkAudit_define hDc h1) ⟨callB_of 5 hta (good_all (L := .code y_LinkAudit_define prog_1_method_4_code 8 (some .int) :: ALLW) (List.forall_mem_cons.mpr ⟨wm_362, fun _ h => h⟩)) rfl rfl rfl (hta _ wm_1) (hta _ wm_359) (by decide +kernel) ⟨Nat.le_of_ble_eq_true rfl, Nat.le_of_ble_eq_true rfl⟩, hta _ wm_360, hta _ wm_361⟩ ⟨x_blind Kk_w _, va_recv hkk.1 hPc (ci := 0) (q0 := 0) rfl c_c0, x_pre Kk_w hkk hPc _⟩ rfl rfl hl.1 rfl (lv_room (Nat.le_of_ble_eq_true rfl)) d_LinkAuditLaw_law_230 ⟨Nat.le_of_ble_eq_true rfl, Nat.le_of_ble_eq_true rfl⟩) hS hAc hPr (hnr _) (fun H locs hPc hPr hS => ?_)
  refine lv_aload_n hx hb d_LinkAuditLaw_law_233 rfl (lv_at hl 2 rfl) ?_
  refine lv_aload_n hx hb d_LinkAuditLaw_law_234 rfl (lv_at hl 0 rfl) ?_
  refine lv_iload_n hx hb d_LinkAuditLaw_law_235 rfl (lv_at hl 3 rfl) ?_
  refine lv_iconst (v := 1) hx hb d_LinkAuditLaw_law_236 (by decide) ?_
  refine lv_iadd hx hb d_LinkAuditLaw_law_237 ?_
  refine va_sld hx hb hX hbl hbA hS g1 d_LinkAuditLaw_law_238 ?_
  refine lv_aload_n hx hb d_LinkAuditLaw_law_239 rfl (lv_at hl 0 rfl) ?_
  refine lv_iload_n hx hb d_LinkAuditLaw_law_240 rfl (lv_at hl 3 rfl) ?_
  refine lv_iconst (v := 2) hx hb d_LinkAuditLaw_law_241 (by decide) ?_
  refine lv_iadd hx hb d_LinkAuditLaw_law_242 ?_
  refine va_sld hx hb hX hbl hbA hS g2 d_LinkAuditLaw_law_243 ?_
  refine lv_aload_n hx hb d_LinkAuditLaw_law_244 rfl (lv_at hl 0 rfl) ?_
  refine lv_iload_n hx hb d_LinkAuditLaw_law_245 rfl (lv_at hl 3 rfl) ?_
  refine lv_iconst (v := 3) hx hb d_LinkAuditLaw_law_246 (by decide) ?_
  refine lv_iadd hx hb d_LinkAuditLaw_law_247 ?_
  refine va_sld hx hb hX hbl hbA hS g3 d_LinkAuditLaw_law_248 ?_
  refine lv_aload_n hx hb d_LinkAuditLaw_law_249 rfl (lv_at hl 0 rfl) ?_
  refine lv_iload_n hx hb d_LinkAuditLaw_law_250 rfl (lv_at hl 3 rfl) ?_
  refine lv_iconst (v := 4) hx hb d_LinkAuditLaw_law_251 (by decide) ?_
  refine lv_iadd hx hb d_LinkAuditLaw_law_252 ?_
  refine va_sld hx hb hX hbl hbA hS g4 d_LinkAuditLaw_law_253 ?_
  refine lv_aload_n hx hb d_LinkAuditLaw_law_254 rfl (lv_at hl 0 rfl) ?_
  refine lv_iload_n hx hb d_LinkAuditLaw_law_255 rfl (lv_at hl 3 rfl) ?_
  refine lv_iconst (v := 5) hx hb d_LinkAuditLaw_law_256 (by decide) ?_
  refine lv_iadd hx hb d_LinkAuditLaw_law_257 ?_
  refine va_sld hx hb hX hbl hbA hS g5 d_LinkAuditLaw_law_258 ?_
  refine xl_I (va_runV (As := [.int (xs (x3 + 1).toNatClampNeg), .int (xs (x3 + 2).toNatClampNeg), .int (xs (x3 + 3).toNatClampNeg), .int (xs (x3 + 4).toNatClampNeg), .int (xs (x3 + 5).toNatClampNeg)]) (rest := [.int r]) ⟨hx, hb, hml, hown, hta⟩ (c_LinkAuditModel_define hDr h2) ⟨callB_of 5 hta (good_all (L := .code y_LinkAuditModel_define prog_12_method_7_code 6 (some .int) :: ALLW) (List.forall_mem_cons.mpr ⟨wm_810, fun _ h => h⟩)) rfl rfl rfl (hta _ wm_11) (hta _ wm_807) (by decide +kernel) ⟨Nat.le_of_ble_eq_true rfl, Nat.le_of_ble_eq_true rfl⟩, hta _ wm_808, hta _ wm_809⟩ ⟨x_blind Kk_w _, va_recv hkk.1 hPr (ci := 10) (q0 := 0) rfl r_c0, x_pre Kk_w hkk hPr _⟩ rfl rfl hl.1 rfl (lv_room (Nat.le_of_ble_eq_true rfl)) d_LinkAuditLaw_law_259 ⟨Nat.le_of_ble_eq_true rfl, Nat.le_of_ble_eq_true rfl⟩) hS hAr hPc (hnc _) (fun H locs hPr hPc hS => ?_)
  refine lv_icmp_eq (tgt := 686) hx hb d_LinkAuditLaw_law_262 (by decide) (fun _ => ?_) (fun h => absurd rfl h)
  exact kk Nc Nr hR _ _ ls hPc hPr hS hl
set_option maxHeartbeats 4000000 in
set_option maxRecDepth 100000 in
theorem law_field {p : Program} {l : Launch} {e : Env} {s : State} {m : MethodId} {below : List Frame} {meth : Method} {c : Code} {b L : Nat} {xs : Nat → Int32} {D : va_G} {cI cL cG cZ : ClassId} {adc adr : Nat → Nat} {Rel : Mem → Mem → Prop} (hsim : Sim_field Rel) (hL : L ≤ 3072) (C0 : lw_At p s m meth c b L xs) (hkk : Kk D cI cL cG cZ s) (hDc : ∀ M, va_D (c_A adc) (c_ws cI cL cG cZ adc M)) (hDr : ∀ M, va_D (r_A adr) (r_ws cI cL cG cZ adr M)) (hAc : ∀ q, c_A adc q → s.heap.size ≤ q) (hAr : ∀ q, r_A adr q → s.heap.size ≤ q) (hno : ∀ q, c_A adc q → ¬ r_A adr q) {i : Nat} {x3 : Int32} (ex3 : x3 = nI i) (hi : i + 6 ≤ L) {Mc Mr : Mem} (hrel : Rel Mc Mr) {H : Heap} {locs : List Loc} {ls : Array Slot} (hPc : va_P D vwC (c_ws cI cL cG cZ adc Mc) H) (hPr : va_P D vwC (r_ws cI cL cG cZ adr Mr) H) (hS : va_S (fun q : Nat => s.heap.size ≤ q) s.heap H locs) (hl : lv_has ls 4 [(0, .ref b), (1, .ref (adc 0)), (2, .ref (adr 0)), (3, .int x3)])
    (kk : ∀ (Nc Nr : Mem), Rel Nc Nr → ∀ (H : Heap) (locs : List Loc) (ls : Array Slot), va_P D vwC (c_ws cI cL cG cZ adc Nc) H → va_P D vwC (r_ws cI cL cG cZ adr Nr) H → va_S (fun q : Nat => s.heap.size ≤ q) s.heap H locs → lv_has ls 4 [(0, .ref b), (1, .ref (adc 0)), (2, .ref (adr 0)), (3, .int x3)] → W p l e room_1 s m #[Value.ref b] below meth c H locs 105 3226 (lw_Z below #[Value.ref b] s) (F0 m 686 ls [])) : W p l e room_1 s m #[Value.ref b] below meth c H locs 105 3226 (lw_Z below #[Value.ref b] s) (F0 m 267 ls []) := by
  obtain ⟨hx, hb, hr, hml, hown, hts, hX, hbl, hlocks, hgv⟩ := C0
  have hta : ∀ w ∈ ALLW, w.before #[Value.ref b] s = true := fun w h => hts w (ALLW_tbl h)
  have hbA : ¬ (fun q : Nat => s.heap.size ≤ q) b := Nat.not_le.mpr hbl
  have hnr : ∀ (M : Mem) (k : Nat) (q : Nat × va_E), (r_ws cI cL cG cZ adr M)[k]? = some q → ¬ c_A adc q.1 := fun M k q hq h => hno _ h ((hDr M).2 k q hq)
  have hnc : ∀ (M : Mem) (k : Nat) (q : Nat × va_E), (c_ws cI cL cG cZ adc M)[k]? = some q → ¬ r_A adr q.1 := fun M k q hq h => hno _ ((hDc M).2 k q hq) h
  have g1 : vp_in (x3 + 1) L := by rw [ex3]; exact xl_in (k := 1) (by omega) hL
  have g2 : vp_in (x3 + 2) L := by rw [ex3]; exact xl_in (k := 2) (by omega) hL
  have g3 : vp_in (x3 + 3) L := by rw [ex3]; exact xl_in (k := 3) (by omega) hL
  have g4 : vp_in (x3 + 4) L := by rw [ex3]; exact xl_in (k := 4) (by omega) hL
  obtain ⟨r, Nc, Nr, h1, h2, hR⟩ := hsim Mc Mr hrel (xs (x3 + 1).toNatClampNeg) (xs (x3 + 2).toNatClampNeg) (xs (x3 + 3).toNatClampNeg) (xs (x3 + 4).toNatClampNeg)
  refine lv_aload_n hx hb d_LinkAuditLaw_law_267 rfl (lv_at hl 1 rfl) ?_
  refine lv_aload_n hx hb d_LinkAuditLaw_law_268 rfl (lv_at hl 0 rfl) ?_
  refine lv_iload_n hx hb d_LinkAuditLaw_law_269 rfl (lv_at hl 3 rfl) ?_
  refine lv_iconst (v := 1) hx hb d_LinkAuditLaw_law_270 (by decide) ?_
  refine lv_iadd hx hb d_LinkAuditLaw_law_271 ?_
  refine va_sld hx hb hX hbl hbA hS g1 d_LinkAuditLaw_law_272 ?_
  refine lv_aload_n hx hb d_LinkAuditLaw_law_273 rfl (lv_at hl 0 rfl) ?_
  refine lv_iload_n hx hb d_LinkAuditLaw_law_274 rfl (lv_at hl 3 rfl) ?_
  refine lv_iconst (v := 2) hx hb d_LinkAuditLaw_law_275 (by decide) ?_
  refine lv_iadd hx hb d_LinkAuditLaw_law_276 ?_
  refine va_sld hx hb hX hbl hbA hS g2 d_LinkAuditLaw_law_277 ?_
  refine lv_aload_n hx hb d_LinkAuditLaw_law_278 rfl (lv_at hl 0 rfl) ?_
  refine lv_iload_n hx hb d_LinkAuditLaw_law_279 rfl (lv_at hl 3 rfl) ?_
  refine lv_iconst (v := 3) hx hb d_LinkAuditLaw_law_280 (by decide) ?_
  refine lv_iadd hx hb d_LinkAuditLaw_law_281 ?_
  refine va_sld hx hb hX hbl hbA hS g3 d_LinkAuditLaw_law_282 ?_
  refine lv_aload_n hx hb d_LinkAuditLaw_law_283 rfl (lv_at hl 0 rfl) ?_
  refine lv_iload_n hx hb d_LinkAuditLaw_law_284 rfl (lv_at hl 3 rfl) ?_
  refine lv_iconst (v := 4) hx hb d_LinkAuditLaw_law_285 (by decide) ?_
  refine lv_iadd hx hb d_LinkAuditLaw_law_286 ?_
  refine va_sld hx hb hX hbl hbA hS g4 d_LinkAuditLaw_law_287 ?_
  refine xl_I (va_runV (As := [.int (xs (x3 + 1).toNatClampNeg), .int (xs (x3 + 2).toNatClampNeg), .int (xs (x3 + 3).toNatClampNeg), .int (xs (x3 + 4).toNatClampNeg)]) (rest := []) ⟨hx, hb, hml, hown, hta⟩ (c_LinkAudit_field hDc h1) ⟨callB_of 4 hta (good_all (L := .code y_LinkAudit_field prog_1_method_5_code 5 (some .int) :: ALLW) (List.forall_mem_cons.mpr ⟨wm_370, fun _ h => h⟩)) rfl rfl rfl (hta _ wm_1) (hta _ wm_367) (by decide +kernel) ⟨Nat.le_of_ble_eq_true rfl, Nat.le_of_ble_eq_true rfl⟩, hta _ wm_368, hta _ wm_369⟩ ⟨x_blind Kk_w _, va_recv hkk.1 hPc (ci := 0) (q0 := 0) rfl c_c0, x_pre Kk_w hkk hPc _⟩ rfl rfl hl.1 rfl (lv_room (Nat.le_of_ble_eq_true rfl)) d_LinkAuditLaw_law_288 ⟨Nat.le_of_ble_eq_true rfl, Nat.le_of_ble_eq_true rfl⟩) hS hAc hPr (hnr _) (fun H locs hPc hPr hS => ?_)
  refine lv_aload_n hx hb d_LinkAuditLaw_law_291 rfl (lv_at hl 2 rfl) ?_
  refine lv_aload_n hx hb d_LinkAuditLaw_law_292 rfl (lv_at hl 0 rfl) ?_
  refine lv_iload_n hx hb d_LinkAuditLaw_law_293 rfl (lv_at hl 3 rfl) ?_
  refine lv_iconst (v := 1) hx hb d_LinkAuditLaw_law_294 (by decide) ?_
  refine lv_iadd hx hb d_LinkAuditLaw_law_295 ?_
  refine va_sld hx hb hX hbl hbA hS g1 d_LinkAuditLaw_law_296 ?_
  refine lv_aload_n hx hb d_LinkAuditLaw_law_297 rfl (lv_at hl 0 rfl) ?_
  refine lv_iload_n hx hb d_LinkAuditLaw_law_298 rfl (lv_at hl 3 rfl) ?_
  refine lv_iconst (v := 2) hx hb d_LinkAuditLaw_law_299 (by decide) ?_
  refine lv_iadd hx hb d_LinkAuditLaw_law_300 ?_
  refine va_sld hx hb hX hbl hbA hS g2 d_LinkAuditLaw_law_301 ?_
  refine lv_aload_n hx hb d_LinkAuditLaw_law_302 rfl (lv_at hl 0 rfl) ?_
  refine lv_iload_n hx hb d_LinkAuditLaw_law_303 rfl (lv_at hl 3 rfl) ?_
  refine lv_iconst (v := 3) hx hb d_LinkAuditLaw_law_304 (by decide) ?_
  refine lv_iadd hx hb d_LinkAuditLaw_law_305 ?_
  refine va_sld hx hb hX hbl hbA hS g3 d_LinkAuditLaw_law_306 ?_
  refine lv_aload_n hx hb d_LinkAuditLaw_law_307 rfl (lv_at hl 0 rfl) ?_
  refine lv_iload_n hx hb d_LinkAuditLaw_law_308 rfl (lv_at hl 3 rfl) ?_
  refine lv_iconst (v := 4) hx hb d_LinkAuditLaw_law_309 (by decide) ?_
  refine lv_iadd hx hb d_LinkAuditLaw_law_310 ?_
  refine va_sld hx hb hX hbl hbA hS g4 d_LinkAuditLaw_law_311 ?_
  refine xl_I (va_runV (As := [.int (xs (x3 + 1).toNatClampNeg), .int (xs (x3 + 2).toNatClampNeg), .int (xs (x3 + 3).toNatClampNeg), .int (xs (x3 + 4).toNatClampNeg)]) (rest := [.int r]) ⟨hx, hb, hml, hown, hta⟩ (c_LinkAuditModel_field hDr h2) ⟨callB_of 4 hta (good_all (L := .code y_LinkAuditModel_field prog_12_method_10_code 5 (some .int) :: ALLW) (List.forall_mem_cons.mpr ⟨wm_818, fun _ h => h⟩)) rfl rfl rfl (hta _ wm_11) (hta _ wm_815) (by decide +kernel) ⟨Nat.le_of_ble_eq_true rfl, Nat.le_of_ble_eq_true rfl⟩, hta _ wm_816, hta _ wm_817⟩ ⟨x_blind Kk_w _, va_recv hkk.1 hPr (ci := 10) (q0 := 0) rfl r_c0, x_pre Kk_w hkk hPr _⟩ rfl rfl hl.1 rfl (lv_room (Nat.le_of_ble_eq_true rfl)) d_LinkAuditLaw_law_312 ⟨Nat.le_of_ble_eq_true rfl, Nat.le_of_ble_eq_true rfl⟩) hS hAr hPc (hnc _) (fun H locs hPr hPc hS => ?_)
  refine lv_icmp_eq (tgt := 686) hx hb d_LinkAuditLaw_law_315 (by decide) (fun _ => ?_) (fun h => absurd rfl h)
  exact kk Nc Nr hR _ _ ls hPc hPr hS hl
set_option maxHeartbeats 4000000 in
set_option maxRecDepth 100000 in
theorem law_method {p : Program} {l : Launch} {e : Env} {s : State} {m : MethodId} {below : List Frame} {meth : Method} {c : Code} {b L : Nat} {xs : Nat → Int32} {D : va_G} {cI cL cG cZ : ClassId} {adc adr : Nat → Nat} {Rel : Mem → Mem → Prop} (hsim : Sim_method Rel) (hL : L ≤ 3072) (C0 : lw_At p s m meth c b L xs) (hkk : Kk D cI cL cG cZ s) (hDc : ∀ M, va_D (c_A adc) (c_ws cI cL cG cZ adc M)) (hDr : ∀ M, va_D (r_A adr) (r_ws cI cL cG cZ adr M)) (hAc : ∀ q, c_A adc q → s.heap.size ≤ q) (hAr : ∀ q, r_A adr q → s.heap.size ≤ q) (hno : ∀ q, c_A adc q → ¬ r_A adr q) {i : Nat} {x3 : Int32} (ex3 : x3 = nI i) (hi : i + 6 ≤ L) {Mc Mr : Mem} (hrel : Rel Mc Mr) {H : Heap} {locs : List Loc} {ls : Array Slot} (hPc : va_P D vwC (c_ws cI cL cG cZ adc Mc) H) (hPr : va_P D vwC (r_ws cI cL cG cZ adr Mr) H) (hS : va_S (fun q : Nat => s.heap.size ≤ q) s.heap H locs) (hl : lv_has ls 4 [(0, .ref b), (1, .ref (adc 0)), (2, .ref (adr 0)), (3, .int x3)])
    (kk : ∀ (Nc Nr : Mem), Rel Nc Nr → ∀ (H : Heap) (locs : List Loc) (ls : Array Slot), va_P D vwC (c_ws cI cL cG cZ adc Nc) H → va_P D vwC (r_ws cI cL cG cZ adr Nr) H → va_S (fun q : Nat => s.heap.size ≤ q) s.heap H locs → lv_has ls 4 [(0, .ref b), (1, .ref (adc 0)), (2, .ref (adr 0)), (3, .int x3)] → W p l e room_1 s m #[Value.ref b] below meth c H locs 105 3226 (lw_Z below #[Value.ref b] s) (F0 m 686 ls [])) : W p l e room_1 s m #[Value.ref b] below meth c H locs 105 3226 (lw_Z below #[Value.ref b] s) (F0 m 320 ls []) := by
  obtain ⟨hx, hb, hr, hml, hown, hts, hX, hbl, hlocks, hgv⟩ := C0
  have hta : ∀ w ∈ ALLW, w.before #[Value.ref b] s = true := fun w h => hts w (ALLW_tbl h)
  have hbA : ¬ (fun q : Nat => s.heap.size ≤ q) b := Nat.not_le.mpr hbl
  have hnr : ∀ (M : Mem) (k : Nat) (q : Nat × va_E), (r_ws cI cL cG cZ adr M)[k]? = some q → ¬ c_A adc q.1 := fun M k q hq h => hno _ h ((hDr M).2 k q hq)
  have hnc : ∀ (M : Mem) (k : Nat) (q : Nat × va_E), (c_ws cI cL cG cZ adc M)[k]? = some q → ¬ r_A adr q.1 := fun M k q hq h => hno _ ((hDc M).2 k q hq) h
  have g1 : vp_in (x3 + 1) L := by rw [ex3]; exact xl_in (k := 1) (by omega) hL
  have g2 : vp_in (x3 + 2) L := by rw [ex3]; exact xl_in (k := 2) (by omega) hL
  have g3 : vp_in (x3 + 3) L := by rw [ex3]; exact xl_in (k := 3) (by omega) hL
  have g4 : vp_in (x3 + 4) L := by rw [ex3]; exact xl_in (k := 4) (by omega) hL
  have g5 : vp_in (x3 + 5) L := by rw [ex3]; exact xl_in (k := 5) (by omega) hL
  obtain ⟨r, Nc, Nr, h1, h2, hR⟩ := hsim Mc Mr hrel (xs (x3 + 1).toNatClampNeg) (xs (x3 + 2).toNatClampNeg) (xs (x3 + 3).toNatClampNeg) (xs (x3 + 4).toNatClampNeg) (xs (x3 + 5).toNatClampNeg)
  refine lv_aload_n hx hb d_LinkAuditLaw_law_320 rfl (lv_at hl 1 rfl) ?_
  refine lv_aload_n hx hb d_LinkAuditLaw_law_321 rfl (lv_at hl 0 rfl) ?_
  refine lv_iload_n hx hb d_LinkAuditLaw_law_322 rfl (lv_at hl 3 rfl) ?_
  refine lv_iconst (v := 1) hx hb d_LinkAuditLaw_law_323 (by decide) ?_
  refine lv_iadd hx hb d_LinkAuditLaw_law_324 ?_
  refine va_sld hx hb hX hbl hbA hS g1 d_LinkAuditLaw_law_325 ?_
  refine lv_aload_n hx hb d_LinkAuditLaw_law_326 rfl (lv_at hl 0 rfl) ?_
  refine lv_iload_n hx hb d_LinkAuditLaw_law_327 rfl (lv_at hl 3 rfl) ?_
  refine lv_iconst (v := 2) hx hb d_LinkAuditLaw_law_328 (by decide) ?_
  refine lv_iadd hx hb d_LinkAuditLaw_law_329 ?_
  refine va_sld hx hb hX hbl hbA hS g2 d_LinkAuditLaw_law_330 ?_
  refine lv_aload_n hx hb d_LinkAuditLaw_law_331 rfl (lv_at hl 0 rfl) ?_
  refine lv_iload_n hx hb d_LinkAuditLaw_law_332 rfl (lv_at hl 3 rfl) ?_
  refine lv_iconst (v := 3) hx hb d_LinkAuditLaw_law_333 (by decide) ?_
  refine lv_iadd hx hb d_LinkAuditLaw_law_334 ?_
  refine va_sld hx hb hX hbl hbA hS g3 d_LinkAuditLaw_law_335 ?_
  refine lv_aload_n hx hb d_LinkAuditLaw_law_336 rfl (lv_at hl 0 rfl) ?_
  refine lv_iload_n hx hb d_LinkAuditLaw_law_337 rfl (lv_at hl 3 rfl) ?_
  refine lv_iconst (v := 4) hx hb d_LinkAuditLaw_law_338 (by decide) ?_
  refine lv_iadd hx hb d_LinkAuditLaw_law_339 ?_
  refine va_sld hx hb hX hbl hbA hS g4 d_LinkAuditLaw_law_340 ?_
  refine lv_aload_n hx hb d_LinkAuditLaw_law_341 rfl (lv_at hl 0 rfl) ?_
  refine lv_iload_n hx hb d_LinkAuditLaw_law_342 rfl (lv_at hl 3 rfl) ?_
  refine lv_iconst (v := 5) hx hb d_LinkAuditLaw_law_343 (by decide) ?_
  refine lv_iadd hx hb d_LinkAuditLaw_law_344 ?_
  refine va_sld hx hb hX hbl hbA hS g5 d_LinkAuditLaw_law_345 ?_
  refine xl_I (va_runV (As := [.int (xs (x3 + 1).toNatClampNeg), .int (xs (x3 + 2).toNatClampNeg), .int (xs (x3 + 3).toNatClampNeg), .int (xs (x3 + 4).toNatClampNeg), .int (xs (x3 + 5).toNatClampNeg)]) (rest := []) ⟨hx, hb, hml, hown, hta⟩ (c_LinkAudit_method hDc h1) ⟨callB_of 5 hta (good_all (L := .code y_LinkAudit_method prog_1_method_6_code 7 (some .int) :: ALLW) (List.forall_mem_cons.mpr ⟨wm_405, fun _ h => h⟩)) rfl rfl rfl (hta _ wm_1) (hta _ wm_402) (by decide +kernel) ⟨Nat.le_of_ble_eq_true rfl, Nat.le_of_ble_eq_true rfl⟩, hta _ wm_403, hta _ wm_404⟩ ⟨x_blind Kk_w _, va_recv hkk.1 hPc (ci := 0) (q0 := 0) rfl c_c0, x_pre Kk_w hkk hPc _⟩ rfl rfl hl.1 rfl (lv_room (Nat.le_of_ble_eq_true rfl)) d_LinkAuditLaw_law_346 ⟨Nat.le_of_ble_eq_true rfl, Nat.le_of_ble_eq_true rfl⟩) hS hAc hPr (hnr _) (fun H locs hPc hPr hS => ?_)
  refine lv_aload_n hx hb d_LinkAuditLaw_law_349 rfl (lv_at hl 2 rfl) ?_
  refine lv_aload_n hx hb d_LinkAuditLaw_law_350 rfl (lv_at hl 0 rfl) ?_
  refine lv_iload_n hx hb d_LinkAuditLaw_law_351 rfl (lv_at hl 3 rfl) ?_
  refine lv_iconst (v := 1) hx hb d_LinkAuditLaw_law_352 (by decide) ?_
  refine lv_iadd hx hb d_LinkAuditLaw_law_353 ?_
  refine va_sld hx hb hX hbl hbA hS g1 d_LinkAuditLaw_law_354 ?_
  refine lv_aload_n hx hb d_LinkAuditLaw_law_355 rfl (lv_at hl 0 rfl) ?_
  refine lv_iload_n hx hb d_LinkAuditLaw_law_356 rfl (lv_at hl 3 rfl) ?_
  refine lv_iconst (v := 2) hx hb d_LinkAuditLaw_law_357 (by decide) ?_
  refine lv_iadd hx hb d_LinkAuditLaw_law_358 ?_
  refine va_sld hx hb hX hbl hbA hS g2 d_LinkAuditLaw_law_359 ?_
  refine lv_aload_n hx hb d_LinkAuditLaw_law_360 rfl (lv_at hl 0 rfl) ?_
  refine lv_iload_n hx hb d_LinkAuditLaw_law_361 rfl (lv_at hl 3 rfl) ?_
  refine lv_iconst (v := 3) hx hb d_LinkAuditLaw_law_362 (by decide) ?_
  refine lv_iadd hx hb d_LinkAuditLaw_law_363 ?_
  refine va_sld hx hb hX hbl hbA hS g3 d_LinkAuditLaw_law_364 ?_
  refine lv_aload_n hx hb d_LinkAuditLaw_law_365 rfl (lv_at hl 0 rfl) ?_
  refine lv_iload_n hx hb d_LinkAuditLaw_law_366 rfl (lv_at hl 3 rfl) ?_
  refine lv_iconst (v := 4) hx hb d_LinkAuditLaw_law_367 (by decide) ?_
  refine lv_iadd hx hb d_LinkAuditLaw_law_368 ?_
  refine va_sld hx hb hX hbl hbA hS g4 d_LinkAuditLaw_law_369 ?_
  refine lv_aload_n hx hb d_LinkAuditLaw_law_370 rfl (lv_at hl 0 rfl) ?_
  refine lv_iload_n hx hb d_LinkAuditLaw_law_371 rfl (lv_at hl 3 rfl) ?_
  refine lv_iconst (v := 5) hx hb d_LinkAuditLaw_law_372 (by decide) ?_
  refine lv_iadd hx hb d_LinkAuditLaw_law_373 ?_
  refine va_sld hx hb hX hbl hbA hS g5 d_LinkAuditLaw_law_374 ?_
  refine xl_I (va_runV (As := [.int (xs (x3 + 1).toNatClampNeg), .int (xs (x3 + 2).toNatClampNeg), .int (xs (x3 + 3).toNatClampNeg), .int (xs (x3 + 4).toNatClampNeg), .int (xs (x3 + 5).toNatClampNeg)]) (rest := [.int r]) ⟨hx, hb, hml, hown, hta⟩ (c_LinkAuditModel_method hDr h2) ⟨callB_of 5 hta (good_all (L := .code y_LinkAuditModel_method prog_12_method_11_code 7 (some .int) :: ALLW) (List.forall_mem_cons.mpr ⟨wm_826, fun _ h => h⟩)) rfl rfl rfl (hta _ wm_11) (hta _ wm_823) (by decide +kernel) ⟨Nat.le_of_ble_eq_true rfl, Nat.le_of_ble_eq_true rfl⟩, hta _ wm_824, hta _ wm_825⟩ ⟨x_blind Kk_w _, va_recv hkk.1 hPr (ci := 10) (q0 := 0) rfl r_c0, x_pre Kk_w hkk hPr _⟩ rfl rfl hl.1 rfl (lv_room (Nat.le_of_ble_eq_true rfl)) d_LinkAuditLaw_law_375 ⟨Nat.le_of_ble_eq_true rfl, Nat.le_of_ble_eq_true rfl⟩) hS hAr hPc (hnc _) (fun H locs hPr hPc hS => ?_)
  refine lv_icmp_eq (tgt := 686) hx hb d_LinkAuditLaw_law_378 (by decide) (fun _ => ?_) (fun h => absurd rfl h)
  exact kk Nc Nr hR _ _ ls hPc hPr hS hl
set_option maxHeartbeats 4000000 in
set_option maxRecDepth 100000 in
theorem law_reference {p : Program} {l : Launch} {e : Env} {s : State} {m : MethodId} {below : List Frame} {meth : Method} {c : Code} {b L : Nat} {xs : Nat → Int32} {D : va_G} {cI cL cG cZ : ClassId} {adc adr : Nat → Nat} {Rel : Mem → Mem → Prop} (hsim : Sim_reference Rel) (hL : L ≤ 3072) (C0 : lw_At p s m meth c b L xs) (hkk : Kk D cI cL cG cZ s) (hDc : ∀ M, va_D (c_A adc) (c_ws cI cL cG cZ adc M)) (hDr : ∀ M, va_D (r_A adr) (r_ws cI cL cG cZ adr M)) (hAc : ∀ q, c_A adc q → s.heap.size ≤ q) (hAr : ∀ q, r_A adr q → s.heap.size ≤ q) (hno : ∀ q, c_A adc q → ¬ r_A adr q) {i : Nat} {x3 : Int32} (ex3 : x3 = nI i) (hi : i + 6 ≤ L) {Mc Mr : Mem} (hrel : Rel Mc Mr) {H : Heap} {locs : List Loc} {ls : Array Slot} (hPc : va_P D vwC (c_ws cI cL cG cZ adc Mc) H) (hPr : va_P D vwC (r_ws cI cL cG cZ adr Mr) H) (hS : va_S (fun q : Nat => s.heap.size ≤ q) s.heap H locs) (hl : lv_has ls 4 [(0, .ref b), (1, .ref (adc 0)), (2, .ref (adr 0)), (3, .int x3)])
    (kk : ∀ (Nc Nr : Mem), Rel Nc Nr → ∀ (H : Heap) (locs : List Loc) (ls : Array Slot), va_P D vwC (c_ws cI cL cG cZ adc Nc) H → va_P D vwC (r_ws cI cL cG cZ adr Nr) H → va_S (fun q : Nat => s.heap.size ≤ q) s.heap H locs → lv_has ls 4 [(0, .ref b), (1, .ref (adc 0)), (2, .ref (adr 0)), (3, .int x3)] → W p l e room_1 s m #[Value.ref b] below meth c H locs 105 3226 (lw_Z below #[Value.ref b] s) (F0 m 686 ls [])) : W p l e room_1 s m #[Value.ref b] below meth c H locs 105 3226 (lw_Z below #[Value.ref b] s) (F0 m 383 ls []) := by
  obtain ⟨hx, hb, hr, hml, hown, hts, hX, hbl, hlocks, hgv⟩ := C0
  have hta : ∀ w ∈ ALLW, w.before #[Value.ref b] s = true := fun w h => hts w (ALLW_tbl h)
  have hbA : ¬ (fun q : Nat => s.heap.size ≤ q) b := Nat.not_le.mpr hbl
  have hnr : ∀ (M : Mem) (k : Nat) (q : Nat × va_E), (r_ws cI cL cG cZ adr M)[k]? = some q → ¬ c_A adc q.1 := fun M k q hq h => hno _ h ((hDr M).2 k q hq)
  have hnc : ∀ (M : Mem) (k : Nat) (q : Nat × va_E), (c_ws cI cL cG cZ adc M)[k]? = some q → ¬ r_A adr q.1 := fun M k q hq h => hno _ ((hDc M).2 k q hq) h
  have g1 : vp_in (x3 + 1) L := by rw [ex3]; exact xl_in (k := 1) (by omega) hL
  have g2 : vp_in (x3 + 2) L := by rw [ex3]; exact xl_in (k := 2) (by omega) hL
  have g3 : vp_in (x3 + 3) L := by rw [ex3]; exact xl_in (k := 3) (by omega) hL
  have g4 : vp_in (x3 + 4) L := by rw [ex3]; exact xl_in (k := 4) (by omega) hL
  have g5 : vp_in (x3 + 5) L := by rw [ex3]; exact xl_in (k := 5) (by omega) hL
  obtain ⟨r, Nc, Nr, h1, h2, hR⟩ := hsim Mc Mr hrel (xs (x3 + 1).toNatClampNeg) (xs (x3 + 2).toNatClampNeg) (xs (x3 + 3).toNatClampNeg) (xs (x3 + 4).toNatClampNeg) (xs (x3 + 5).toNatClampNeg)
  refine lv_aload_n hx hb d_LinkAuditLaw_law_383 rfl (lv_at hl 1 rfl) ?_
  refine lv_aload_n hx hb d_LinkAuditLaw_law_384 rfl (lv_at hl 0 rfl) ?_
  refine lv_iload_n hx hb d_LinkAuditLaw_law_385 rfl (lv_at hl 3 rfl) ?_
  refine lv_iconst (v := 1) hx hb d_LinkAuditLaw_law_386 (by decide) ?_
  refine lv_iadd hx hb d_LinkAuditLaw_law_387 ?_
  refine va_sld hx hb hX hbl hbA hS g1 d_LinkAuditLaw_law_388 ?_
  refine lv_aload_n hx hb d_LinkAuditLaw_law_389 rfl (lv_at hl 0 rfl) ?_
  refine lv_iload_n hx hb d_LinkAuditLaw_law_390 rfl (lv_at hl 3 rfl) ?_
  refine lv_iconst (v := 2) hx hb d_LinkAuditLaw_law_391 (by decide) ?_
  refine lv_iadd hx hb d_LinkAuditLaw_law_392 ?_
  refine va_sld hx hb hX hbl hbA hS g2 d_LinkAuditLaw_law_393 ?_
  refine lv_aload_n hx hb d_LinkAuditLaw_law_394 rfl (lv_at hl 0 rfl) ?_
  refine lv_iload_n hx hb d_LinkAuditLaw_law_395 rfl (lv_at hl 3 rfl) ?_
  refine lv_iconst (v := 3) hx hb d_LinkAuditLaw_law_396 (by decide) ?_
  refine lv_iadd hx hb d_LinkAuditLaw_law_397 ?_
  refine va_sld hx hb hX hbl hbA hS g3 d_LinkAuditLaw_law_398 ?_
  refine lv_aload_n hx hb d_LinkAuditLaw_law_399 rfl (lv_at hl 0 rfl) ?_
  refine lv_iload_n hx hb d_LinkAuditLaw_law_400 rfl (lv_at hl 3 rfl) ?_
  refine lv_iconst (v := 4) hx hb d_LinkAuditLaw_law_401 (by decide) ?_
  refine lv_iadd hx hb d_LinkAuditLaw_law_402 ?_
  refine va_sld hx hb hX hbl hbA hS g4 d_LinkAuditLaw_law_403 ?_
  refine lv_aload_n hx hb d_LinkAuditLaw_law_404 rfl (lv_at hl 0 rfl) ?_
  refine lv_iload_n hx hb d_LinkAuditLaw_law_405 rfl (lv_at hl 3 rfl) ?_
  refine lv_iconst (v := 5) hx hb d_LinkAuditLaw_law_406 (by decide) ?_
  refine lv_iadd hx hb d_LinkAuditLaw_law_407 ?_
  refine va_sld hx hb hX hbl hbA hS g5 d_LinkAuditLaw_law_408 ?_
  refine xl_I (va_runV (As := [.int (xs (x3 + 1).toNatClampNeg), .int (xs (x3 + 2).toNatClampNeg), .int (xs (x3 + 3).toNatClampNeg), .int (xs (x3 + 4).toNatClampNeg), .int (xs (x3 + 5).toNatClampNeg)]) (rest := []) ⟨hx, hb, hml, hown, hta⟩ (c_LinkAudit_reference hDc h1) ⟨callB_of 5 hta (good_all (L := .code y_LinkAudit_reference prog_1_method_7_code 6 (some .int) :: ALLW) (List.forall_mem_cons.mpr ⟨wm_416, fun _ h => h⟩)) rfl rfl rfl (hta _ wm_1) (hta _ wm_413) (by decide +kernel) ⟨Nat.le_of_ble_eq_true rfl, Nat.le_of_ble_eq_true rfl⟩, hta _ wm_414, hta _ wm_415⟩ ⟨x_blind Kk_w _, va_recv hkk.1 hPc (ci := 0) (q0 := 0) rfl c_c0, x_pre Kk_w hkk hPc _⟩ rfl rfl hl.1 rfl (lv_room (Nat.le_of_ble_eq_true rfl)) d_LinkAuditLaw_law_409 ⟨Nat.le_of_ble_eq_true rfl, Nat.le_of_ble_eq_true rfl⟩) hS hAc hPr (hnr _) (fun H locs hPc hPr hS => ?_)
  refine lv_aload_n hx hb d_LinkAuditLaw_law_412 rfl (lv_at hl 2 rfl) ?_
  refine lv_aload_n hx hb d_LinkAuditLaw_law_413 rfl (lv_at hl 0 rfl) ?_
  refine lv_iload_n hx hb d_LinkAuditLaw_law_414 rfl (lv_at hl 3 rfl) ?_
  refine lv_iconst (v := 1) hx hb d_LinkAuditLaw_law_415 (by decide) ?_
  refine lv_iadd hx hb d_LinkAuditLaw_law_416 ?_
  refine va_sld hx hb hX hbl hbA hS g1 d_LinkAuditLaw_law_417 ?_
  refine lv_aload_n hx hb d_LinkAuditLaw_law_418 rfl (lv_at hl 0 rfl) ?_
  refine lv_iload_n hx hb d_LinkAuditLaw_law_419 rfl (lv_at hl 3 rfl) ?_
  refine lv_iconst (v := 2) hx hb d_LinkAuditLaw_law_420 (by decide) ?_
  refine lv_iadd hx hb d_LinkAuditLaw_law_421 ?_
  refine va_sld hx hb hX hbl hbA hS g2 d_LinkAuditLaw_law_422 ?_
  refine lv_aload_n hx hb d_LinkAuditLaw_law_423 rfl (lv_at hl 0 rfl) ?_
  refine lv_iload_n hx hb d_LinkAuditLaw_law_424 rfl (lv_at hl 3 rfl) ?_
  refine lv_iconst (v := 3) hx hb d_LinkAuditLaw_law_425 (by decide) ?_
  refine lv_iadd hx hb d_LinkAuditLaw_law_426 ?_
  refine va_sld hx hb hX hbl hbA hS g3 d_LinkAuditLaw_law_427 ?_
  refine lv_aload_n hx hb d_LinkAuditLaw_law_428 rfl (lv_at hl 0 rfl) ?_
  refine lv_iload_n hx hb d_LinkAuditLaw_law_429 rfl (lv_at hl 3 rfl) ?_
  refine lv_iconst (v := 4) hx hb d_LinkAuditLaw_law_430 (by decide) ?_
  refine lv_iadd hx hb d_LinkAuditLaw_law_431 ?_
  refine va_sld hx hb hX hbl hbA hS g4 d_LinkAuditLaw_law_432 ?_
  refine lv_aload_n hx hb d_LinkAuditLaw_law_433 rfl (lv_at hl 0 rfl) ?_
  refine lv_iload_n hx hb d_LinkAuditLaw_law_434 rfl (lv_at hl 3 rfl) ?_
  refine lv_iconst (v := 5) hx hb d_LinkAuditLaw_law_435 (by decide) ?_
  refine lv_iadd hx hb d_LinkAuditLaw_law_436 ?_
  refine va_sld hx hb hX hbl hbA hS g5 d_LinkAuditLaw_law_437 ?_
  refine xl_I (va_runV (As := [.int (xs (x3 + 1).toNatClampNeg), .int (xs (x3 + 2).toNatClampNeg), .int (xs (x3 + 3).toNatClampNeg), .int (xs (x3 + 4).toNatClampNeg), .int (xs (x3 + 5).toNatClampNeg)]) (rest := [.int r]) ⟨hx, hb, hml, hown, hta⟩ (c_LinkAuditModel_reference hDr h2) ⟨callB_of 5 hta (good_all (L := .code y_LinkAuditModel_reference prog_12_method_12_code 7 (some .int) :: ALLW) (List.forall_mem_cons.mpr ⟨wm_834, fun _ h => h⟩)) rfl rfl rfl (hta _ wm_11) (hta _ wm_831) (by decide +kernel) ⟨Nat.le_of_ble_eq_true rfl, Nat.le_of_ble_eq_true rfl⟩, hta _ wm_832, hta _ wm_833⟩ ⟨x_blind Kk_w _, va_recv hkk.1 hPr (ci := 10) (q0 := 0) rfl r_c0, x_pre Kk_w hkk hPr _⟩ rfl rfl hl.1 rfl (lv_room (Nat.le_of_ble_eq_true rfl)) d_LinkAuditLaw_law_438 ⟨Nat.le_of_ble_eq_true rfl, Nat.le_of_ble_eq_true rfl⟩) hS hAr hPc (hnc _) (fun H locs hPr hPc hS => ?_)
  refine lv_icmp_eq (tgt := 686) hx hb d_LinkAuditLaw_law_441 (by decide) (fun _ => ?_) (fun h => absurd rfl h)
  exact kk Nc Nr hR _ _ ls hPc hPr hS hl
set_option maxHeartbeats 4000000 in
set_option maxRecDepth 100000 in
theorem law_find {p : Program} {l : Launch} {e : Env} {s : State} {m : MethodId} {below : List Frame} {meth : Method} {c : Code} {b L : Nat} {xs : Nat → Int32} {D : va_G} {cI cL cG cZ : ClassId} {adc adr : Nat → Nat} {Rel : Mem → Mem → Prop} (hsim : Sim_find Rel) (hL : L ≤ 3072) (C0 : lw_At p s m meth c b L xs) (hkk : Kk D cI cL cG cZ s) (hDc : ∀ M, va_D (c_A adc) (c_ws cI cL cG cZ adc M)) (hDr : ∀ M, va_D (r_A adr) (r_ws cI cL cG cZ adr M)) (hAc : ∀ q, c_A adc q → s.heap.size ≤ q) (hAr : ∀ q, r_A adr q → s.heap.size ≤ q) (hno : ∀ q, c_A adc q → ¬ r_A adr q) {i : Nat} {x3 : Int32} (ex3 : x3 = nI i) (hi : i + 6 ≤ L) {Mc Mr : Mem} (hrel : Rel Mc Mr) {H : Heap} {locs : List Loc} {ls : Array Slot} (hPc : va_P D vwC (c_ws cI cL cG cZ adc Mc) H) (hPr : va_P D vwC (r_ws cI cL cG cZ adr Mr) H) (hS : va_S (fun q : Nat => s.heap.size ≤ q) s.heap H locs) (hl : lv_has ls 4 [(0, .ref b), (1, .ref (adc 0)), (2, .ref (adr 0)), (3, .int x3)])
    (kk : ∀ (Nc Nr : Mem), Rel Nc Nr → ∀ (H : Heap) (locs : List Loc) (ls : Array Slot), va_P D vwC (c_ws cI cL cG cZ adc Nc) H → va_P D vwC (r_ws cI cL cG cZ adr Nr) H → va_S (fun q : Nat => s.heap.size ≤ q) s.heap H locs → lv_has ls 4 [(0, .ref b), (1, .ref (adc 0)), (2, .ref (adr 0)), (3, .int x3)] → W p l e room_1 s m #[Value.ref b] below meth c H locs 105 3226 (lw_Z below #[Value.ref b] s) (F0 m 686 ls [])) : W p l e room_1 s m #[Value.ref b] below meth c H locs 105 3226 (lw_Z below #[Value.ref b] s) (F0 m 446 ls []) := by
  obtain ⟨hx, hb, hr, hml, hown, hts, hX, hbl, hlocks, hgv⟩ := C0
  have hta : ∀ w ∈ ALLW, w.before #[Value.ref b] s = true := fun w h => hts w (ALLW_tbl h)
  have hbA : ¬ (fun q : Nat => s.heap.size ≤ q) b := Nat.not_le.mpr hbl
  have hnr : ∀ (M : Mem) (k : Nat) (q : Nat × va_E), (r_ws cI cL cG cZ adr M)[k]? = some q → ¬ c_A adc q.1 := fun M k q hq h => hno _ h ((hDr M).2 k q hq)
  have hnc : ∀ (M : Mem) (k : Nat) (q : Nat × va_E), (c_ws cI cL cG cZ adc M)[k]? = some q → ¬ r_A adr q.1 := fun M k q hq h => hno _ ((hDc M).2 k q hq) h
  have g1 : vp_in (x3 + 1) L := by rw [ex3]; exact xl_in (k := 1) (by omega) hL
  have g2 : vp_in (x3 + 2) L := by rw [ex3]; exact xl_in (k := 2) (by omega) hL
  obtain ⟨r, h1, h2⟩ := hsim Mc Mr hrel (xs (x3 + 1).toNatClampNeg) (xs (x3 + 2).toNatClampNeg)
  have hR := hrel
  refine lv_aload_n hx hb d_LinkAuditLaw_law_446 rfl (lv_at hl 1 rfl) ?_
  refine lv_aload_n hx hb d_LinkAuditLaw_law_447 rfl (lv_at hl 0 rfl) ?_
  refine lv_iload_n hx hb d_LinkAuditLaw_law_448 rfl (lv_at hl 3 rfl) ?_
  refine lv_iconst (v := 1) hx hb d_LinkAuditLaw_law_449 (by decide) ?_
  refine lv_iadd hx hb d_LinkAuditLaw_law_450 ?_
  refine va_sld hx hb hX hbl hbA hS g1 d_LinkAuditLaw_law_451 ?_
  refine lv_aload_n hx hb d_LinkAuditLaw_law_452 rfl (lv_at hl 0 rfl) ?_
  refine lv_iload_n hx hb d_LinkAuditLaw_law_453 rfl (lv_at hl 3 rfl) ?_
  refine lv_iconst (v := 2) hx hb d_LinkAuditLaw_law_454 (by decide) ?_
  refine lv_iadd hx hb d_LinkAuditLaw_law_455 ?_
  refine va_sld hx hb hX hbl hbA hS g2 d_LinkAuditLaw_law_456 ?_
  refine xl_I (va_runV (As := [.int (xs (x3 + 1).toNatClampNeg), .int (xs (x3 + 2).toNatClampNeg)]) (rest := []) ⟨hx, hb, hml, hown, hta⟩ (c_LinkAudit_find hDc h1) ⟨callB_of 2 hta (good_all (L := .code y_LinkAudit_find prog_1_method_8_code 4 (some .int) :: ALLW) (List.forall_mem_cons.mpr ⟨wm_426, fun _ h => h⟩)) rfl rfl rfl (hta _ wm_1) (hta _ wm_423) (by decide +kernel) ⟨Nat.le_of_ble_eq_true rfl, Nat.le_of_ble_eq_true rfl⟩, hta _ wm_424, hta _ wm_425⟩ ⟨x_blind Kk_w _, va_recv hkk.1 hPc (ci := 0) (q0 := 0) rfl c_c0, x_pre Kk_w hkk hPc _⟩ rfl rfl hl.1 rfl (lv_room (Nat.le_of_ble_eq_true rfl)) d_LinkAuditLaw_law_457 ⟨Nat.le_of_ble_eq_true rfl, Nat.le_of_ble_eq_true rfl⟩) hS hAc hPr (hnr _) (fun H locs hPc hPr hS => ?_)
  refine lv_aload_n hx hb d_LinkAuditLaw_law_460 rfl (lv_at hl 2 rfl) ?_
  refine lv_aload_n hx hb d_LinkAuditLaw_law_461 rfl (lv_at hl 0 rfl) ?_
  refine lv_iload_n hx hb d_LinkAuditLaw_law_462 rfl (lv_at hl 3 rfl) ?_
  refine lv_iconst (v := 1) hx hb d_LinkAuditLaw_law_463 (by decide) ?_
  refine lv_iadd hx hb d_LinkAuditLaw_law_464 ?_
  refine va_sld hx hb hX hbl hbA hS g1 d_LinkAuditLaw_law_465 ?_
  refine lv_aload_n hx hb d_LinkAuditLaw_law_466 rfl (lv_at hl 0 rfl) ?_
  refine lv_iload_n hx hb d_LinkAuditLaw_law_467 rfl (lv_at hl 3 rfl) ?_
  refine lv_iconst (v := 2) hx hb d_LinkAuditLaw_law_468 (by decide) ?_
  refine lv_iadd hx hb d_LinkAuditLaw_law_469 ?_
  refine va_sld hx hb hX hbl hbA hS g2 d_LinkAuditLaw_law_470 ?_
  refine xl_I (va_runV (As := [.int (xs (x3 + 1).toNatClampNeg), .int (xs (x3 + 2).toNatClampNeg)]) (rest := [.int r]) ⟨hx, hb, hml, hown, hta⟩ (c_LinkAuditModel_find hDr h2) ⟨callB_of 2 hta (good_all (L := .code y_LinkAuditModel_find prog_12_method_42_code 4 (some .int) :: ALLW) (List.forall_mem_cons.mpr ⟨wm_838, fun _ h => h⟩)) rfl rfl rfl (hta _ wm_11) (hta _ wm_835) (by decide +kernel) ⟨Nat.le_of_ble_eq_true rfl, Nat.le_of_ble_eq_true rfl⟩, hta _ wm_836, hta _ wm_837⟩ ⟨x_blind Kk_w _, va_recv hkk.1 hPr (ci := 10) (q0 := 0) rfl r_c0, x_pre Kk_w hkk hPr _⟩ rfl rfl hl.1 rfl (lv_room (Nat.le_of_ble_eq_true rfl)) d_LinkAuditLaw_law_471 ⟨Nat.le_of_ble_eq_true rfl, Nat.le_of_ble_eq_true rfl⟩) hS hAr hPc (hnc _) (fun H locs hPr hPc hS => ?_)
  refine lv_icmp_eq (tgt := 686) hx hb d_LinkAuditLaw_law_474 (by decide) (fun _ => ?_) (fun h => absurd rfl h)
  exact kk Mc Mr hR _ _ ls hPc hPr hS hl
set_option maxHeartbeats 4000000 in
set_option maxRecDepth 100000 in
theorem law_load {p : Program} {l : Launch} {e : Env} {s : State} {m : MethodId} {below : List Frame} {meth : Method} {c : Code} {b L : Nat} {xs : Nat → Int32} {D : va_G} {cI cL cG cZ : ClassId} {adc adr : Nat → Nat} {Rel : Mem → Mem → Prop} (hsim : Sim_load Rel) (hL : L ≤ 3072) (C0 : lw_At p s m meth c b L xs) (hkk : Kk D cI cL cG cZ s) (hDc : ∀ M, va_D (c_A adc) (c_ws cI cL cG cZ adc M)) (hDr : ∀ M, va_D (r_A adr) (r_ws cI cL cG cZ adr M)) (hAc : ∀ q, c_A adc q → s.heap.size ≤ q) (hAr : ∀ q, r_A adr q → s.heap.size ≤ q) (hno : ∀ q, c_A adc q → ¬ r_A adr q) {i : Nat} {x3 : Int32} (ex3 : x3 = nI i) (hi : i + 6 ≤ L) {Mc Mr : Mem} (hrel : Rel Mc Mr) {H : Heap} {locs : List Loc} {ls : Array Slot} (hPc : va_P D vwC (c_ws cI cL cG cZ adc Mc) H) (hPr : va_P D vwC (r_ws cI cL cG cZ adr Mr) H) (hS : va_S (fun q : Nat => s.heap.size ≤ q) s.heap H locs) (hl : lv_has ls 4 [(0, .ref b), (1, .ref (adc 0)), (2, .ref (adr 0)), (3, .int x3)])
    (kk : ∀ (Nc Nr : Mem), Rel Nc Nr → ∀ (H : Heap) (locs : List Loc) (ls : Array Slot), va_P D vwC (c_ws cI cL cG cZ adc Nc) H → va_P D vwC (r_ws cI cL cG cZ adr Nr) H → va_S (fun q : Nat => s.heap.size ≤ q) s.heap H locs → lv_has ls 4 [(0, .ref b), (1, .ref (adc 0)), (2, .ref (adr 0)), (3, .int x3)] → W p l e room_1 s m #[Value.ref b] below meth c H locs 105 3226 (lw_Z below #[Value.ref b] s) (F0 m 686 ls [])) : W p l e room_1 s m #[Value.ref b] below meth c H locs 105 3226 (lw_Z below #[Value.ref b] s) (F0 m 479 ls []) := by
  obtain ⟨hx, hb, hr, hml, hown, hts, hX, hbl, hlocks, hgv⟩ := C0
  have hta : ∀ w ∈ ALLW, w.before #[Value.ref b] s = true := fun w h => hts w (ALLW_tbl h)
  have hbA : ¬ (fun q : Nat => s.heap.size ≤ q) b := Nat.not_le.mpr hbl
  have hnr : ∀ (M : Mem) (k : Nat) (q : Nat × va_E), (r_ws cI cL cG cZ adr M)[k]? = some q → ¬ c_A adc q.1 := fun M k q hq h => hno _ h ((hDr M).2 k q hq)
  have hnc : ∀ (M : Mem) (k : Nat) (q : Nat × va_E), (c_ws cI cL cG cZ adc M)[k]? = some q → ¬ r_A adr q.1 := fun M k q hq h => hno _ ((hDc M).2 k q hq) h
  have g1 : vp_in (x3 + 1) L := by rw [ex3]; exact xl_in (k := 1) (by omega) hL
  obtain ⟨r, Nc, Nr, h1, h2, hR⟩ := hsim Mc Mr hrel (xs (x3 + 1).toNatClampNeg)
  refine lv_aload_n hx hb d_LinkAuditLaw_law_479 rfl (lv_at hl 1 rfl) ?_
  refine lv_aload_n hx hb d_LinkAuditLaw_law_480 rfl (lv_at hl 0 rfl) ?_
  refine lv_iload_n hx hb d_LinkAuditLaw_law_481 rfl (lv_at hl 3 rfl) ?_
  refine lv_iconst (v := 1) hx hb d_LinkAuditLaw_law_482 (by decide) ?_
  refine lv_iadd hx hb d_LinkAuditLaw_law_483 ?_
  refine va_sld hx hb hX hbl hbA hS g1 d_LinkAuditLaw_law_484 ?_
  refine xl_I (va_runV (As := [.int (xs (x3 + 1).toNatClampNeg)]) (rest := []) ⟨hx, hb, hml, hown, hta⟩ (c_LinkAudit_load hDc h1) ⟨callB_of 1 hta (good_all (L := .code y_LinkAudit_load prog_1_method_9_code 2 (some .int) :: ALLW) (List.forall_mem_cons.mpr ⟨wm_437, fun _ h => h⟩)) rfl rfl rfl (hta _ wm_1) (hta _ wm_434) (by decide +kernel) ⟨Nat.le_of_ble_eq_true rfl, Nat.le_of_ble_eq_true rfl⟩, hta _ wm_435, hta _ wm_436⟩ ⟨x_blind Kk_w _, va_recv hkk.1 hPc (ci := 0) (q0 := 0) rfl c_c0, x_pre Kk_w hkk hPc _⟩ rfl rfl hl.1 rfl (lv_room (Nat.le_of_ble_eq_true rfl)) d_LinkAuditLaw_law_485 ⟨Nat.le_of_ble_eq_true rfl, Nat.le_of_ble_eq_true rfl⟩) hS hAc hPr (hnr _) (fun H locs hPc hPr hS => ?_)
  refine lv_aload_n hx hb d_LinkAuditLaw_law_488 rfl (lv_at hl 2 rfl) ?_
  refine lv_aload_n hx hb d_LinkAuditLaw_law_489 rfl (lv_at hl 0 rfl) ?_
  refine lv_iload_n hx hb d_LinkAuditLaw_law_490 rfl (lv_at hl 3 rfl) ?_
  refine lv_iconst (v := 1) hx hb d_LinkAuditLaw_law_491 (by decide) ?_
  refine lv_iadd hx hb d_LinkAuditLaw_law_492 ?_
  refine va_sld hx hb hX hbl hbA hS g1 d_LinkAuditLaw_law_493 ?_
  refine xl_I (va_runV (As := [.int (xs (x3 + 1).toNatClampNeg)]) (rest := [.int r]) ⟨hx, hb, hml, hown, hta⟩ (c_LinkAuditModel_load hDr h2) ⟨callB_of 1 hta (good_all (L := .code y_LinkAuditModel_load prog_12_method_43_code 3 (some .int) :: ALLW) (List.forall_mem_cons.mpr ⟨wm_846, fun _ h => h⟩)) rfl rfl rfl (hta _ wm_11) (hta _ wm_843) (by decide +kernel) ⟨Nat.le_of_ble_eq_true rfl, Nat.le_of_ble_eq_true rfl⟩, hta _ wm_844, hta _ wm_845⟩ ⟨x_blind Kk_w _, va_recv hkk.1 hPr (ci := 10) (q0 := 0) rfl r_c0, x_pre Kk_w hkk hPr _⟩ rfl rfl hl.1 rfl (lv_room (Nat.le_of_ble_eq_true rfl)) d_LinkAuditLaw_law_494 ⟨Nat.le_of_ble_eq_true rfl, Nat.le_of_ble_eq_true rfl⟩) hS hAr hPc (hnc _) (fun H locs hPr hPc hS => ?_)
  refine lv_icmp_eq (tgt := 686) hx hb d_LinkAuditLaw_law_497 (by decide) (fun _ => ?_) (fun h => absurd rfl h)
  exact kk Nc Nr hR _ _ ls hPc hPr hS hl
set_option maxHeartbeats 4000000 in
set_option maxRecDepth 100000 in
theorem law_verdict {p : Program} {l : Launch} {e : Env} {s : State} {m : MethodId} {below : List Frame} {meth : Method} {c : Code} {b L : Nat} {xs : Nat → Int32} {D : va_G} {cI cL cG cZ : ClassId} {adc adr : Nat → Nat} {Rel : Mem → Mem → Prop} (hsim : Sim_verdict Rel) (hL : L ≤ 3072) (C0 : lw_At p s m meth c b L xs) (hkk : Kk D cI cL cG cZ s) (hDc : ∀ M, va_D (c_A adc) (c_ws cI cL cG cZ adc M)) (hDr : ∀ M, va_D (r_A adr) (r_ws cI cL cG cZ adr M)) (hAc : ∀ q, c_A adc q → s.heap.size ≤ q) (hAr : ∀ q, r_A adr q → s.heap.size ≤ q) (hno : ∀ q, c_A adc q → ¬ r_A adr q) {i : Nat} {x3 : Int32} (ex3 : x3 = nI i) (hi : i + 6 ≤ L) {Mc Mr : Mem} (hrel : Rel Mc Mr) {H : Heap} {locs : List Loc} {ls : Array Slot} (hPc : va_P D vwC (c_ws cI cL cG cZ adc Mc) H) (hPr : va_P D vwC (r_ws cI cL cG cZ adr Mr) H) (hS : va_S (fun q : Nat => s.heap.size ≤ q) s.heap H locs) (hl : lv_has ls 4 [(0, .ref b), (1, .ref (adc 0)), (2, .ref (adr 0)), (3, .int x3)])
    (kk : ∀ (Nc Nr : Mem), Rel Nc Nr → ∀ (H : Heap) (locs : List Loc) (ls : Array Slot), va_P D vwC (c_ws cI cL cG cZ adc Nc) H → va_P D vwC (r_ws cI cL cG cZ adr Nr) H → va_S (fun q : Nat => s.heap.size ≤ q) s.heap H locs → lv_has ls 4 [(0, .ref b), (1, .ref (adc 0)), (2, .ref (adr 0)), (3, .int x3)] → W p l e room_1 s m #[Value.ref b] below meth c H locs 105 3226 (lw_Z below #[Value.ref b] s) (F0 m 686 ls [])) : W p l e room_1 s m #[Value.ref b] below meth c H locs 105 3226 (lw_Z below #[Value.ref b] s) (F0 m 502 ls []) := by
  obtain ⟨hx, hb, hr, hml, hown, hts, hX, hbl, hlocks, hgv⟩ := C0
  have hta : ∀ w ∈ ALLW, w.before #[Value.ref b] s = true := fun w h => hts w (ALLW_tbl h)
  have hbA : ¬ (fun q : Nat => s.heap.size ≤ q) b := Nat.not_le.mpr hbl
  have hnr : ∀ (M : Mem) (k : Nat) (q : Nat × va_E), (r_ws cI cL cG cZ adr M)[k]? = some q → ¬ c_A adc q.1 := fun M k q hq h => hno _ h ((hDr M).2 k q hq)
  have hnc : ∀ (M : Mem) (k : Nat) (q : Nat × va_E), (c_ws cI cL cG cZ adc M)[k]? = some q → ¬ r_A adr q.1 := fun M k q hq h => hno _ ((hDc M).2 k q hq) h
  have g1 : vp_in (x3 + 1) L := by rw [ex3]; exact xl_in (k := 1) (by omega) hL
  obtain ⟨r, Nc, Nr, h1, h2, hR⟩ := hsim Mc Mr hrel (xs (x3 + 1).toNatClampNeg)
  refine lv_aload_n hx hb d_LinkAuditLaw_law_502 rfl (lv_at hl 1 rfl) ?_
  refine lv_aload_n hx hb d_LinkAuditLaw_law_503 rfl (lv_at hl 0 rfl) ?_
  refine lv_iload_n hx hb d_LinkAuditLaw_law_504 rfl (lv_at hl 3 rfl) ?_
  refine lv_iconst (v := 1) hx hb d_LinkAuditLaw_law_505 (by decide) ?_
  refine lv_iadd hx hb d_LinkAuditLaw_law_506 ?_
  refine va_sld hx hb hX hbl hbA hS g1 d_LinkAuditLaw_law_507 ?_
  refine xl_I (va_runV (As := [.int (xs (x3 + 1).toNatClampNeg)]) (rest := []) ⟨hx, hb, hml, hown, hta⟩ (c_LinkAudit_verdict hDc h1) ⟨callB_of 1 hta (good_all (L := .code y_LinkAudit_verdict prog_1_method_10_code 2 (some .int) :: ALLW) (List.forall_mem_cons.mpr ⟨wm_519, fun _ h => h⟩)) rfl rfl rfl (hta _ wm_1) (hta _ wm_516) (by decide +kernel) ⟨Nat.le_of_ble_eq_true rfl, Nat.le_of_ble_eq_true rfl⟩, hta _ wm_517, hta _ wm_518⟩ ⟨x_blind Kk_w _, va_recv hkk.1 hPc (ci := 0) (q0 := 0) rfl c_c0, x_pre Kk_w hkk hPc _⟩ rfl rfl hl.1 rfl (lv_room (Nat.le_of_ble_eq_true rfl)) d_LinkAuditLaw_law_508 ⟨Nat.le_of_ble_eq_true rfl, Nat.le_of_ble_eq_true rfl⟩) hS hAc hPr (hnr _) (fun H locs hPc hPr hS => ?_)
  refine lv_aload_n hx hb d_LinkAuditLaw_law_511 rfl (lv_at hl 2 rfl) ?_
  refine lv_aload_n hx hb d_LinkAuditLaw_law_512 rfl (lv_at hl 0 rfl) ?_
  refine lv_iload_n hx hb d_LinkAuditLaw_law_513 rfl (lv_at hl 3 rfl) ?_
  refine lv_iconst (v := 1) hx hb d_LinkAuditLaw_law_514 (by decide) ?_
  refine lv_iadd hx hb d_LinkAuditLaw_law_515 ?_
  refine va_sld hx hb hX hbl hbA hS g1 d_LinkAuditLaw_law_516 ?_
  refine xl_I (va_runV (As := [.int (xs (x3 + 1).toNatClampNeg)]) (rest := [.int r]) ⟨hx, hb, hml, hown, hta⟩ (c_LinkAuditModel_verdict hDr h2) ⟨callB_of 1 hta (good_all (L := .code y_LinkAuditModel_verdict prog_12_method_44_code 2 (some .int) :: ALLW) (List.forall_mem_cons.mpr ⟨wm_870, fun _ h => h⟩)) rfl rfl rfl (hta _ wm_11) (hta _ wm_867) (by decide +kernel) ⟨Nat.le_of_ble_eq_true rfl, Nat.le_of_ble_eq_true rfl⟩, hta _ wm_868, hta _ wm_869⟩ ⟨x_blind Kk_w _, va_recv hkk.1 hPr (ci := 10) (q0 := 0) rfl r_c0, x_pre Kk_w hkk hPr _⟩ rfl rfl hl.1 rfl (lv_room (Nat.le_of_ble_eq_true rfl)) d_LinkAuditLaw_law_517 ⟨Nat.le_of_ble_eq_true rfl, Nat.le_of_ble_eq_true rfl⟩) hS hAr hPc (hnc _) (fun H locs hPr hPc hS => ?_)
  refine lv_icmp_eq (tgt := 686) hx hb d_LinkAuditLaw_law_520 (by decide) (fun _ => ?_) (fun h => absurd rfl h)
  exact kk Nc Nr hR _ _ ls hPc hPr hS hl
set_option maxHeartbeats 4000000 in
set_option maxRecDepth 100000 in
theorem law_select {p : Program} {l : Launch} {e : Env} {s : State} {m : MethodId} {below : List Frame} {meth : Method} {c : Code} {b L : Nat} {xs : Nat → Int32} {D : va_G} {cI cL cG cZ : ClassId} {adc adr : Nat → Nat} {Rel : Mem → Mem → Prop} (hsim : Sim_select Rel) (hL : L ≤ 3072) (C0 : lw_At p s m meth c b L xs) (hkk : Kk D cI cL cG cZ s) (hDc : ∀ M, va_D (c_A adc) (c_ws cI cL cG cZ adc M)) (hDr : ∀ M, va_D (r_A adr) (r_ws cI cL cG cZ adr M)) (hAc : ∀ q, c_A adc q → s.heap.size ≤ q) (hAr : ∀ q, r_A adr q → s.heap.size ≤ q) (hno : ∀ q, c_A adc q → ¬ r_A adr q) {i : Nat} {x3 : Int32} (ex3 : x3 = nI i) (hi : i + 6 ≤ L) {Mc Mr : Mem} (hrel : Rel Mc Mr) {H : Heap} {locs : List Loc} {ls : Array Slot} (hPc : va_P D vwC (c_ws cI cL cG cZ adc Mc) H) (hPr : va_P D vwC (r_ws cI cL cG cZ adr Mr) H) (hS : va_S (fun q : Nat => s.heap.size ≤ q) s.heap H locs) (hl : lv_has ls 4 [(0, .ref b), (1, .ref (adc 0)), (2, .ref (adr 0)), (3, .int x3)])
    (kk : ∀ (Nc Nr : Mem), Rel Nc Nr → ∀ (H : Heap) (locs : List Loc) (ls : Array Slot), va_P D vwC (c_ws cI cL cG cZ adc Nc) H → va_P D vwC (r_ws cI cL cG cZ adr Nr) H → va_S (fun q : Nat => s.heap.size ≤ q) s.heap H locs → lv_has ls 4 [(0, .ref b), (1, .ref (adc 0)), (2, .ref (adr 0)), (3, .int x3)] → W p l e room_1 s m #[Value.ref b] below meth c H locs 105 3226 (lw_Z below #[Value.ref b] s) (F0 m 686 ls [])) : W p l e room_1 s m #[Value.ref b] below meth c H locs 105 3226 (lw_Z below #[Value.ref b] s) (F0 m 525 ls []) := by
  obtain ⟨hx, hb, hr, hml, hown, hts, hX, hbl, hlocks, hgv⟩ := C0
  have hta : ∀ w ∈ ALLW, w.before #[Value.ref b] s = true := fun w h => hts w (ALLW_tbl h)
  have hbA : ¬ (fun q : Nat => s.heap.size ≤ q) b := Nat.not_le.mpr hbl
  have hnr : ∀ (M : Mem) (k : Nat) (q : Nat × va_E), (r_ws cI cL cG cZ adr M)[k]? = some q → ¬ c_A adc q.1 := fun M k q hq h => hno _ h ((hDr M).2 k q hq)
  have hnc : ∀ (M : Mem) (k : Nat) (q : Nat × va_E), (c_ws cI cL cG cZ adc M)[k]? = some q → ¬ r_A adr q.1 := fun M k q hq h => hno _ ((hDc M).2 k q hq) h
  have g1 : vp_in (x3 + 1) L := by rw [ex3]; exact xl_in (k := 1) (by omega) hL
  have g2 : vp_in (x3 + 2) L := by rw [ex3]; exact xl_in (k := 2) (by omega) hL
  obtain ⟨r, Nc, Nr, h1, h2, hR⟩ := hsim Mc Mr hrel (xs (x3 + 1).toNatClampNeg) (xs (x3 + 2).toNatClampNeg)
  refine lv_aload_n hx hb d_LinkAuditLaw_law_525 rfl (lv_at hl 1 rfl) ?_
  refine lv_aload_n hx hb d_LinkAuditLaw_law_526 rfl (lv_at hl 0 rfl) ?_
  refine lv_iload_n hx hb d_LinkAuditLaw_law_527 rfl (lv_at hl 3 rfl) ?_
  refine lv_iconst (v := 1) hx hb d_LinkAuditLaw_law_528 (by decide) ?_
  refine lv_iadd hx hb d_LinkAuditLaw_law_529 ?_
  refine va_sld hx hb hX hbl hbA hS g1 d_LinkAuditLaw_law_530 ?_
  refine lv_aload_n hx hb d_LinkAuditLaw_law_531 rfl (lv_at hl 0 rfl) ?_
  refine lv_iload_n hx hb d_LinkAuditLaw_law_532 rfl (lv_at hl 3 rfl) ?_
  refine lv_iconst (v := 2) hx hb d_LinkAuditLaw_law_533 (by decide) ?_
  refine lv_iadd hx hb d_LinkAuditLaw_law_534 ?_
  refine va_sld hx hb hX hbl hbA hS g2 d_LinkAuditLaw_law_535 ?_
  refine xl_I (va_runV (As := [.int (xs (x3 + 1).toNatClampNeg), .int (xs (x3 + 2).toNatClampNeg)]) (rest := []) ⟨hx, hb, hml, hown, hta⟩ (c_LinkAudit_select hDc h1) ⟨callB_of 2 hta (good_all (L := .code y_LinkAudit_select prog_1_method_11_code 3 (some .int) :: ALLW) (List.forall_mem_cons.mpr ⟨wm_587, fun _ h => h⟩)) rfl rfl rfl (hta _ wm_1) (hta _ wm_584) (by decide +kernel) ⟨Nat.le_of_ble_eq_true rfl, Nat.le_of_ble_eq_true rfl⟩, hta _ wm_585, hta _ wm_586⟩ ⟨x_blind Kk_w _, va_recv hkk.1 hPc (ci := 0) (q0 := 0) rfl c_c0, x_pre Kk_w hkk hPc _⟩ rfl rfl hl.1 rfl (lv_room (Nat.le_of_ble_eq_true rfl)) d_LinkAuditLaw_law_536 ⟨Nat.le_of_ble_eq_true rfl, Nat.le_of_ble_eq_true rfl⟩) hS hAc hPr (hnr _) (fun H locs hPc hPr hS => ?_)
  refine lv_aload_n hx hb d_LinkAuditLaw_law_539 rfl (lv_at hl 2 rfl) ?_
  refine lv_aload_n hx hb d_LinkAuditLaw_law_540 rfl (lv_at hl 0 rfl) ?_
  refine lv_iload_n hx hb d_LinkAuditLaw_law_541 rfl (lv_at hl 3 rfl) ?_
  refine lv_iconst (v := 1) hx hb d_LinkAuditLaw_law_542 (by decide) ?_
  refine lv_iadd hx hb d_LinkAuditLaw_law_543 ?_
  refine va_sld hx hb hX hbl hbA hS g1 d_LinkAuditLaw_law_544 ?_
  refine lv_aload_n hx hb d_LinkAuditLaw_law_545 rfl (lv_at hl 0 rfl) ?_
  refine lv_iload_n hx hb d_LinkAuditLaw_law_546 rfl (lv_at hl 3 rfl) ?_
  refine lv_iconst (v := 2) hx hb d_LinkAuditLaw_law_547 (by decide) ?_
  refine lv_iadd hx hb d_LinkAuditLaw_law_548 ?_
  refine va_sld hx hb hX hbl hbA hS g2 d_LinkAuditLaw_law_549 ?_
  refine xl_I (va_runV (As := [.int (xs (x3 + 1).toNatClampNeg), .int (xs (x3 + 2).toNatClampNeg)]) (rest := [.int r]) ⟨hx, hb, hml, hown, hta⟩ (c_LinkAuditModel_select hDr h2) ⟨callB_of 2 hta (good_all (L := .code y_LinkAuditModel_select prog_12_method_45_code 4 (some .int) :: ALLW) (List.forall_mem_cons.mpr ⟨wm_918, fun _ h => h⟩)) rfl rfl rfl (hta _ wm_11) (hta _ wm_915) (by decide +kernel) ⟨Nat.le_of_ble_eq_true rfl, Nat.le_of_ble_eq_true rfl⟩, hta _ wm_916, hta _ wm_917⟩ ⟨x_blind Kk_w _, va_recv hkk.1 hPr (ci := 10) (q0 := 0) rfl r_c0, x_pre Kk_w hkk hPr _⟩ rfl rfl hl.1 rfl (lv_room (Nat.le_of_ble_eq_true rfl)) d_LinkAuditLaw_law_550 ⟨Nat.le_of_ble_eq_true rfl, Nat.le_of_ble_eq_true rfl⟩) hS hAr hPc (hnc _) (fun H locs hPr hPc hS => ?_)
  refine lv_icmp_eq (tgt := 686) hx hb d_LinkAuditLaw_law_553 (by decide) (fun _ => ?_) (fun h => absurd rfl h)
  exact kk Nc Nr hR _ _ ls hPc hPr hS hl
set_option maxHeartbeats 4000000 in
set_option maxRecDepth 100000 in
theorem law_overrides {p : Program} {l : Launch} {e : Env} {s : State} {m : MethodId} {below : List Frame} {meth : Method} {c : Code} {b L : Nat} {xs : Nat → Int32} {D : va_G} {cI cL cG cZ : ClassId} {adc adr : Nat → Nat} {Rel : Mem → Mem → Prop} (hsim : Sim_overrides Rel) (hL : L ≤ 3072) (C0 : lw_At p s m meth c b L xs) (hkk : Kk D cI cL cG cZ s) (hDc : ∀ M, va_D (c_A adc) (c_ws cI cL cG cZ adc M)) (hDr : ∀ M, va_D (r_A adr) (r_ws cI cL cG cZ adr M)) (hAc : ∀ q, c_A adc q → s.heap.size ≤ q) (hAr : ∀ q, r_A adr q → s.heap.size ≤ q) (hno : ∀ q, c_A adc q → ¬ r_A adr q) {i : Nat} {x3 : Int32} (ex3 : x3 = nI i) (hi : i + 6 ≤ L) {Mc Mr : Mem} (hrel : Rel Mc Mr) {H : Heap} {locs : List Loc} {ls : Array Slot} (hPc : va_P D vwC (c_ws cI cL cG cZ adc Mc) H) (hPr : va_P D vwC (r_ws cI cL cG cZ adr Mr) H) (hS : va_S (fun q : Nat => s.heap.size ≤ q) s.heap H locs) (hl : lv_has ls 4 [(0, .ref b), (1, .ref (adc 0)), (2, .ref (adr 0)), (3, .int x3)])
    (kk : ∀ (Nc Nr : Mem), Rel Nc Nr → ∀ (H : Heap) (locs : List Loc) (ls : Array Slot), va_P D vwC (c_ws cI cL cG cZ adc Nc) H → va_P D vwC (r_ws cI cL cG cZ adr Nr) H → va_S (fun q : Nat => s.heap.size ≤ q) s.heap H locs → lv_has ls 4 [(0, .ref b), (1, .ref (adc 0)), (2, .ref (adr 0)), (3, .int x3)] → W p l e room_1 s m #[Value.ref b] below meth c H locs 105 3226 (lw_Z below #[Value.ref b] s) (F0 m 686 ls [])) : W p l e room_1 s m #[Value.ref b] below meth c H locs 105 3226 (lw_Z below #[Value.ref b] s) (F0 m 558 ls []) := by
  obtain ⟨hx, hb, hr, hml, hown, hts, hX, hbl, hlocks, hgv⟩ := C0
  have hta : ∀ w ∈ ALLW, w.before #[Value.ref b] s = true := fun w h => hts w (ALLW_tbl h)
  have hbA : ¬ (fun q : Nat => s.heap.size ≤ q) b := Nat.not_le.mpr hbl
  have hnr : ∀ (M : Mem) (k : Nat) (q : Nat × va_E), (r_ws cI cL cG cZ adr M)[k]? = some q → ¬ c_A adc q.1 := fun M k q hq h => hno _ h ((hDr M).2 k q hq)
  have hnc : ∀ (M : Mem) (k : Nat) (q : Nat × va_E), (c_ws cI cL cG cZ adc M)[k]? = some q → ¬ r_A adr q.1 := fun M k q hq h => hno _ ((hDc M).2 k q hq) h
  have g1 : vp_in (x3 + 1) L := by rw [ex3]; exact xl_in (k := 1) (by omega) hL
  have g2 : vp_in (x3 + 2) L := by rw [ex3]; exact xl_in (k := 2) (by omega) hL
  obtain ⟨r, Nc, Nr, h1, h2, hR⟩ := hsim Mc Mr hrel (xs (x3 + 1).toNatClampNeg) (xs (x3 + 2).toNatClampNeg)
  refine lv_aload_n hx hb d_LinkAuditLaw_law_558 rfl (lv_at hl 1 rfl) ?_
  refine lv_aload_n hx hb d_LinkAuditLaw_law_559 rfl (lv_at hl 0 rfl) ?_
  refine lv_iload_n hx hb d_LinkAuditLaw_law_560 rfl (lv_at hl 3 rfl) ?_
  refine lv_iconst (v := 1) hx hb d_LinkAuditLaw_law_561 (by decide) ?_
  refine lv_iadd hx hb d_LinkAuditLaw_law_562 ?_
  refine va_sld hx hb hX hbl hbA hS g1 d_LinkAuditLaw_law_563 ?_
  refine lv_aload_n hx hb d_LinkAuditLaw_law_564 rfl (lv_at hl 0 rfl) ?_
  refine lv_iload_n hx hb d_LinkAuditLaw_law_565 rfl (lv_at hl 3 rfl) ?_
  refine lv_iconst (v := 2) hx hb d_LinkAuditLaw_law_566 (by decide) ?_
  refine lv_iadd hx hb d_LinkAuditLaw_law_567 ?_
  refine va_sld hx hb hX hbl hbA hS g2 d_LinkAuditLaw_law_568 ?_
  refine xl_I (va_runV (As := [.int (xs (x3 + 1).toNatClampNeg), .int (xs (x3 + 2).toNatClampNeg)]) (rest := []) ⟨hx, hb, hml, hown, hta⟩ (c_LinkAudit_overrides hDc h1) ⟨callB_of 2 hta (good_all (L := .code y_LinkAudit_overrides prog_1_method_12_code 3 (some .boolean) :: ALLW) (List.forall_mem_cons.mpr ⟨wm_622, fun _ h => h⟩)) rfl rfl rfl (hta _ wm_1) (hta _ wm_619) (by decide +kernel) ⟨Nat.le_of_ble_eq_true rfl, Nat.le_of_ble_eq_true rfl⟩, hta _ wm_620, hta _ wm_621⟩ ⟨x_blind Kk_w _, va_recv hkk.1 hPc (ci := 0) (q0 := 0) rfl c_c0, x_pre Kk_w hkk hPc _⟩ rfl rfl hl.1 rfl (lv_room (Nat.le_of_ble_eq_true rfl)) d_LinkAuditLaw_law_569 ⟨Nat.le_of_ble_eq_true rfl, Nat.le_of_ble_eq_true rfl⟩) hS hAc hPr (hnr _) (fun H locs hPc hPr hS => ?_)
  refine lv_aload_n hx hb d_LinkAuditLaw_law_572 rfl (lv_at hl 2 rfl) ?_
  refine lv_aload_n hx hb d_LinkAuditLaw_law_573 rfl (lv_at hl 0 rfl) ?_
  refine lv_iload_n hx hb d_LinkAuditLaw_law_574 rfl (lv_at hl 3 rfl) ?_
  refine lv_iconst (v := 1) hx hb d_LinkAuditLaw_law_575 (by decide) ?_
  refine lv_iadd hx hb d_LinkAuditLaw_law_576 ?_
  refine va_sld hx hb hX hbl hbA hS g1 d_LinkAuditLaw_law_577 ?_
  refine lv_aload_n hx hb d_LinkAuditLaw_law_578 rfl (lv_at hl 0 rfl) ?_
  refine lv_iload_n hx hb d_LinkAuditLaw_law_579 rfl (lv_at hl 3 rfl) ?_
  refine lv_iconst (v := 2) hx hb d_LinkAuditLaw_law_580 (by decide) ?_
  refine lv_iadd hx hb d_LinkAuditLaw_law_581 ?_
  refine va_sld hx hb hX hbl hbA hS g2 d_LinkAuditLaw_law_582 ?_
  refine xl_I (va_runV (As := [.int (xs (x3 + 1).toNatClampNeg), .int (xs (x3 + 2).toNatClampNeg)]) (rest := [.int r]) ⟨hx, hb, hml, hown, hta⟩ (c_LinkAuditModel_overrides hDr h2) ⟨callB_of 2 hta (good_all (L := .code y_LinkAuditModel_overrides prog_12_method_46_code 3 (some .boolean) :: ALLW) (List.forall_mem_cons.mpr ⟨wm_950, fun _ h => h⟩)) rfl rfl rfl (hta _ wm_11) (hta _ wm_947) (by decide +kernel) ⟨Nat.le_of_ble_eq_true rfl, Nat.le_of_ble_eq_true rfl⟩, hta _ wm_948, hta _ wm_949⟩ ⟨x_blind Kk_w _, va_recv hkk.1 hPr (ci := 10) (q0 := 0) rfl r_c0, x_pre Kk_w hkk hPr _⟩ rfl rfl hl.1 rfl (lv_room (Nat.le_of_ble_eq_true rfl)) d_LinkAuditLaw_law_583 ⟨Nat.le_of_ble_eq_true rfl, Nat.le_of_ble_eq_true rfl⟩) hS hAr hPc (hnc _) (fun H locs hPr hPc hS => ?_)
  refine lv_icmp_eq (tgt := 686) hx hb d_LinkAuditLaw_law_586 (by decide) (fun _ => ?_) (fun h => absurd rfl h)
  exact kk Nc Nr hR _ _ ls hPc hPr hS hl
set_option maxHeartbeats 4000000 in
set_option maxRecDepth 100000 in
theorem law_gaps {p : Program} {l : Launch} {e : Env} {s : State} {m : MethodId} {below : List Frame} {meth : Method} {c : Code} {b L : Nat} {xs : Nat → Int32} {D : va_G} {cI cL cG cZ : ClassId} {adc adr : Nat → Nat} {Rel : Mem → Mem → Prop} (hsim : Sim_gaps Rel) (hL : L ≤ 3072) (C0 : lw_At p s m meth c b L xs) (hkk : Kk D cI cL cG cZ s) (hDc : ∀ M, va_D (c_A adc) (c_ws cI cL cG cZ adc M)) (hDr : ∀ M, va_D (r_A adr) (r_ws cI cL cG cZ adr M)) (hAc : ∀ q, c_A adc q → s.heap.size ≤ q) (hAr : ∀ q, r_A adr q → s.heap.size ≤ q) (hno : ∀ q, c_A adc q → ¬ r_A adr q) {i : Nat} {x3 : Int32} (ex3 : x3 = nI i) (hi : i + 6 ≤ L) {Mc Mr : Mem} (hrel : Rel Mc Mr) {H : Heap} {locs : List Loc} {ls : Array Slot} (hPc : va_P D vwC (c_ws cI cL cG cZ adc Mc) H) (hPr : va_P D vwC (r_ws cI cL cG cZ adr Mr) H) (hS : va_S (fun q : Nat => s.heap.size ≤ q) s.heap H locs) (hl : lv_has ls 4 [(0, .ref b), (1, .ref (adc 0)), (2, .ref (adr 0)), (3, .int x3)])
    (kk : ∀ (Nc Nr : Mem), Rel Nc Nr → ∀ (H : Heap) (locs : List Loc) (ls : Array Slot), va_P D vwC (c_ws cI cL cG cZ adc Nc) H → va_P D vwC (r_ws cI cL cG cZ adr Nr) H → va_S (fun q : Nat => s.heap.size ≤ q) s.heap H locs → lv_has ls 4 [(0, .ref b), (1, .ref (adc 0)), (2, .ref (adr 0)), (3, .int x3)] → W p l e room_1 s m #[Value.ref b] below meth c H locs 105 3226 (lw_Z below #[Value.ref b] s) (F0 m 686 ls [])) : W p l e room_1 s m #[Value.ref b] below meth c H locs 105 3226 (lw_Z below #[Value.ref b] s) (F0 m 591 ls []) := by
  obtain ⟨hx, hb, hr, hml, hown, hts, hX, hbl, hlocks, hgv⟩ := C0
  have hta : ∀ w ∈ ALLW, w.before #[Value.ref b] s = true := fun w h => hts w (ALLW_tbl h)
  have hbA : ¬ (fun q : Nat => s.heap.size ≤ q) b := Nat.not_le.mpr hbl
  have hnr : ∀ (M : Mem) (k : Nat) (q : Nat × va_E), (r_ws cI cL cG cZ adr M)[k]? = some q → ¬ c_A adc q.1 := fun M k q hq h => hno _ h ((hDr M).2 k q hq)
  have hnc : ∀ (M : Mem) (k : Nat) (q : Nat × va_E), (c_ws cI cL cG cZ adc M)[k]? = some q → ¬ r_A adr q.1 := fun M k q hq h => hno _ ((hDc M).2 k q hq) h
  obtain ⟨r, Nc, Nr, h1, h2, hR⟩ := hsim Mc Mr hrel 
  refine lv_aload_n hx hb d_LinkAuditLaw_law_591 rfl (lv_at hl 1 rfl) ?_
  refine xl_I (va_runV (As := []) (rest := []) ⟨hx, hb, hml, hown, hta⟩ (c_LinkAudit_gaps hDc h1) ⟨callB_of 0 hta (good_all (L := .code y_LinkAudit_gaps prog_1_method_13_code 1 (some .int) :: ALLW) (List.forall_mem_cons.mpr ⟨wm_630, fun _ h => h⟩)) rfl rfl rfl (hta _ wm_1) (hta _ wm_627) (by decide +kernel) ⟨Nat.le_of_ble_eq_true rfl, Nat.le_of_ble_eq_true rfl⟩, hta _ wm_628, hta _ wm_629⟩ ⟨x_blind Kk_w _, va_recv hkk.1 hPc (ci := 0) (q0 := 0) rfl c_c0, x_pre Kk_w hkk hPc _⟩ rfl rfl hl.1 rfl (lv_room (Nat.le_of_ble_eq_true rfl)) d_LinkAuditLaw_law_592 ⟨Nat.le_of_ble_eq_true rfl, Nat.le_of_ble_eq_true rfl⟩) hS hAc hPr (hnr _) (fun H locs hPc hPr hS => ?_)
  refine lv_aload_n hx hb d_LinkAuditLaw_law_595 rfl (lv_at hl 2 rfl) ?_
  refine xl_I (va_runV (As := []) (rest := [.int r]) ⟨hx, hb, hml, hown, hta⟩ (c_LinkAuditModel_gaps hDr h2) ⟨callB_of 0 hta (good_all (L := .code y_LinkAuditModel_gaps prog_12_method_47_code 1 (some .int) :: ALLW) (List.forall_mem_cons.mpr ⟨wm_958, fun _ h => h⟩)) rfl rfl rfl (hta _ wm_11) (hta _ wm_955) (by decide +kernel) ⟨Nat.le_of_ble_eq_true rfl, Nat.le_of_ble_eq_true rfl⟩, hta _ wm_956, hta _ wm_957⟩ ⟨x_blind Kk_w _, va_recv hkk.1 hPr (ci := 10) (q0 := 0) rfl r_c0, x_pre Kk_w hkk hPr _⟩ rfl rfl hl.1 rfl (lv_room (Nat.le_of_ble_eq_true rfl)) d_LinkAuditLaw_law_596 ⟨Nat.le_of_ble_eq_true rfl, Nat.le_of_ble_eq_true rfl⟩) hS hAr hPc (hnc _) (fun H locs hPr hPc hS => ?_)
  refine lv_icmp_eq (tgt := 686) hx hb d_LinkAuditLaw_law_599 (by decide) (fun _ => ?_) (fun h => absurd rfl h)
  exact kk Nc Nr hR _ _ ls hPc hPr hS hl
set_option maxHeartbeats 4000000 in
set_option maxRecDepth 100000 in
theorem law_conflicts {p : Program} {l : Launch} {e : Env} {s : State} {m : MethodId} {below : List Frame} {meth : Method} {c : Code} {b L : Nat} {xs : Nat → Int32} {D : va_G} {cI cL cG cZ : ClassId} {adc adr : Nat → Nat} {Rel : Mem → Mem → Prop} (hsim : Sim_conflicts Rel) (hL : L ≤ 3072) (C0 : lw_At p s m meth c b L xs) (hkk : Kk D cI cL cG cZ s) (hDc : ∀ M, va_D (c_A adc) (c_ws cI cL cG cZ adc M)) (hDr : ∀ M, va_D (r_A adr) (r_ws cI cL cG cZ adr M)) (hAc : ∀ q, c_A adc q → s.heap.size ≤ q) (hAr : ∀ q, r_A adr q → s.heap.size ≤ q) (hno : ∀ q, c_A adc q → ¬ r_A adr q) {i : Nat} {x3 : Int32} (ex3 : x3 = nI i) (hi : i + 6 ≤ L) {Mc Mr : Mem} (hrel : Rel Mc Mr) {H : Heap} {locs : List Loc} {ls : Array Slot} (hPc : va_P D vwC (c_ws cI cL cG cZ adc Mc) H) (hPr : va_P D vwC (r_ws cI cL cG cZ adr Mr) H) (hS : va_S (fun q : Nat => s.heap.size ≤ q) s.heap H locs) (hl : lv_has ls 4 [(0, .ref b), (1, .ref (adc 0)), (2, .ref (adr 0)), (3, .int x3)])
    (kk : ∀ (Nc Nr : Mem), Rel Nc Nr → ∀ (H : Heap) (locs : List Loc) (ls : Array Slot), va_P D vwC (c_ws cI cL cG cZ adc Nc) H → va_P D vwC (r_ws cI cL cG cZ adr Nr) H → va_S (fun q : Nat => s.heap.size ≤ q) s.heap H locs → lv_has ls 4 [(0, .ref b), (1, .ref (adc 0)), (2, .ref (adr 0)), (3, .int x3)] → W p l e room_1 s m #[Value.ref b] below meth c H locs 105 3226 (lw_Z below #[Value.ref b] s) (F0 m 686 ls [])) : W p l e room_1 s m #[Value.ref b] below meth c H locs 105 3226 (lw_Z below #[Value.ref b] s) (F0 m 604 ls []) := by
  obtain ⟨hx, hb, hr, hml, hown, hts, hX, hbl, hlocks, hgv⟩ := C0
  have hta : ∀ w ∈ ALLW, w.before #[Value.ref b] s = true := fun w h => hts w (ALLW_tbl h)
  have hbA : ¬ (fun q : Nat => s.heap.size ≤ q) b := Nat.not_le.mpr hbl
  have hnr : ∀ (M : Mem) (k : Nat) (q : Nat × va_E), (r_ws cI cL cG cZ adr M)[k]? = some q → ¬ c_A adc q.1 := fun M k q hq h => hno _ h ((hDr M).2 k q hq)
  have hnc : ∀ (M : Mem) (k : Nat) (q : Nat × va_E), (c_ws cI cL cG cZ adc M)[k]? = some q → ¬ r_A adr q.1 := fun M k q hq h => hno _ ((hDc M).2 k q hq) h
  obtain ⟨r, Nc, Nr, h1, h2, hR⟩ := hsim Mc Mr hrel 
  refine lv_aload_n hx hb d_LinkAuditLaw_law_604 rfl (lv_at hl 1 rfl) ?_
  refine xl_I (va_runV (As := []) (rest := []) ⟨hx, hb, hml, hown, hta⟩ (c_LinkAudit_conflicts hDc h1) ⟨callB_of 0 hta (good_all (L := .code y_LinkAudit_conflicts prog_1_method_14_code 1 (some .int) :: ALLW) (List.forall_mem_cons.mpr ⟨wm_644, fun _ h => h⟩)) rfl rfl rfl (hta _ wm_1) (hta _ wm_641) (by decide +kernel) ⟨Nat.le_of_ble_eq_true rfl, Nat.le_of_ble_eq_true rfl⟩, hta _ wm_642, hta _ wm_643⟩ ⟨x_blind Kk_w _, va_recv hkk.1 hPc (ci := 0) (q0 := 0) rfl c_c0, x_pre Kk_w hkk hPc _⟩ rfl rfl hl.1 rfl (lv_room (Nat.le_of_ble_eq_true rfl)) d_LinkAuditLaw_law_605 ⟨Nat.le_of_ble_eq_true rfl, Nat.le_of_ble_eq_true rfl⟩) hS hAc hPr (hnr _) (fun H locs hPc hPr hS => ?_)
  refine lv_aload_n hx hb d_LinkAuditLaw_law_608 rfl (lv_at hl 2 rfl) ?_
  refine xl_I (va_runV (As := []) (rest := [.int r]) ⟨hx, hb, hml, hown, hta⟩ (c_LinkAuditModel_conflicts hDr h2) ⟨callB_of 0 hta (good_all (L := .code y_LinkAuditModel_conflicts prog_12_method_48_code 1 (some .int) :: ALLW) (List.forall_mem_cons.mpr ⟨wm_966, fun _ h => h⟩)) rfl rfl rfl (hta _ wm_11) (hta _ wm_963) (by decide +kernel) ⟨Nat.le_of_ble_eq_true rfl, Nat.le_of_ble_eq_true rfl⟩, hta _ wm_964, hta _ wm_965⟩ ⟨x_blind Kk_w _, va_recv hkk.1 hPr (ci := 10) (q0 := 0) rfl r_c0, x_pre Kk_w hkk hPr _⟩ rfl rfl hl.1 rfl (lv_room (Nat.le_of_ble_eq_true rfl)) d_LinkAuditLaw_law_609 ⟨Nat.le_of_ble_eq_true rfl, Nat.le_of_ble_eq_true rfl⟩) hS hAr hPc (hnc _) (fun H locs hPr hPc hS => ?_)
  refine lv_icmp_eq (tgt := 686) hx hb d_LinkAuditLaw_law_612 (by decide) (fun _ => ?_) (fun h => absurd rfl h)
  exact kk Nc Nr hR _ _ ls hPc hPr hS hl
set_option maxHeartbeats 4000000 in
set_option maxRecDepth 100000 in
theorem law_conflict {p : Program} {l : Launch} {e : Env} {s : State} {m : MethodId} {below : List Frame} {meth : Method} {c : Code} {b L : Nat} {xs : Nat → Int32} {D : va_G} {cI cL cG cZ : ClassId} {adc adr : Nat → Nat} {Rel : Mem → Mem → Prop} (hsim : Sim_conflict Rel) (hL : L ≤ 3072) (C0 : lw_At p s m meth c b L xs) (hkk : Kk D cI cL cG cZ s) (hDc : ∀ M, va_D (c_A adc) (c_ws cI cL cG cZ adc M)) (hDr : ∀ M, va_D (r_A adr) (r_ws cI cL cG cZ adr M)) (hAc : ∀ q, c_A adc q → s.heap.size ≤ q) (hAr : ∀ q, r_A adr q → s.heap.size ≤ q) (hno : ∀ q, c_A adc q → ¬ r_A adr q) {i : Nat} {x3 : Int32} (ex3 : x3 = nI i) (hi : i + 6 ≤ L) {Mc Mr : Mem} (hrel : Rel Mc Mr) {H : Heap} {locs : List Loc} {ls : Array Slot} (hPc : va_P D vwC (c_ws cI cL cG cZ adc Mc) H) (hPr : va_P D vwC (r_ws cI cL cG cZ adr Mr) H) (hS : va_S (fun q : Nat => s.heap.size ≤ q) s.heap H locs) (hl : lv_has ls 4 [(0, .ref b), (1, .ref (adc 0)), (2, .ref (adr 0)), (3, .int x3)])
    (kk : ∀ (Nc Nr : Mem), Rel Nc Nr → ∀ (H : Heap) (locs : List Loc) (ls : Array Slot), va_P D vwC (c_ws cI cL cG cZ adc Nc) H → va_P D vwC (r_ws cI cL cG cZ adr Nr) H → va_S (fun q : Nat => s.heap.size ≤ q) s.heap H locs → lv_has ls 4 [(0, .ref b), (1, .ref (adc 0)), (2, .ref (adr 0)), (3, .int x3)] → W p l e room_1 s m #[Value.ref b] below meth c H locs 105 3226 (lw_Z below #[Value.ref b] s) (F0 m 686 ls [])) : W p l e room_1 s m #[Value.ref b] below meth c H locs 105 3226 (lw_Z below #[Value.ref b] s) (F0 m 617 ls []) := by
  obtain ⟨hx, hb, hr, hml, hown, hts, hX, hbl, hlocks, hgv⟩ := C0
  have hta : ∀ w ∈ ALLW, w.before #[Value.ref b] s = true := fun w h => hts w (ALLW_tbl h)
  have hbA : ¬ (fun q : Nat => s.heap.size ≤ q) b := Nat.not_le.mpr hbl
  have hnr : ∀ (M : Mem) (k : Nat) (q : Nat × va_E), (r_ws cI cL cG cZ adr M)[k]? = some q → ¬ c_A adc q.1 := fun M k q hq h => hno _ h ((hDr M).2 k q hq)
  have hnc : ∀ (M : Mem) (k : Nat) (q : Nat × va_E), (c_ws cI cL cG cZ adc M)[k]? = some q → ¬ r_A adr q.1 := fun M k q hq h => hno _ ((hDc M).2 k q hq) h
  have g1 : vp_in (x3 + 1) L := by rw [ex3]; exact xl_in (k := 1) (by omega) hL
  have g2 : vp_in (x3 + 2) L := by rw [ex3]; exact xl_in (k := 2) (by omega) hL
  obtain ⟨r, Nc, Nr, h1, h2, hR⟩ := hsim Mc Mr hrel (xs (x3 + 1).toNatClampNeg) (xs (x3 + 2).toNatClampNeg)
  refine lv_aload_n hx hb d_LinkAuditLaw_law_617 rfl (lv_at hl 1 rfl) ?_
  refine lv_aload_n hx hb d_LinkAuditLaw_law_618 rfl (lv_at hl 0 rfl) ?_
  refine lv_iload_n hx hb d_LinkAuditLaw_law_619 rfl (lv_at hl 3 rfl) ?_
  refine lv_iconst (v := 1) hx hb d_LinkAuditLaw_law_620 (by decide) ?_
  refine lv_iadd hx hb d_LinkAuditLaw_law_621 ?_
  refine va_sld hx hb hX hbl hbA hS g1 d_LinkAuditLaw_law_622 ?_
  refine lv_aload_n hx hb d_LinkAuditLaw_law_623 rfl (lv_at hl 0 rfl) ?_
  refine lv_iload_n hx hb d_LinkAuditLaw_law_624 rfl (lv_at hl 3 rfl) ?_
  refine lv_iconst (v := 2) hx hb d_LinkAuditLaw_law_625 (by decide) ?_
  refine lv_iadd hx hb d_LinkAuditLaw_law_626 ?_
  refine va_sld hx hb hX hbl hbA hS g2 d_LinkAuditLaw_law_627 ?_
  refine xl_I (va_runV (As := [.int (xs (x3 + 1).toNatClampNeg), .int (xs (x3 + 2).toNatClampNeg)]) (rest := []) ⟨hx, hb, hml, hown, hta⟩ (c_LinkAudit_conflict hDc h1) ⟨callB_of 2 hta (good_all (L := .code y_LinkAudit_conflict prog_1_method_15_code 3 (some .int) :: ALLW) (List.forall_mem_cons.mpr ⟨wm_681, fun _ h => h⟩)) rfl rfl rfl (hta _ wm_1) (hta _ wm_678) (by decide +kernel) ⟨Nat.le_of_ble_eq_true rfl, Nat.le_of_ble_eq_true rfl⟩, hta _ wm_679, hta _ wm_680⟩ ⟨x_blind Kk_w _, va_recv hkk.1 hPc (ci := 0) (q0 := 0) rfl c_c0, x_pre Kk_w hkk hPc _⟩ rfl rfl hl.1 rfl (lv_room (Nat.le_of_ble_eq_true rfl)) d_LinkAuditLaw_law_628 ⟨Nat.le_of_ble_eq_true rfl, Nat.le_of_ble_eq_true rfl⟩) hS hAc hPr (hnr _) (fun H locs hPc hPr hS => ?_)
  refine lv_aload_n hx hb d_LinkAuditLaw_law_631 rfl (lv_at hl 2 rfl) ?_
  refine lv_aload_n hx hb d_LinkAuditLaw_law_632 rfl (lv_at hl 0 rfl) ?_
  refine lv_iload_n hx hb d_LinkAuditLaw_law_633 rfl (lv_at hl 3 rfl) ?_
  refine lv_iconst (v := 1) hx hb d_LinkAuditLaw_law_634 (by decide) ?_
  refine lv_iadd hx hb d_LinkAuditLaw_law_635 ?_
  refine va_sld hx hb hX hbl hbA hS g1 d_LinkAuditLaw_law_636 ?_
  refine lv_aload_n hx hb d_LinkAuditLaw_law_637 rfl (lv_at hl 0 rfl) ?_
  refine lv_iload_n hx hb d_LinkAuditLaw_law_638 rfl (lv_at hl 3 rfl) ?_
  refine lv_iconst (v := 2) hx hb d_LinkAuditLaw_law_639 (by decide) ?_
  refine lv_iadd hx hb d_LinkAuditLaw_law_640 ?_
  refine va_sld hx hb hX hbl hbA hS g2 d_LinkAuditLaw_law_641 ?_
  refine xl_I (va_runV (As := [.int (xs (x3 + 1).toNatClampNeg), .int (xs (x3 + 2).toNatClampNeg)]) (rest := [.int r]) ⟨hx, hb, hml, hown, hta⟩ (c_LinkAuditModel_conflict hDr h2) ⟨callB_of 2 hta (good_all (L := .code y_LinkAuditModel_conflict prog_12_method_49_code 3 (some .int) :: ALLW) (List.forall_mem_cons.mpr ⟨wm_986, fun _ h => h⟩)) rfl rfl rfl (hta _ wm_11) (hta _ wm_983) (by decide +kernel) ⟨Nat.le_of_ble_eq_true rfl, Nat.le_of_ble_eq_true rfl⟩, hta _ wm_984, hta _ wm_985⟩ ⟨x_blind Kk_w _, va_recv hkk.1 hPr (ci := 10) (q0 := 0) rfl r_c0, x_pre Kk_w hkk hPr _⟩ rfl rfl hl.1 rfl (lv_room (Nat.le_of_ble_eq_true rfl)) d_LinkAuditLaw_law_642 ⟨Nat.le_of_ble_eq_true rfl, Nat.le_of_ble_eq_true rfl⟩) hS hAr hPc (hnc _) (fun H locs hPr hPc hS => ?_)
  refine lv_icmp_eq (tgt := 686) hx hb d_LinkAuditLaw_law_645 (by decide) (fun _ => ?_) (fun h => absurd rfl h)
  exact kk Nc Nr hR _ _ ls hPc hPr hS hl
set_option maxHeartbeats 4000000 in
set_option maxRecDepth 100000 in
theorem law_faults {p : Program} {l : Launch} {e : Env} {s : State} {m : MethodId} {below : List Frame} {meth : Method} {c : Code} {b L : Nat} {xs : Nat → Int32} {D : va_G} {cI cL cG cZ : ClassId} {adc adr : Nat → Nat} {Rel : Mem → Mem → Prop} (hsim : Sim_faults Rel) (hL : L ≤ 3072) (C0 : lw_At p s m meth c b L xs) (hkk : Kk D cI cL cG cZ s) (hDc : ∀ M, va_D (c_A adc) (c_ws cI cL cG cZ adc M)) (hDr : ∀ M, va_D (r_A adr) (r_ws cI cL cG cZ adr M)) (hAc : ∀ q, c_A adc q → s.heap.size ≤ q) (hAr : ∀ q, r_A adr q → s.heap.size ≤ q) (hno : ∀ q, c_A adc q → ¬ r_A adr q) {i : Nat} {x3 : Int32} (ex3 : x3 = nI i) (hi : i + 6 ≤ L) {Mc Mr : Mem} (hrel : Rel Mc Mr) {H : Heap} {locs : List Loc} {ls : Array Slot} (hPc : va_P D vwC (c_ws cI cL cG cZ adc Mc) H) (hPr : va_P D vwC (r_ws cI cL cG cZ adr Mr) H) (hS : va_S (fun q : Nat => s.heap.size ≤ q) s.heap H locs) (hl : lv_has ls 4 [(0, .ref b), (1, .ref (adc 0)), (2, .ref (adr 0)), (3, .int x3)])
    (kk : ∀ (Nc Nr : Mem), Rel Nc Nr → ∀ (H : Heap) (locs : List Loc) (ls : Array Slot), va_P D vwC (c_ws cI cL cG cZ adc Nc) H → va_P D vwC (r_ws cI cL cG cZ adr Nr) H → va_S (fun q : Nat => s.heap.size ≤ q) s.heap H locs → lv_has ls 4 [(0, .ref b), (1, .ref (adc 0)), (2, .ref (adr 0)), (3, .int x3)] → W p l e room_1 s m #[Value.ref b] below meth c H locs 105 3226 (lw_Z below #[Value.ref b] s) (F0 m 686 ls [])) : W p l e room_1 s m #[Value.ref b] below meth c H locs 105 3226 (lw_Z below #[Value.ref b] s) (F0 m 650 ls []) := by
  obtain ⟨hx, hb, hr, hml, hown, hts, hX, hbl, hlocks, hgv⟩ := C0
  have hta : ∀ w ∈ ALLW, w.before #[Value.ref b] s = true := fun w h => hts w (ALLW_tbl h)
  have hbA : ¬ (fun q : Nat => s.heap.size ≤ q) b := Nat.not_le.mpr hbl
  have hnr : ∀ (M : Mem) (k : Nat) (q : Nat × va_E), (r_ws cI cL cG cZ adr M)[k]? = some q → ¬ c_A adc q.1 := fun M k q hq h => hno _ h ((hDr M).2 k q hq)
  have hnc : ∀ (M : Mem) (k : Nat) (q : Nat × va_E), (c_ws cI cL cG cZ adc M)[k]? = some q → ¬ r_A adr q.1 := fun M k q hq h => hno _ ((hDc M).2 k q hq) h
  obtain ⟨r, Nc, Nr, h1, h2, hR⟩ := hsim Mc Mr hrel 
  refine lv_aload_n hx hb d_LinkAuditLaw_law_650 rfl (lv_at hl 1 rfl) ?_
  refine xl_I (va_runV (As := []) (rest := []) ⟨hx, hb, hml, hown, hta⟩ (c_LinkAudit_faults hDc h1) ⟨callB_of 0 hta (good_all (L := .code y_LinkAudit_faults prog_1_method_16_code 1 (some .int) :: ALLW) (List.forall_mem_cons.mpr ⟨wm_685, fun _ h => h⟩)) rfl rfl rfl (hta _ wm_1) (hta _ wm_682) (by decide +kernel) ⟨Nat.le_of_ble_eq_true rfl, Nat.le_of_ble_eq_true rfl⟩, hta _ wm_683, hta _ wm_684⟩ ⟨x_blind Kk_w _, va_recv hkk.1 hPc (ci := 0) (q0 := 0) rfl c_c0, x_pre Kk_w hkk hPc _⟩ rfl rfl hl.1 rfl (lv_room (Nat.le_of_ble_eq_true rfl)) d_LinkAuditLaw_law_651 ⟨Nat.le_of_ble_eq_true rfl, Nat.le_of_ble_eq_true rfl⟩) hS hAc hPr (hnr _) (fun H locs hPc hPr hS => ?_)
  refine lv_aload_n hx hb d_LinkAuditLaw_law_654 rfl (lv_at hl 2 rfl) ?_
  refine xl_I (va_runV (As := []) (rest := [.int r]) ⟨hx, hb, hml, hown, hta⟩ (c_LinkAuditModel_faults hDr h2) ⟨callB_of 0 hta (good_all (L := .code y_LinkAuditModel_faults prog_12_method_50_code 3 (some .int) :: ALLW) (List.forall_mem_cons.mpr ⟨wm_990, fun _ h => h⟩)) rfl rfl rfl (hta _ wm_11) (hta _ wm_987) (by decide +kernel) ⟨Nat.le_of_ble_eq_true rfl, Nat.le_of_ble_eq_true rfl⟩, hta _ wm_988, hta _ wm_989⟩ ⟨x_blind Kk_w _, va_recv hkk.1 hPr (ci := 10) (q0 := 0) rfl r_c0, x_pre Kk_w hkk hPr _⟩ rfl rfl hl.1 rfl (lv_room (Nat.le_of_ble_eq_true rfl)) d_LinkAuditLaw_law_655 ⟨Nat.le_of_ble_eq_true rfl, Nat.le_of_ble_eq_true rfl⟩) hS hAr hPc (hnc _) (fun H locs hPr hPc hS => ?_)
  refine lv_icmp_eq (tgt := 686) hx hb d_LinkAuditLaw_law_658 (by decide) (fun _ => ?_) (fun h => absurd rfl h)
  exact kk Nc Nr hR _ _ ls hPc hPr hS hl
set_option maxHeartbeats 4000000 in
set_option maxRecDepth 100000 in
theorem law_count {p : Program} {l : Launch} {e : Env} {s : State} {m : MethodId} {below : List Frame} {meth : Method} {c : Code} {b L : Nat} {xs : Nat → Int32} {D : va_G} {cI cL cG cZ : ClassId} {adc adr : Nat → Nat} {Rel : Mem → Mem → Prop} (hsim : Sim_count Rel) (hL : L ≤ 3072) (C0 : lw_At p s m meth c b L xs) (hkk : Kk D cI cL cG cZ s) (hDc : ∀ M, va_D (c_A adc) (c_ws cI cL cG cZ adc M)) (hDr : ∀ M, va_D (r_A adr) (r_ws cI cL cG cZ adr M)) (hAc : ∀ q, c_A adc q → s.heap.size ≤ q) (hAr : ∀ q, r_A adr q → s.heap.size ≤ q) (hno : ∀ q, c_A adc q → ¬ r_A adr q) {i : Nat} {x3 : Int32} (ex3 : x3 = nI i) (hi : i + 6 ≤ L) {Mc Mr : Mem} (hrel : Rel Mc Mr) {H : Heap} {locs : List Loc} {ls : Array Slot} (hPc : va_P D vwC (c_ws cI cL cG cZ adc Mc) H) (hPr : va_P D vwC (r_ws cI cL cG cZ adr Mr) H) (hS : va_S (fun q : Nat => s.heap.size ≤ q) s.heap H locs) (hl : lv_has ls 4 [(0, .ref b), (1, .ref (adc 0)), (2, .ref (adr 0)), (3, .int x3)])
    (kk : ∀ (Nc Nr : Mem), Rel Nc Nr → ∀ (H : Heap) (locs : List Loc) (ls : Array Slot), va_P D vwC (c_ws cI cL cG cZ adc Nc) H → va_P D vwC (r_ws cI cL cG cZ adr Nr) H → va_S (fun q : Nat => s.heap.size ≤ q) s.heap H locs → lv_has ls 4 [(0, .ref b), (1, .ref (adc 0)), (2, .ref (adr 0)), (3, .int x3)] → W p l e room_1 s m #[Value.ref b] below meth c H locs 105 3226 (lw_Z below #[Value.ref b] s) (F0 m 686 ls [])) : W p l e room_1 s m #[Value.ref b] below meth c H locs 105 3226 (lw_Z below #[Value.ref b] s) (F0 m 663 ls []) := by
  obtain ⟨hx, hb, hr, hml, hown, hts, hX, hbl, hlocks, hgv⟩ := C0
  have hta : ∀ w ∈ ALLW, w.before #[Value.ref b] s = true := fun w h => hts w (ALLW_tbl h)
  have hbA : ¬ (fun q : Nat => s.heap.size ≤ q) b := Nat.not_le.mpr hbl
  have hnr : ∀ (M : Mem) (k : Nat) (q : Nat × va_E), (r_ws cI cL cG cZ adr M)[k]? = some q → ¬ c_A adc q.1 := fun M k q hq h => hno _ h ((hDr M).2 k q hq)
  have hnc : ∀ (M : Mem) (k : Nat) (q : Nat × va_E), (c_ws cI cL cG cZ adc M)[k]? = some q → ¬ r_A adr q.1 := fun M k q hq h => hno _ ((hDc M).2 k q hq) h
  have g1 : vp_in (x3 + 1) L := by rw [ex3]; exact xl_in (k := 1) (by omega) hL
  obtain ⟨r, h1, h2⟩ := hsim Mc Mr hrel (xs (x3 + 1).toNatClampNeg)
  have hR := hrel
  refine lv_aload_n hx hb d_LinkAuditLaw_law_663 rfl (lv_at hl 1 rfl) ?_
  refine lv_aload_n hx hb d_LinkAuditLaw_law_664 rfl (lv_at hl 0 rfl) ?_
  refine lv_iload_n hx hb d_LinkAuditLaw_law_665 rfl (lv_at hl 3 rfl) ?_
  refine lv_iconst (v := 1) hx hb d_LinkAuditLaw_law_666 (by decide) ?_
  refine lv_iadd hx hb d_LinkAuditLaw_law_667 ?_
  refine va_sld hx hb hX hbl hbA hS g1 d_LinkAuditLaw_law_668 ?_
  refine xl_I (va_runV (As := [.int (xs (x3 + 1).toNatClampNeg)]) (rest := []) ⟨hx, hb, hml, hown, hta⟩ (c_LinkAudit_count hDc h1) ⟨callB_of 1 hta (good_all (L := .code y_LinkAudit_count prog_1_method_17_code 2 (some .int) :: ALLW) (List.forall_mem_cons.mpr ⟨wm_694, fun _ h => h⟩)) rfl rfl rfl (hta _ wm_1) (hta _ wm_691) (by decide +kernel) ⟨Nat.le_of_ble_eq_true rfl, Nat.le_of_ble_eq_true rfl⟩, hta _ wm_692, hta _ wm_693⟩ ⟨x_blind Kk_w _, va_recv hkk.1 hPc (ci := 0) (q0 := 0) rfl c_c0, x_pre Kk_w hkk hPc _⟩ rfl rfl hl.1 rfl (lv_room (Nat.le_of_ble_eq_true rfl)) d_LinkAuditLaw_law_669 ⟨Nat.le_of_ble_eq_true rfl, Nat.le_of_ble_eq_true rfl⟩) hS hAc hPr (hnr _) (fun H locs hPc hPr hS => ?_)
  refine lv_aload_n hx hb d_LinkAuditLaw_law_672 rfl (lv_at hl 2 rfl) ?_
  refine lv_aload_n hx hb d_LinkAuditLaw_law_673 rfl (lv_at hl 0 rfl) ?_
  refine lv_iload_n hx hb d_LinkAuditLaw_law_674 rfl (lv_at hl 3 rfl) ?_
  refine lv_iconst (v := 1) hx hb d_LinkAuditLaw_law_675 (by decide) ?_
  refine lv_iadd hx hb d_LinkAuditLaw_law_676 ?_
  refine va_sld hx hb hX hbl hbA hS g1 d_LinkAuditLaw_law_677 ?_
  refine xl_I (va_runV (As := [.int (xs (x3 + 1).toNatClampNeg)]) (rest := [.int r]) ⟨hx, hb, hml, hown, hta⟩ (c_LinkAuditModel_count hDr h2) ⟨callB_of 1 hta (good_all (L := .code y_LinkAuditModel_count prog_12_method_51_code 2 (some .int) :: ALLW) (List.forall_mem_cons.mpr ⟨wm_994, fun _ h => h⟩)) rfl rfl rfl (hta _ wm_11) (hta _ wm_991) (by decide +kernel) ⟨Nat.le_of_ble_eq_true rfl, Nat.le_of_ble_eq_true rfl⟩, hta _ wm_992, hta _ wm_993⟩ ⟨x_blind Kk_w _, va_recv hkk.1 hPr (ci := 10) (q0 := 0) rfl r_c0, x_pre Kk_w hkk hPr _⟩ rfl rfl hl.1 rfl (lv_room (Nat.le_of_ble_eq_true rfl)) d_LinkAuditLaw_law_678 ⟨Nat.le_of_ble_eq_true rfl, Nat.le_of_ble_eq_true rfl⟩) hS hAr hPc (hnc _) (fun H locs hPr hPc hS => ?_)
  refine lv_icmp_eq (tgt := 686) hx hb d_LinkAuditLaw_law_681 (by decide) (fun _ => ?_) (fun h => absurd rfl h)
  exact kk Mc Mr hR _ _ ls hPc hPr hS hl
set_option maxHeartbeats 4000000 in
set_option maxRecDepth 100000 in
theorem law_loop {p : Program} {l : Launch} {e : Env} {s : State} {m : MethodId} {below : List Frame} {meth : Method} {c : Code} {b L : Nat} {xs : Nat → Int32} {D : va_G} {cI cL cG cZ : ClassId} {adc adr : Nat → Nat} {Rel : Mem → Mem → Prop} (hs : Sims Rel) (hL : L ≤ 3072) (C0 : lw_At p s m meth c b L xs) (hkk : Kk D cI cL cG cZ s) (hDc : ∀ M, va_D (c_A adc) (c_ws cI cL cG cZ adc M)) (hDr : ∀ M, va_D (r_A adr) (r_ws cI cL cG cZ adr M)) (hAc : ∀ q, c_A adc q → s.heap.size ≤ q) (hAr : ∀ q, r_A adr q → s.heap.size ≤ q) (hno : ∀ q, c_A adc q → ¬ r_A adr q) : ∀ (n i : Nat) (x3 : Int32), i ≤ L → L + 1 ≤ i + n → x3 = nI i → ∀ (Mc Mr : Mem), Rel Mc Mr → ∀ (H : Heap) (locs : List Loc) (ls : Array Slot), va_P D vwC (c_ws cI cL cG cZ adc Mc) H → va_P D vwC (r_ws cI cL cG cZ adr Mr) H → va_S (fun q : Nat => s.heap.size ≤ q) s.heap H locs → lv_has ls 4 [(0, .ref b), (1, .ref (adc 0)), (2, .ref (adr 0)), (3, .int x3)] → W p l e room_1 s m #[Value.ref b] below meth c H locs 105 3226 (lw_Z below #[Value.ref b] s) (F0 m 18 ls []) := by
  obtain ⟨hx, hb, hr, hml, hown, hts, hX, hbl, hlocks, hgv⟩ := id C0
  have hbA : ¬ (fun q : Nat => s.heap.size ≤ q) b := Nat.not_le.mpr hbl
  obtain ⟨s0, s1, s2, s3, s4, s5, s6, s7, s8, s9, s10, s11, s12, s13, s14, s15⟩ := hs
  intro n
  induction n with
  | zero =>
    intro i x3 h1 h2
    exact absurd h2 (by omega)
  | succ n ih =>
    intro i x3 hi hn ex3 Mc Mr hrel H locs ls hPc hPr hS hl
    refine lv_iload_n hx hb d_LinkAuditLaw_law_18 rfl (lv_at hl 3 rfl) ?_
    refine lv_aload_n hx hb d_LinkAuditLaw_law_19 rfl (lv_at hl 0 rfl) ?_
    refine va_slen hx hb hX hbl hbA hS d_LinkAuditLaw_law_20 ?_
    refine lv_bipush (v := 6) hx hb d_LinkAuditLaw_law_21 (by decide) ?_
    refine lv_isub hx hb d_LinkAuditLaw_law_23 ?_
    refine lv_icmp_gt (tgt := 692) hx hb d_LinkAuditLaw_law_24 (by decide) (fun c1 => ?_) (fun c1 => ?_)
    · refine lv_iconst (v := 1) hx hb d_LinkAuditLaw_law_692 (by decide) ?_
      refine va_forget (fun q hq => hS.2.2 q hq) ?_
      refine W.widen (k := 600000) (n := 7302250) (Nat.le_of_ble_eq_true rfl) (Nat.le_of_ble_eq_true rfl) ?_
      exact lw_ret hx hb hr hlocks d_LinkAuditLaw_law_693
    · have hi6 : i + 6 ≤ L := xl_le hL hi (by rw [← ex3]; exact c1)
      have kk : ∀ (Nc Nr : Mem), Rel Nc Nr → ∀ (H : Heap) (locs : List Loc) (ls : Array Slot), va_P D vwC (c_ws cI cL cG cZ adc Nc) H → va_P D vwC (r_ws cI cL cG cZ adr Nr) H → va_S (fun q : Nat => s.heap.size ≤ q) s.heap H locs → lv_has ls 4 [(0, .ref b), (1, .ref (adc 0)), (2, .ref (adr 0)), (3, .int x3)] → W p l e room_1 s m #[Value.ref b] below meth c H locs 105 3226 (lw_Z below #[Value.ref b] s) (F0 m 686 ls []) := by
        intro Nc Nr hR H locs ls hPc hPr hS hl
        refine lv_iinc (v := x3 + 6) (lv' := [(3, .int (x3 + 6)), (0, .ref b), (1, .ref (adc 0)), (2, .ref (adr 0))]) hx hb d_LinkAuditLaw_law_686 hl (k := 3) rfl rfl (by decide) rfl (fun ls hl => ?_)
        refine lv_goto (tgt := 18) hx hb d_LinkAuditLaw_law_689 (by decide) ?_
        exact ih (i + 6) (x3 + 6) hi6 (by omega) (by rw [ex3]; exact nI_add i 6) Nc Nr hR H locs ls hPc hPr hS (lv_sub hl [1, 2, 3, 0] rfl)
      have g0 : vp_in x3 L := by rw [ex3]; exact vp_in_nI (by omega) (by omega)
      refine lv_aload_n hx hb d_LinkAuditLaw_law_27 rfl (lv_at hl 0 rfl) ?_
      refine lv_iload_n hx hb d_LinkAuditLaw_law_28 rfl (lv_at hl 3 rfl) ?_
      refine va_sld hx hb hX hbl hbA hS g0 d_LinkAuditLaw_law_29 ?_
      refine lv_bipush (v := 15) hx hb d_LinkAuditLaw_law_30 (by decide) ?_
      refine lv_iand hx hb d_LinkAuditLaw_law_32 ?_
      refine lv_topi (fun op eop => ?_)
      by_cases c0 : op = 0
      · refine lv_tableIn (tgt := 112) hx hb d_LinkAuditLaw_law_33 (by rw [c0]; decide) (by rw [c0]; decide) (by rw [c0]; rfl) (by decide) ?_
        exact law_provide s0 hL C0 hkk hDc hDr hAc hAr hno ex3 hi6 hrel hPc hPr hS hl kk
      by_cases c1 : op = 1
      · refine lv_tableIn (tgt := 145) hx hb d_LinkAuditLaw_law_33 (by rw [c1]; decide) (by rw [c1]; decide) (by rw [c1]; rfl) (by decide) ?_
        exact law_mask s1 hL C0 hkk hDc hDr hAc hAr hno ex3 hi6 hrel hPc hPr hS hl kk
      by_cases c2 : op = 2
      · refine lv_tableIn (tgt := 204) hx hb d_LinkAuditLaw_law_33 (by rw [c2]; decide) (by rw [c2]; decide) (by rw [c2]; rfl) (by decide) ?_
        exact law_define s2 hL C0 hkk hDc hDr hAc hAr hno ex3 hi6 hrel hPc hPr hS hl kk
      by_cases c3 : op = 3
      · refine lv_tableIn (tgt := 267) hx hb d_LinkAuditLaw_law_33 (by rw [c3]; decide) (by rw [c3]; decide) (by rw [c3]; rfl) (by decide) ?_
        exact law_field s3 hL C0 hkk hDc hDr hAc hAr hno ex3 hi6 hrel hPc hPr hS hl kk
      by_cases c4 : op = 4
      · refine lv_tableIn (tgt := 320) hx hb d_LinkAuditLaw_law_33 (by rw [c4]; decide) (by rw [c4]; decide) (by rw [c4]; rfl) (by decide) ?_
        exact law_method s4 hL C0 hkk hDc hDr hAc hAr hno ex3 hi6 hrel hPc hPr hS hl kk
      by_cases c5 : op = 5
      · refine lv_tableIn (tgt := 383) hx hb d_LinkAuditLaw_law_33 (by rw [c5]; decide) (by rw [c5]; decide) (by rw [c5]; rfl) (by decide) ?_
        exact law_reference s5 hL C0 hkk hDc hDr hAc hAr hno ex3 hi6 hrel hPc hPr hS hl kk
      by_cases c6 : op = 6
      · refine lv_tableIn (tgt := 446) hx hb d_LinkAuditLaw_law_33 (by rw [c6]; decide) (by rw [c6]; decide) (by rw [c6]; rfl) (by decide) ?_
        exact law_find s6 hL C0 hkk hDc hDr hAc hAr hno ex3 hi6 hrel hPc hPr hS hl kk
      by_cases c7 : op = 7
      · refine lv_tableIn (tgt := 479) hx hb d_LinkAuditLaw_law_33 (by rw [c7]; decide) (by rw [c7]; decide) (by rw [c7]; rfl) (by decide) ?_
        exact law_load s7 hL C0 hkk hDc hDr hAc hAr hno ex3 hi6 hrel hPc hPr hS hl kk
      by_cases c8 : op = 8
      · refine lv_tableIn (tgt := 502) hx hb d_LinkAuditLaw_law_33 (by rw [c8]; decide) (by rw [c8]; decide) (by rw [c8]; rfl) (by decide) ?_
        exact law_verdict s8 hL C0 hkk hDc hDr hAc hAr hno ex3 hi6 hrel hPc hPr hS hl kk
      by_cases c9 : op = 9
      · refine lv_tableIn (tgt := 525) hx hb d_LinkAuditLaw_law_33 (by rw [c9]; decide) (by rw [c9]; decide) (by rw [c9]; rfl) (by decide) ?_
        exact law_select s9 hL C0 hkk hDc hDr hAc hAr hno ex3 hi6 hrel hPc hPr hS hl kk
      by_cases c10 : op = 10
      · refine lv_tableIn (tgt := 558) hx hb d_LinkAuditLaw_law_33 (by rw [c10]; decide) (by rw [c10]; decide) (by rw [c10]; rfl) (by decide) ?_
        exact law_overrides s10 hL C0 hkk hDc hDr hAc hAr hno ex3 hi6 hrel hPc hPr hS hl kk
      by_cases c11 : op = 11
      · refine lv_tableIn (tgt := 591) hx hb d_LinkAuditLaw_law_33 (by rw [c11]; decide) (by rw [c11]; decide) (by rw [c11]; rfl) (by decide) ?_
        exact law_gaps s11 hL C0 hkk hDc hDr hAc hAr hno ex3 hi6 hrel hPc hPr hS hl kk
      by_cases c12 : op = 12
      · refine lv_tableIn (tgt := 604) hx hb d_LinkAuditLaw_law_33 (by rw [c12]; decide) (by rw [c12]; decide) (by rw [c12]; rfl) (by decide) ?_
        exact law_conflicts s12 hL C0 hkk hDc hDr hAc hAr hno ex3 hi6 hrel hPc hPr hS hl kk
      by_cases c13 : op = 13
      · refine lv_tableIn (tgt := 617) hx hb d_LinkAuditLaw_law_33 (by rw [c13]; decide) (by rw [c13]; decide) (by rw [c13]; rfl) (by decide) ?_
        exact law_conflict s13 hL C0 hkk hDc hDr hAc hAr hno ex3 hi6 hrel hPc hPr hS hl kk
      by_cases c14 : op = 14
      · refine lv_tableIn (tgt := 650) hx hb d_LinkAuditLaw_law_33 (by rw [c14]; decide) (by rw [c14]; decide) (by rw [c14]; rfl) (by decide) ?_
        exact law_faults s14 hL C0 hkk hDc hDr hAc hAr hno ex3 hi6 hrel hPc hPr hS hl kk
      by_cases c15 : op = 15
      · refine lv_tableIn (tgt := 663) hx hb d_LinkAuditLaw_law_33 (by rw [c15]; decide) (by rw [c15]; decide) (by rw [c15]; rfl) (by decide) ?_
        exact law_count s15 hL C0 hkk hDc hDr hAc hAr hno ex3 hi6 hrel hPc hPr hS hl kk
      refine lv_tableOut (tgt := 686) hx hb d_LinkAuditLaw_law_33 (by have := lv_neT (a := 0) c0 rfl; have := lv_neT (a := 1) c1 rfl; have := lv_neT (a := 2) c2 rfl; have := lv_neT (a := 3) c3 rfl; have := lv_neT (a := 4) c4 rfl; have := lv_neT (a := 5) c5 rfl; have := lv_neT (a := 6) c6 rfl; have := lv_neT (a := 7) c7 rfl; have := lv_neT (a := 8) c8 rfl; have := lv_neT (a := 9) c9 rfl; have := lv_neT (a := 10) c10 rfl; have := lv_neT (a := 11) c11 rfl; have := lv_neT (a := 12) c12 rfl; have := lv_neT (a := 13) c13 rfl; have := lv_neT (a := 14) c14 rfl; have := lv_neT (a := 15) c15 rfl; omega) (by decide) ?_
      exact kk Mc Mr hrel H locs ls hPc hPr hS hl
