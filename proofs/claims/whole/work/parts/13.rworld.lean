/-! the cells of the reference: 0 LinkAuditModel; 1 LinkAuditModel.providers; 2 LinkAuditModel.provider; 3 LinkAuditModel.masks; 4 LinkAuditModel.loader; 5 LinkAuditModel.name; 6 LinkAuditModel.flags; 7 LinkAuditModel.superName; 8 LinkAuditModel.interfaceNames; 9 LinkAuditModel.owner; 10 LinkAuditModel.isMethod; 11 LinkAuditModel.called; 12 LinkAuditModel.first; 13 LinkAuditModel.second; 14 LinkAuditModel.access; 15 LinkAuditModel.reference; 16 LinkAuditModel.code; 17 LinkAuditModel.above; 18 LinkAuditModel.faces; 19 LinkAuditModel.line; 20 LinkAuditModel.allFaces; 21 LinkAuditModel.way; 22 LinkAuditModel.step; 23 LinkAuditModel.visit; 24 LinkAuditModel.agree; 25 LinkAuditModel.conflict; 26 LinkAuditModel.cover; 27 LinkAuditModel.chain -/
def r_ws (cI cL cG cZ : ClassId) (ad : Nat → Nat) (M : Mem) : va_W := [
  (ad 0, .inr (10, [.ref (ad 1), .ref (ad 2), .ref (ad 3), .int (M.1 0 3), .ref (ad 4), .ref (ad 5), .ref (ad 6), .ref (ad 7), .ref (ad 8), .int (M.1 0 9), .ref (ad 9), .ref (ad 10), .ref (ad 11), .ref (ad 12), .ref (ad 13), .ref (ad 14), .int (M.1 0 16), .ref (ad 15), .ref (ad 16), .ref (ad 17), .ref (ad 18), .ref (ad 19), .ref (ad 20), .ref (ad 21), .ref (ad 22), .ref (ad 23), .ref (ad 24), .int (M.1 0 27), .ref (ad 25), .ref (ad 26), .ref (ad 27)])),
  (ad 1, .inl (cI, 5, .inl (M.1 1))),
  (ad 2, .inl (cI, 15, .inl (M.1 2))),
  (ad 3, .inl (cI, 5, .inl (M.1 3))),
  (ad 4, .inl (cI, 17, .inl (M.1 4))),
  (ad 5, .inl (cI, 17, .inl (M.1 5))),
  (ad 6, .inl (cI, 17, .inl (M.1 6))),
  (ad 7, .inl (cI, 17, .inl (M.1 7))),
  (ad 8, .inl (cI, 17, .inl (M.1 8))),
  (ad 9, .inl (cI, 41, .inl (M.1 9))),
  (ad 10, .inl (cZ, 41, .inl (M.1 10))),
  (ad 11, .inl (cI, 41, .inl (M.1 11))),
  (ad 12, .inl (cI, 41, .inl (M.1 12))),
  (ad 13, .inl (cI, 41, .inl (M.1 13))),
  (ad 14, .inl (cI, 41, .inl (M.1 14))),
  (ad 15, .inl (cI, 60, .inl (M.1 15))),
  (ad 16, .inl (cI, 17, .inl (M.1 16))),
  (ad 17, .inl (cI, 17, .inl (M.1 17))),
  (ad 18, .inl (cI, 17, .inl (M.1 18))),
  (ad 19, .inl (cI, 17, .inl (M.1 19))),
  (ad 20, .inl (cI, 17, .inl (M.1 20))),
  (ad 21, .inl (cI, 20, .inl (M.1 21))),
  (ad 22, .inl (cI, 20, .inl (M.1 22))),
  (ad 23, .inl (cI, 300, .inl (M.1 23))),
  (ad 24, .inl (cZ, 300, .inl (M.1 24))),
  (ad 25, .inl (cI, 360, .inl (M.1 25))),
  (ad 26, .inl (cZ, 400, .inl (M.1 26))),
  (ad 27, .inl (cI, 20, .inl (M.1 27)))]
def r_A (ad : Nat → Nat) : Nat → Prop := fun q => ∃ k, k < 28 ∧ q = ad k
theorem r_ads (cI cL cG cZ : ClassId) (ad : Nat → Nat) (M : Mem) : (r_ws cI cL cG cZ ad M).map (·.1) = (List.range 28).map ad := rfl
theorem r_D {cI cL cG cZ : ClassId} {ad : Nat → Nat} (h : ∀ i j, i < 28 → j < 28 → ad i = ad j → i = j) (M : Mem) : va_D (r_A ad) (r_ws cI cL cG cZ ad M) := by
  have key : ∀ (k : Nat) (q : Nat × va_E), (r_ws cI cL cG cZ ad M)[k]? = some q → k < 28 ∧ q.1 = ad k := by
    intro k q hq
    have h1 : ((r_ws cI cL cG cZ ad M).map (·.1))[k]? = some q.1 := by rw [List.getElem?_map, hq]; rfl
    rw [r_ads, List.getElem?_map] at h1
    by_cases hk : k < 28
    · rw [List.getElem?_range hk] at h1
      exact ⟨hk, (Option.some.inj h1).symm⟩
    · rw [List.getElem?_eq_none (by rw [List.length_range]; omega)] at h1
      cases h1
  refine ⟨fun i j x y hi hj hxy => ?_, fun k x hx => ?_⟩
  · obtain ⟨h1, h2⟩ := key i x hi
    obtain ⟨h3, h4⟩ := key j y hj
    exact h i j h1 h3 (by rw [← h2, ← h4]; exact hxy)
  · obtain ⟨h1, h2⟩ := key k x hx
    exact ⟨k, h1, h2⟩
theorem r_c0 {cI cL cG cZ : ClassId} {ad : Nat → Nat} {M : Mem} : (r_ws cI cL cG cZ ad M)[0]? = some (ad 0, .inr (10, [.ref (ad 1), .ref (ad 2), .ref (ad 3), .int (M.1 0 3), .ref (ad 4), .ref (ad 5), .ref (ad 6), .ref (ad 7), .ref (ad 8), .int (M.1 0 9), .ref (ad 9), .ref (ad 10), .ref (ad 11), .ref (ad 12), .ref (ad 13), .ref (ad 14), .int (M.1 0 16), .ref (ad 15), .ref (ad 16), .ref (ad 17), .ref (ad 18), .ref (ad 19), .ref (ad 20), .ref (ad 21), .ref (ad 22), .ref (ad 23), .ref (ad 24), .int (M.1 0 27), .ref (ad 25), .ref (ad 26), .ref (ad 27)])) := rfl
theorem r_c1 {cI cL cG cZ : ClassId} {ad : Nat → Nat} {M : Mem} : (r_ws cI cL cG cZ ad M)[1]? = some (ad 1, .inl (cI, 5, .inl (M.1 1))) := rfl
theorem r_s1 {cI cL cG cZ : ClassId} {ad : Nat → Nat} {M : Mem} : ∀ f : Nat → Int32, (r_ws cI cL cG cZ ad M).set 1 (ad 1, .inl (cI, 5, .inl f)) = r_ws cI cL cG cZ ad (w1 M 1 f) := fun _ => rfl
theorem r_c2 {cI cL cG cZ : ClassId} {ad : Nat → Nat} {M : Mem} : (r_ws cI cL cG cZ ad M)[2]? = some (ad 2, .inl (cI, 15, .inl (M.1 2))) := rfl
theorem r_s2 {cI cL cG cZ : ClassId} {ad : Nat → Nat} {M : Mem} : ∀ f : Nat → Int32, (r_ws cI cL cG cZ ad M).set 2 (ad 2, .inl (cI, 15, .inl f)) = r_ws cI cL cG cZ ad (w1 M 2 f) := fun _ => rfl
theorem r_c3 {cI cL cG cZ : ClassId} {ad : Nat → Nat} {M : Mem} : (r_ws cI cL cG cZ ad M)[3]? = some (ad 3, .inl (cI, 5, .inl (M.1 3))) := rfl
theorem r_s3 {cI cL cG cZ : ClassId} {ad : Nat → Nat} {M : Mem} : ∀ f : Nat → Int32, (r_ws cI cL cG cZ ad M).set 3 (ad 3, .inl (cI, 5, .inl f)) = r_ws cI cL cG cZ ad (w1 M 3 f) := fun _ => rfl
theorem r_c4 {cI cL cG cZ : ClassId} {ad : Nat → Nat} {M : Mem} : (r_ws cI cL cG cZ ad M)[4]? = some (ad 4, .inl (cI, 17, .inl (M.1 4))) := rfl
theorem r_s4 {cI cL cG cZ : ClassId} {ad : Nat → Nat} {M : Mem} : ∀ f : Nat → Int32, (r_ws cI cL cG cZ ad M).set 4 (ad 4, .inl (cI, 17, .inl f)) = r_ws cI cL cG cZ ad (w1 M 4 f) := fun _ => rfl
theorem r_c5 {cI cL cG cZ : ClassId} {ad : Nat → Nat} {M : Mem} : (r_ws cI cL cG cZ ad M)[5]? = some (ad 5, .inl (cI, 17, .inl (M.1 5))) := rfl
theorem r_s5 {cI cL cG cZ : ClassId} {ad : Nat → Nat} {M : Mem} : ∀ f : Nat → Int32, (r_ws cI cL cG cZ ad M).set 5 (ad 5, .inl (cI, 17, .inl f)) = r_ws cI cL cG cZ ad (w1 M 5 f) := fun _ => rfl
theorem r_c6 {cI cL cG cZ : ClassId} {ad : Nat → Nat} {M : Mem} : (r_ws cI cL cG cZ ad M)[6]? = some (ad 6, .inl (cI, 17, .inl (M.1 6))) := rfl
theorem r_s6 {cI cL cG cZ : ClassId} {ad : Nat → Nat} {M : Mem} : ∀ f : Nat → Int32, (r_ws cI cL cG cZ ad M).set 6 (ad 6, .inl (cI, 17, .inl f)) = r_ws cI cL cG cZ ad (w1 M 6 f) := fun _ => rfl
theorem r_c7 {cI cL cG cZ : ClassId} {ad : Nat → Nat} {M : Mem} : (r_ws cI cL cG cZ ad M)[7]? = some (ad 7, .inl (cI, 17, .inl (M.1 7))) := rfl
theorem r_s7 {cI cL cG cZ : ClassId} {ad : Nat → Nat} {M : Mem} : ∀ f : Nat → Int32, (r_ws cI cL cG cZ ad M).set 7 (ad 7, .inl (cI, 17, .inl f)) = r_ws cI cL cG cZ ad (w1 M 7 f) := fun _ => rfl
theorem r_c8 {cI cL cG cZ : ClassId} {ad : Nat → Nat} {M : Mem} : (r_ws cI cL cG cZ ad M)[8]? = some (ad 8, .inl (cI, 17, .inl (M.1 8))) := rfl
theorem r_s8 {cI cL cG cZ : ClassId} {ad : Nat → Nat} {M : Mem} : ∀ f : Nat → Int32, (r_ws cI cL cG cZ ad M).set 8 (ad 8, .inl (cI, 17, .inl f)) = r_ws cI cL cG cZ ad (w1 M 8 f) := fun _ => rfl
theorem r_c9 {cI cL cG cZ : ClassId} {ad : Nat → Nat} {M : Mem} : (r_ws cI cL cG cZ ad M)[9]? = some (ad 9, .inl (cI, 41, .inl (M.1 9))) := rfl
theorem r_s9 {cI cL cG cZ : ClassId} {ad : Nat → Nat} {M : Mem} : ∀ f : Nat → Int32, (r_ws cI cL cG cZ ad M).set 9 (ad 9, .inl (cI, 41, .inl f)) = r_ws cI cL cG cZ ad (w1 M 9 f) := fun _ => rfl
theorem r_c10 {cI cL cG cZ : ClassId} {ad : Nat → Nat} {M : Mem} : (r_ws cI cL cG cZ ad M)[10]? = some (ad 10, .inl (cZ, 41, .inl (M.1 10))) := rfl
theorem r_s10 {cI cL cG cZ : ClassId} {ad : Nat → Nat} {M : Mem} : ∀ f : Nat → Int32, (r_ws cI cL cG cZ ad M).set 10 (ad 10, .inl (cZ, 41, .inl f)) = r_ws cI cL cG cZ ad (w1 M 10 f) := fun _ => rfl
theorem r_c11 {cI cL cG cZ : ClassId} {ad : Nat → Nat} {M : Mem} : (r_ws cI cL cG cZ ad M)[11]? = some (ad 11, .inl (cI, 41, .inl (M.1 11))) := rfl
theorem r_s11 {cI cL cG cZ : ClassId} {ad : Nat → Nat} {M : Mem} : ∀ f : Nat → Int32, (r_ws cI cL cG cZ ad M).set 11 (ad 11, .inl (cI, 41, .inl f)) = r_ws cI cL cG cZ ad (w1 M 11 f) := fun _ => rfl
theorem r_c12 {cI cL cG cZ : ClassId} {ad : Nat → Nat} {M : Mem} : (r_ws cI cL cG cZ ad M)[12]? = some (ad 12, .inl (cI, 41, .inl (M.1 12))) := rfl
theorem r_s12 {cI cL cG cZ : ClassId} {ad : Nat → Nat} {M : Mem} : ∀ f : Nat → Int32, (r_ws cI cL cG cZ ad M).set 12 (ad 12, .inl (cI, 41, .inl f)) = r_ws cI cL cG cZ ad (w1 M 12 f) := fun _ => rfl
theorem r_c13 {cI cL cG cZ : ClassId} {ad : Nat → Nat} {M : Mem} : (r_ws cI cL cG cZ ad M)[13]? = some (ad 13, .inl (cI, 41, .inl (M.1 13))) := rfl
theorem r_s13 {cI cL cG cZ : ClassId} {ad : Nat → Nat} {M : Mem} : ∀ f : Nat → Int32, (r_ws cI cL cG cZ ad M).set 13 (ad 13, .inl (cI, 41, .inl f)) = r_ws cI cL cG cZ ad (w1 M 13 f) := fun _ => rfl
theorem r_c14 {cI cL cG cZ : ClassId} {ad : Nat → Nat} {M : Mem} : (r_ws cI cL cG cZ ad M)[14]? = some (ad 14, .inl (cI, 41, .inl (M.1 14))) := rfl
theorem r_s14 {cI cL cG cZ : ClassId} {ad : Nat → Nat} {M : Mem} : ∀ f : Nat → Int32, (r_ws cI cL cG cZ ad M).set 14 (ad 14, .inl (cI, 41, .inl f)) = r_ws cI cL cG cZ ad (w1 M 14 f) := fun _ => rfl
theorem r_c15 {cI cL cG cZ : ClassId} {ad : Nat → Nat} {M : Mem} : (r_ws cI cL cG cZ ad M)[15]? = some (ad 15, .inl (cI, 60, .inl (M.1 15))) := rfl
theorem r_s15 {cI cL cG cZ : ClassId} {ad : Nat → Nat} {M : Mem} : ∀ f : Nat → Int32, (r_ws cI cL cG cZ ad M).set 15 (ad 15, .inl (cI, 60, .inl f)) = r_ws cI cL cG cZ ad (w1 M 15 f) := fun _ => rfl
theorem r_c16 {cI cL cG cZ : ClassId} {ad : Nat → Nat} {M : Mem} : (r_ws cI cL cG cZ ad M)[16]? = some (ad 16, .inl (cI, 17, .inl (M.1 16))) := rfl
theorem r_s16 {cI cL cG cZ : ClassId} {ad : Nat → Nat} {M : Mem} : ∀ f : Nat → Int32, (r_ws cI cL cG cZ ad M).set 16 (ad 16, .inl (cI, 17, .inl f)) = r_ws cI cL cG cZ ad (w1 M 16 f) := fun _ => rfl
theorem r_c17 {cI cL cG cZ : ClassId} {ad : Nat → Nat} {M : Mem} : (r_ws cI cL cG cZ ad M)[17]? = some (ad 17, .inl (cI, 17, .inl (M.1 17))) := rfl
theorem r_s17 {cI cL cG cZ : ClassId} {ad : Nat → Nat} {M : Mem} : ∀ f : Nat → Int32, (r_ws cI cL cG cZ ad M).set 17 (ad 17, .inl (cI, 17, .inl f)) = r_ws cI cL cG cZ ad (w1 M 17 f) := fun _ => rfl
theorem r_c18 {cI cL cG cZ : ClassId} {ad : Nat → Nat} {M : Mem} : (r_ws cI cL cG cZ ad M)[18]? = some (ad 18, .inl (cI, 17, .inl (M.1 18))) := rfl
theorem r_s18 {cI cL cG cZ : ClassId} {ad : Nat → Nat} {M : Mem} : ∀ f : Nat → Int32, (r_ws cI cL cG cZ ad M).set 18 (ad 18, .inl (cI, 17, .inl f)) = r_ws cI cL cG cZ ad (w1 M 18 f) := fun _ => rfl
theorem r_c19 {cI cL cG cZ : ClassId} {ad : Nat → Nat} {M : Mem} : (r_ws cI cL cG cZ ad M)[19]? = some (ad 19, .inl (cI, 17, .inl (M.1 19))) := rfl
theorem r_s19 {cI cL cG cZ : ClassId} {ad : Nat → Nat} {M : Mem} : ∀ f : Nat → Int32, (r_ws cI cL cG cZ ad M).set 19 (ad 19, .inl (cI, 17, .inl f)) = r_ws cI cL cG cZ ad (w1 M 19 f) := fun _ => rfl
theorem r_c20 {cI cL cG cZ : ClassId} {ad : Nat → Nat} {M : Mem} : (r_ws cI cL cG cZ ad M)[20]? = some (ad 20, .inl (cI, 17, .inl (M.1 20))) := rfl
theorem r_s20 {cI cL cG cZ : ClassId} {ad : Nat → Nat} {M : Mem} : ∀ f : Nat → Int32, (r_ws cI cL cG cZ ad M).set 20 (ad 20, .inl (cI, 17, .inl f)) = r_ws cI cL cG cZ ad (w1 M 20 f) := fun _ => rfl
theorem r_c21 {cI cL cG cZ : ClassId} {ad : Nat → Nat} {M : Mem} : (r_ws cI cL cG cZ ad M)[21]? = some (ad 21, .inl (cI, 20, .inl (M.1 21))) := rfl
theorem r_s21 {cI cL cG cZ : ClassId} {ad : Nat → Nat} {M : Mem} : ∀ f : Nat → Int32, (r_ws cI cL cG cZ ad M).set 21 (ad 21, .inl (cI, 20, .inl f)) = r_ws cI cL cG cZ ad (w1 M 21 f) := fun _ => rfl
theorem r_c22 {cI cL cG cZ : ClassId} {ad : Nat → Nat} {M : Mem} : (r_ws cI cL cG cZ ad M)[22]? = some (ad 22, .inl (cI, 20, .inl (M.1 22))) := rfl
theorem r_s22 {cI cL cG cZ : ClassId} {ad : Nat → Nat} {M : Mem} : ∀ f : Nat → Int32, (r_ws cI cL cG cZ ad M).set 22 (ad 22, .inl (cI, 20, .inl f)) = r_ws cI cL cG cZ ad (w1 M 22 f) := fun _ => rfl
theorem r_c23 {cI cL cG cZ : ClassId} {ad : Nat → Nat} {M : Mem} : (r_ws cI cL cG cZ ad M)[23]? = some (ad 23, .inl (cI, 300, .inl (M.1 23))) := rfl
theorem r_s23 {cI cL cG cZ : ClassId} {ad : Nat → Nat} {M : Mem} : ∀ f : Nat → Int32, (r_ws cI cL cG cZ ad M).set 23 (ad 23, .inl (cI, 300, .inl f)) = r_ws cI cL cG cZ ad (w1 M 23 f) := fun _ => rfl
theorem r_c24 {cI cL cG cZ : ClassId} {ad : Nat → Nat} {M : Mem} : (r_ws cI cL cG cZ ad M)[24]? = some (ad 24, .inl (cZ, 300, .inl (M.1 24))) := rfl
theorem r_s24 {cI cL cG cZ : ClassId} {ad : Nat → Nat} {M : Mem} : ∀ f : Nat → Int32, (r_ws cI cL cG cZ ad M).set 24 (ad 24, .inl (cZ, 300, .inl f)) = r_ws cI cL cG cZ ad (w1 M 24 f) := fun _ => rfl
theorem r_c25 {cI cL cG cZ : ClassId} {ad : Nat → Nat} {M : Mem} : (r_ws cI cL cG cZ ad M)[25]? = some (ad 25, .inl (cI, 360, .inl (M.1 25))) := rfl
theorem r_s25 {cI cL cG cZ : ClassId} {ad : Nat → Nat} {M : Mem} : ∀ f : Nat → Int32, (r_ws cI cL cG cZ ad M).set 25 (ad 25, .inl (cI, 360, .inl f)) = r_ws cI cL cG cZ ad (w1 M 25 f) := fun _ => rfl
theorem r_c26 {cI cL cG cZ : ClassId} {ad : Nat → Nat} {M : Mem} : (r_ws cI cL cG cZ ad M)[26]? = some (ad 26, .inl (cZ, 400, .inl (M.1 26))) := rfl
theorem r_s26 {cI cL cG cZ : ClassId} {ad : Nat → Nat} {M : Mem} : ∀ f : Nat → Int32, (r_ws cI cL cG cZ ad M).set 26 (ad 26, .inl (cZ, 400, .inl f)) = r_ws cI cL cG cZ ad (w1 M 26 f) := fun _ => rfl
theorem r_c27 {cI cL cG cZ : ClassId} {ad : Nat → Nat} {M : Mem} : (r_ws cI cL cG cZ ad M)[27]? = some (ad 27, .inl (cI, 20, .inl (M.1 27))) := rfl
theorem r_s27 {cI cL cG cZ : ClassId} {ad : Nat → Nat} {M : Mem} : ∀ f : Nat → Int32, (r_ws cI cL cG cZ ad M).set 27 (ad 27, .inl (cI, 20, .inl f)) = r_ws cI cL cG cZ ad (w1 M 27 f) := fun _ => rfl
