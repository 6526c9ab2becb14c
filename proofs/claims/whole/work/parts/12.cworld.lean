/-! the cells of the class: 0 LinkAudit; 1 LinkAudit$Loaders; 2 LinkAudit$Classes; 3 LinkAudit$Members; 4 LinkAudit$References; 5 LinkAudit$Links; 6 LinkAudit$Inheritance; 7 LinkAudit$Resolver; 8 LinkAudit$Selector; 9 LinkAudit$Agreements; 10 LinkAudit$Loaders.providers; 16 LinkAudit$Loaders.providerCounts; 17 LinkAudit$Loaders.masked; 18 LinkAudit$Loaders.own; 24 LinkAudit$Classes.loaders; 25 LinkAudit$Classes.names; 26 LinkAudit$Classes.flags; 27 LinkAudit$Classes.superNames; 28 LinkAudit$Classes.interfaceNames; 29 LinkAudit$Members.owners; 30 LinkAudit$Members.signatures; 31 LinkAudit$Members.flags; 32 LinkAudit$Members.ofClass; 33 LinkAudit$References.froms; 34 LinkAudit$References.kinds; 35 LinkAudit$References.classNames; 36 LinkAudit$References.signatures; 37 LinkAudit$Links.codes; 38 LinkAudit$Links.chains; 56 LinkAudit$Links.chainLengths; 57 LinkAudit$Links.properSuperclasses; 58 LinkAudit$Links.superinterfaces; 59 LinkAudit$Links.order; 60 LinkAudit$Selector.coveredAbove; 61 LinkAudit$Agreements.groups; 74 LinkAudit$Agreements.names; 75 LinkAudit$Agreements.firsts; 76 LinkAudit$Agreements.seconds -/
def c_ws (cI cL cG cZ : ClassId) (ad : Nat → Nat) (M : Mem) : va_W := [
  (ad 0, .inr (0, [.ref (ad 1), .ref (ad 2), .ref (ad 3), .ref (ad 4), .ref (ad 5), .ref (ad 7), .ref (ad 8), .ref (ad 9), .int (M.1 0 8), .int (M.1 0 9)])),
  (ad 1, .inr (1, [.ref (ad 10), .ref (ad 16), .ref (ad 17), .ref (ad 18)])),
  (ad 2, .inr (2, [.ref (ad 24), .ref (ad 25), .ref (ad 26), .ref (ad 27), .ref (ad 28), .int (M.1 2 5)])),
  (ad 3, .inr (3, [.ref (ad 29), .ref (ad 30), .ref (ad 31), .ref (ad 32), .long (M.2 3 4), .long (M.2 3 5), .int (M.1 3 6)])),
  (ad 4, .inr (4, [.ref (ad 33), .ref (ad 34), .ref (ad 35), .ref (ad 36), .int (M.1 4 4)])),
  (ad 5, .inr (5, [.ref (ad 1), .ref (ad 2), .ref (ad 37), .ref (ad 38), .ref (ad 56), .ref (ad 57), .ref (ad 58), .ref (ad 59), .int (M.1 5 8)])),
  (ad 6, .inr (6, [.ref (ad 5), .ref (ad 3)])),
  (ad 7, .inr (7, [.ref (ad 5), .ref (ad 2), .ref (ad 3), .ref (ad 4), .ref (ad 6), .int (M.1 7 5)])),
  (ad 8, .inr (8, [.ref (ad 5), .ref (ad 2), .ref (ad 3), .ref (ad 6), .ref (ad 60)])),
  (ad 9, .inr (9, [.ref (ad 1), .ref (ad 61), .ref (ad 74), .ref (ad 75), .ref (ad 76), .int (M.1 9 5)])),
  (ad 10, .inl (cG, 5, .inr (.inr (.inr (.inr (fun j => some (ad (11 + j)))))))),
  (ad 11, .inl (cI, 3, .inl (M.1 11))),
  (ad 12, .inl (cI, 3, .inl (M.1 12))),
  (ad 13, .inl (cI, 3, .inl (M.1 13))),
  (ad 14, .inl (cI, 3, .inl (M.1 14))),
  (ad 15, .inl (cI, 3, .inl (M.1 15))),
  (ad 16, .inl (cI, 5, .inl (M.1 16))),
  (ad 17, .inl (cI, 5, .inl (M.1 17))),
  (ad 18, .inl (cG, 5, .inr (.inr (.inr (.inr (fun j => some (ad (19 + j)))))))),
  (ad 19, .inl (cI, 12, .inl (M.1 19))),
  (ad 20, .inl (cI, 12, .inl (M.1 20))),
  (ad 21, .inl (cI, 12, .inl (M.1 21))),
  (ad 22, .inl (cI, 12, .inl (M.1 22))),
  (ad 23, .inl (cI, 12, .inl (M.1 23))),
  (ad 24, .inl (cI, 17, .inl (M.1 24))),
  (ad 25, .inl (cI, 17, .inl (M.1 25))),
  (ad 26, .inl (cI, 17, .inl (M.1 26))),
  (ad 27, .inl (cI, 17, .inl (M.1 27))),
  (ad 28, .inl (cI, 17, .inl (M.1 28))),
  (ad 29, .inl (cI, 41, .inl (M.1 29))),
  (ad 30, .inl (cI, 41, .inl (M.1 30))),
  (ad 31, .inl (cI, 41, .inl (M.1 31))),
  (ad 32, .inl (cL, 17, .inr (.inl (M.2 32)))),
  (ad 33, .inl (cI, 12, .inl (M.1 33))),
  (ad 34, .inl (cI, 12, .inl (M.1 34))),
  (ad 35, .inl (cI, 12, .inl (M.1 35))),
  (ad 36, .inl (cI, 12, .inl (M.1 36))),
  (ad 37, .inl (cI, 17, .inl (M.1 37))),
  (ad 38, .inl (cG, 17, .inr (.inr (.inr (.inr (fun j => some (ad (39 + j)))))))),
  (ad 39, .inl (cI, 16, .inl (M.1 39))),
  (ad 40, .inl (cI, 16, .inl (M.1 40))),
  (ad 41, .inl (cI, 16, .inl (M.1 41))),
  (ad 42, .inl (cI, 16, .inl (M.1 42))),
  (ad 43, .inl (cI, 16, .inl (M.1 43))),
  (ad 44, .inl (cI, 16, .inl (M.1 44))),
  (ad 45, .inl (cI, 16, .inl (M.1 45))),
  (ad 46, .inl (cI, 16, .inl (M.1 46))),
  (ad 47, .inl (cI, 16, .inl (M.1 47))),
  (ad 48, .inl (cI, 16, .inl (M.1 48))),
  (ad 49, .inl (cI, 16, .inl (M.1 49))),
  (ad 50, .inl (cI, 16, .inl (M.1 50))),
  (ad 51, .inl (cI, 16, .inl (M.1 51))),
  (ad 52, .inl (cI, 16, .inl (M.1 52))),
  (ad 53, .inl (cI, 16, .inl (M.1 53))),
  (ad 54, .inl (cI, 16, .inl (M.1 54))),
  (ad 55, .inl (cI, 16, .inl (M.1 55))),
  (ad 56, .inl (cI, 17, .inl (M.1 56))),
  (ad 57, .inl (cI, 17, .inl (M.1 57))),
  (ad 58, .inl (cI, 17, .inl (M.1 58))),
  (ad 59, .inl (cI, 16, .inl (M.1 59))),
  (ad 60, .inl (cL, 41, .inr (.inl (M.2 60)))),
  (ad 61, .inl (cG, 12, .inr (.inr (.inr (.inr (fun j => some (ad (62 + j)))))))),
  (ad 62, .inl (cI, 5, .inl (M.1 62))),
  (ad 63, .inl (cI, 5, .inl (M.1 63))),
  (ad 64, .inl (cI, 5, .inl (M.1 64))),
  (ad 65, .inl (cI, 5, .inl (M.1 65))),
  (ad 66, .inl (cI, 5, .inl (M.1 66))),
  (ad 67, .inl (cI, 5, .inl (M.1 67))),
  (ad 68, .inl (cI, 5, .inl (M.1 68))),
  (ad 69, .inl (cI, 5, .inl (M.1 69))),
  (ad 70, .inl (cI, 5, .inl (M.1 70))),
  (ad 71, .inl (cI, 5, .inl (M.1 71))),
  (ad 72, .inl (cI, 5, .inl (M.1 72))),
  (ad 73, .inl (cI, 5, .inl (M.1 73))),
  (ad 74, .inl (cI, 120, .inl (M.1 74))),
  (ad 75, .inl (cI, 120, .inl (M.1 75))),
  (ad 76, .inl (cI, 120, .inl (M.1 76)))]
def c_A (ad : Nat → Nat) : Nat → Prop := fun q => ∃ k, k < 77 ∧ q = ad k
theorem c_ads (cI cL cG cZ : ClassId) (ad : Nat → Nat) (M : Mem) : (c_ws cI cL cG cZ ad M).map (·.1) = (List.range 77).map ad := rfl
theorem c_D {cI cL cG cZ : ClassId} {ad : Nat → Nat} (h : ∀ i j, i < 77 → j < 77 → ad i = ad j → i = j) (M : Mem) : va_D (c_A ad) (c_ws cI cL cG cZ ad M) := by
  have key : ∀ (k : Nat) (q : Nat × va_E), (c_ws cI cL cG cZ ad M)[k]? = some q → k < 77 ∧ q.1 = ad k := by
    intro k q hq
    have h1 : ((c_ws cI cL cG cZ ad M).map (·.1))[k]? = some q.1 := by rw [List.getElem?_map, hq]; rfl
    rw [c_ads, List.getElem?_map] at h1
    by_cases hk : k < 77
    · rw [List.getElem?_range hk] at h1
      exact ⟨hk, (Option.some.inj h1).symm⟩
    · rw [List.getElem?_eq_none (by rw [List.length_range]; omega)] at h1
      cases h1
  refine ⟨fun i j x y hi hj hxy => ?_, fun k x hx => ?_⟩
  · obtain ⟨h1, h2⟩ := key i x hi
    obtain ⟨h3, h4⟩ := key j y hj
    exact h i j h1 h3 (by rw [← h2, ← h4]; exact hxy)
  · obtain ⟨h1, h2⟩ := key k x hx
    exact ⟨k, h1, h2⟩
theorem c_c0 {cI cL cG cZ : ClassId} {ad : Nat → Nat} {M : Mem} : (c_ws cI cL cG cZ ad M)[0]? = some (ad 0, .inr (0, [.ref (ad 1), .ref (ad 2), .ref (ad 3), .ref (ad 4), .ref (ad 5), .ref (ad 7), .ref (ad 8), .ref (ad 9), .int (M.1 0 8), .int (M.1 0 9)])) := rfl
theorem c_c1 {cI cL cG cZ : ClassId} {ad : Nat → Nat} {M : Mem} : (c_ws cI cL cG cZ ad M)[1]? = some (ad 1, .inr (1, [.ref (ad 10), .ref (ad 16), .ref (ad 17), .ref (ad 18)])) := rfl
theorem c_c2 {cI cL cG cZ : ClassId} {ad : Nat → Nat} {M : Mem} : (c_ws cI cL cG cZ ad M)[2]? = some (ad 2, .inr (2, [.ref (ad 24), .ref (ad 25), .ref (ad 26), .ref (ad 27), .ref (ad 28), .int (M.1 2 5)])) := rfl
theorem c_c3 {cI cL cG cZ : ClassId} {ad : Nat → Nat} {M : Mem} : (c_ws cI cL cG cZ ad M)[3]? = some (ad 3, .inr (3, [.ref (ad 29), .ref (ad 30), .ref (ad 31), .ref (ad 32), .long (M.2 3 4), .long (M.2 3 5), .int (M.1 3 6)])) := rfl
theorem c_c4 {cI cL cG cZ : ClassId} {ad : Nat → Nat} {M : Mem} : (c_ws cI cL cG cZ ad M)[4]? = some (ad 4, .inr (4, [.ref (ad 33), .ref (ad 34), .ref (ad 35), .ref (ad 36), .int (M.1 4 4)])) := rfl
theorem c_c5 {cI cL cG cZ : ClassId} {ad : Nat → Nat} {M : Mem} : (c_ws cI cL cG cZ ad M)[5]? = some (ad 5, .inr (5, [.ref (ad 1), .ref (ad 2), .ref (ad 37), .ref (ad 38), .ref (ad 56), .ref (ad 57), .ref (ad 58), .ref (ad 59), .int (M.1 5 8)])) := rfl
theorem c_c6 {cI cL cG cZ : ClassId} {ad : Nat → Nat} {M : Mem} : (c_ws cI cL cG cZ ad M)[6]? = some (ad 6, .inr (6, [.ref (ad 5), .ref (ad 3)])) := rfl
theorem c_c7 {cI cL cG cZ : ClassId} {ad : Nat → Nat} {M : Mem} : (c_ws cI cL cG cZ ad M)[7]? = some (ad 7, .inr (7, [.ref (ad 5), .ref (ad 2), .ref (ad 3), .ref (ad 4), .ref (ad 6), .int (M.1 7 5)])) := rfl
theorem c_c8 {cI cL cG cZ : ClassId} {ad : Nat → Nat} {M : Mem} : (c_ws cI cL cG cZ ad M)[8]? = some (ad 8, .inr (8, [.ref (ad 5), .ref (ad 2), .ref (ad 3), .ref (ad 6), .ref (ad 60)])) := rfl
theorem c_c9 {cI cL cG cZ : ClassId} {ad : Nat → Nat} {M : Mem} : (c_ws cI cL cG cZ ad M)[9]? = some (ad 9, .inr (9, [.ref (ad 1), .ref (ad 61), .ref (ad 74), .ref (ad 75), .ref (ad 76), .int (M.1 9 5)])) := rfl
theorem c_c10 {cI cL cG cZ : ClassId} {ad : Nat → Nat} {M : Mem} : (c_ws cI cL cG cZ ad M)[10]? = some (ad 10, .inl (cG, 5, .inr (.inr (.inr (.inr (fun j => some (ad (11 + j)))))))) := rfl
theorem c_h11 {cI cL cG cZ : ClassId} {ad : Nat → Nat} {M : Mem} : ∀ n, n < 5 → (c_ws cI cL cG cZ ad M)[11 + n]? = some (ad (11 + n), .inl (cI, 3, .inl (M.1 (11 + n)))) := by
  intro n h
  rcases (by omega : n = 0 ∨ n = 1 ∨ n = 2 ∨ n = 3 ∨ n = 4) with rfl | rfl | rfl | rfl | rfl <;> rfl
theorem c_c11 {cI cL cG cZ : ClassId} {ad : Nat → Nat} {M : Mem} {i : Int32} (h : vp_in i 5) : (c_ws cI cL cG cZ ad M)[11 + i.toNatClampNeg]? = some (ad (11 + i.toNatClampNeg), .inl (cI, 3, .inl (M.1 (11 + i.toNatClampNeg)))) := c_h11 _ (Nat.not_le.mp fun q => h (Or.inr q))
theorem c_g11 {cI cL cG cZ : ClassId} {ad : Nat → Nat} {M : Mem} : ∀ n, n < 5 → ∀ f : Nat → Int32, (c_ws cI cL cG cZ ad M).set (11 + n) (ad (11 + n), .inl (cI, 3, .inl f)) = c_ws cI cL cG cZ ad (w1 M (11 + n) f) := by
  intro n h f
  rcases (by omega : n = 0 ∨ n = 1 ∨ n = 2 ∨ n = 3 ∨ n = 4) with rfl | rfl | rfl | rfl | rfl <;> rfl
theorem c_s11 {cI cL cG cZ : ClassId} {ad : Nat → Nat} {M : Mem} {i : Int32} (h : vp_in i 5) : ∀ f : Nat → Int32, (c_ws cI cL cG cZ ad M).set (11 + i.toNatClampNeg) (ad (11 + i.toNatClampNeg), .inl (cI, 3, .inl f)) = c_ws cI cL cG cZ ad (w1 M (11 + i.toNatClampNeg) f) := c_g11 _ (Nat.not_le.mp fun q => h (Or.inr q))
theorem c_c16 {cI cL cG cZ : ClassId} {ad : Nat → Nat} {M : Mem} : (c_ws cI cL cG cZ ad M)[16]? = some (ad 16, .inl (cI, 5, .inl (M.1 16))) := rfl
theorem c_s16 {cI cL cG cZ : ClassId} {ad : Nat → Nat} {M : Mem} : ∀ f : Nat → Int32, (c_ws cI cL cG cZ ad M).set 16 (ad 16, .inl (cI, 5, .inl f)) = c_ws cI cL cG cZ ad (w1 M 16 f) := fun _ => rfl
theorem c_c17 {cI cL cG cZ : ClassId} {ad : Nat → Nat} {M : Mem} : (c_ws cI cL cG cZ ad M)[17]? = some (ad 17, .inl (cI, 5, .inl (M.1 17))) := rfl
theorem c_s17 {cI cL cG cZ : ClassId} {ad : Nat → Nat} {M : Mem} : ∀ f : Nat → Int32, (c_ws cI cL cG cZ ad M).set 17 (ad 17, .inl (cI, 5, .inl f)) = c_ws cI cL cG cZ ad (w1 M 17 f) := fun _ => rfl
theorem c_c18 {cI cL cG cZ : ClassId} {ad : Nat → Nat} {M : Mem} : (c_ws cI cL cG cZ ad M)[18]? = some (ad 18, .inl (cG, 5, .inr (.inr (.inr (.inr (fun j => some (ad (19 + j)))))))) := rfl
theorem c_h19 {cI cL cG cZ : ClassId} {ad : Nat → Nat} {M : Mem} : ∀ n, n < 5 → (c_ws cI cL cG cZ ad M)[19 + n]? = some (ad (19 + n), .inl (cI, 12, .inl (M.1 (19 + n)))) := by
  intro n h
  rcases (by omega : n = 0 ∨ n = 1 ∨ n = 2 ∨ n = 3 ∨ n = 4) with rfl | rfl | rfl | rfl | rfl <;> rfl
theorem c_c19 {cI cL cG cZ : ClassId} {ad : Nat → Nat} {M : Mem} {i : Int32} (h : vp_in i 5) : (c_ws cI cL cG cZ ad M)[19 + i.toNatClampNeg]? = some (ad (19 + i.toNatClampNeg), .inl (cI, 12, .inl (M.1 (19 + i.toNatClampNeg)))) := c_h19 _ (Nat.not_le.mp fun q => h (Or.inr q))
theorem c_g19 {cI cL cG cZ : ClassId} {ad : Nat → Nat} {M : Mem} : ∀ n, n < 5 → ∀ f : Nat → Int32, (c_ws cI cL cG cZ ad M).set (19 + n) (ad (19 + n), .inl (cI, 12, .inl f)) = c_ws cI cL cG cZ ad (w1 M (19 + n) f) := by
  intro n h f
  rcases (by omega : n = 0 ∨ n = 1 ∨ n = 2 ∨ n = 3 ∨ n = 4) with rfl | rfl | rfl | rfl | rfl <;> rfl
theorem c_s19 {cI cL cG cZ : ClassId} {ad : Nat → Nat} {M : Mem} {i : Int32} (h : vp_in i 5) : ∀ f : Nat → Int32, (c_ws cI cL cG cZ ad M).set (19 + i.toNatClampNeg) (ad (19 + i.toNatClampNeg), .inl (cI, 12, .inl f)) = c_ws cI cL cG cZ ad (w1 M (19 + i.toNatClampNeg) f) := c_g19 _ (Nat.not_le.mp fun q => h (Or.inr q))
theorem c_c24 {cI cL cG cZ : ClassId} {ad : Nat → Nat} {M : Mem} : (c_ws cI cL cG cZ ad M)[24]? = some (ad 24, .inl (cI, 17, .inl (M.1 24))) := rfl
theorem c_s24 {cI cL cG cZ : ClassId} {ad : Nat → Nat} {M : Mem} : ∀ f : Nat → Int32, (c_ws cI cL cG cZ ad M).set 24 (ad 24, .inl (cI, 17, .inl f)) = c_ws cI cL cG cZ ad (w1 M 24 f) := fun _ => rfl
theorem c_c25 {cI cL cG cZ : ClassId} {ad : Nat → Nat} {M : Mem} : (c_ws cI cL cG cZ ad M)[25]? = some (ad 25, .inl (cI, 17, .inl (M.1 25))) := rfl
theorem c_s25 {cI cL cG cZ : ClassId} {ad : Nat → Nat} {M : Mem} : ∀ f : Nat → Int32, (c_ws cI cL cG cZ ad M).set 25 (ad 25, .inl (cI, 17, .inl f)) = c_ws cI cL cG cZ ad (w1 M 25 f) := fun _ => rfl
theorem c_c26 {cI cL cG cZ : ClassId} {ad : Nat → Nat} {M : Mem} : (c_ws cI cL cG cZ ad M)[26]? = some (ad 26, .inl (cI, 17, .inl (M.1 26))) := rfl
theorem c_s26 {cI cL cG cZ : ClassId} {ad : Nat → Nat} {M : Mem} : ∀ f : Nat → Int32, (c_ws cI cL cG cZ ad M).set 26 (ad 26, .inl (cI, 17, .inl f)) = c_ws cI cL cG cZ ad (w1 M 26 f) := fun _ => rfl
theorem c_c27 {cI cL cG cZ : ClassId} {ad : Nat → Nat} {M : Mem} : (c_ws cI cL cG cZ ad M)[27]? = some (ad 27, .inl (cI, 17, .inl (M.1 27))) := rfl
theorem c_s27 {cI cL cG cZ : ClassId} {ad : Nat → Nat} {M : Mem} : ∀ f : Nat → Int32, (c_ws cI cL cG cZ ad M).set 27 (ad 27, .inl (cI, 17, .inl f)) = c_ws cI cL cG cZ ad (w1 M 27 f) := fun _ => rfl
theorem c_c28 {cI cL cG cZ : ClassId} {ad : Nat → Nat} {M : Mem} : (c_ws cI cL cG cZ ad M)[28]? = some (ad 28, .inl (cI, 17, .inl (M.1 28))) := rfl
theorem c_s28 {cI cL cG cZ : ClassId} {ad : Nat → Nat} {M : Mem} : ∀ f : Nat → Int32, (c_ws cI cL cG cZ ad M).set 28 (ad 28, .inl (cI, 17, .inl f)) = c_ws cI cL cG cZ ad (w1 M 28 f) := fun _ => rfl
theorem c_c29 {cI cL cG cZ : ClassId} {ad : Nat → Nat} {M : Mem} : (c_ws cI cL cG cZ ad M)[29]? = some (ad 29, .inl (cI, 41, .inl (M.1 29))) := rfl
theorem c_s29 {cI cL cG cZ : ClassId} {ad : Nat → Nat} {M : Mem} : ∀ f : Nat → Int32, (c_ws cI cL cG cZ ad M).set 29 (ad 29, .inl (cI, 41, .inl f)) = c_ws cI cL cG cZ ad (w1 M 29 f) := fun _ => rfl
theorem c_c30 {cI cL cG cZ : ClassId} {ad : Nat → Nat} {M : Mem} : (c_ws cI cL cG cZ ad M)[30]? = some (ad 30, .inl (cI, 41, .inl (M.1 30))) := rfl
theorem c_s30 {cI cL cG cZ : ClassId} {ad : Nat → Nat} {M : Mem} : ∀ f : Nat → Int32, (c_ws cI cL cG cZ ad M).set 30 (ad 30, .inl (cI, 41, .inl f)) = c_ws cI cL cG cZ ad (w1 M 30 f) := fun _ => rfl
theorem c_c31 {cI cL cG cZ : ClassId} {ad : Nat → Nat} {M : Mem} : (c_ws cI cL cG cZ ad M)[31]? = some (ad 31, .inl (cI, 41, .inl (M.1 31))) := rfl
theorem c_s31 {cI cL cG cZ : ClassId} {ad : Nat → Nat} {M : Mem} : ∀ f : Nat → Int32, (c_ws cI cL cG cZ ad M).set 31 (ad 31, .inl (cI, 41, .inl f)) = c_ws cI cL cG cZ ad (w1 M 31 f) := fun _ => rfl
theorem c_c32 {cI cL cG cZ : ClassId} {ad : Nat → Nat} {M : Mem} : (c_ws cI cL cG cZ ad M)[32]? = some (ad 32, .inl (cL, 17, .inr (.inl (M.2 32)))) := rfl
theorem c_s32 {cI cL cG cZ : ClassId} {ad : Nat → Nat} {M : Mem} : ∀ f : Nat → Int64, (c_ws cI cL cG cZ ad M).set 32 (ad 32, .inl (cL, 17, .inr (.inl f))) = c_ws cI cL cG cZ ad (w2 M 32 f) := fun _ => rfl
theorem c_c33 {cI cL cG cZ : ClassId} {ad : Nat → Nat} {M : Mem} : (c_ws cI cL cG cZ ad M)[33]? = some (ad 33, .inl (cI, 12, .inl (M.1 33))) := rfl
theorem c_s33 {cI cL cG cZ : ClassId} {ad : Nat → Nat} {M : Mem} : ∀ f : Nat → Int32, (c_ws cI cL cG cZ ad M).set 33 (ad 33, .inl (cI, 12, .inl f)) = c_ws cI cL cG cZ ad (w1 M 33 f) := fun _ => rfl
theorem c_c34 {cI cL cG cZ : ClassId} {ad : Nat → Nat} {M : Mem} : (c_ws cI cL cG cZ ad M)[34]? = some (ad 34, .inl (cI, 12, .inl (M.1 34))) := rfl
theorem c_s34 {cI cL cG cZ : ClassId} {ad : Nat → Nat} {M : Mem} : ∀ f : Nat → Int32, (c_ws cI cL cG cZ ad M).set 34 (ad 34, .inl (cI, 12, .inl f)) = c_ws cI cL cG cZ ad (w1 M 34 f) := fun _ => rfl
theorem c_c35 {cI cL cG cZ : ClassId} {ad : Nat → Nat} {M : Mem} : (c_ws cI cL cG cZ ad M)[35]? = some (ad 35, .inl (cI, 12, .inl (M.1 35))) := rfl
theorem c_s35 {cI cL cG cZ : ClassId} {ad : Nat → Nat} {M : Mem} : ∀ f : Nat → Int32, (c_ws cI cL cG cZ ad M).set 35 (ad 35, .inl (cI, 12, .inl f)) = c_ws cI cL cG cZ ad (w1 M 35 f) := fun _ => rfl
theorem c_c36 {cI cL cG cZ : ClassId} {ad : Nat → Nat} {M : Mem} : (c_ws cI cL cG cZ ad M)[36]? = some (ad 36, .inl (cI, 12, .inl (M.1 36))) := rfl
theorem c_s36 {cI cL cG cZ : ClassId} {ad : Nat → Nat} {M : Mem} : ∀ f : Nat → Int32, (c_ws cI cL cG cZ ad M).set 36 (ad 36, .inl (cI, 12, .inl f)) = c_ws cI cL cG cZ ad (w1 M 36 f) := fun _ => rfl
theorem c_c37 {cI cL cG cZ : ClassId} {ad : Nat → Nat} {M : Mem} : (c_ws cI cL cG cZ ad M)[37]? = some (ad 37, .inl (cI, 17, .inl (M.1 37))) := rfl
theorem c_s37 {cI cL cG cZ : ClassId} {ad : Nat → Nat} {M : Mem} : ∀ f : Nat → Int32, (c_ws cI cL cG cZ ad M).set 37 (ad 37, .inl (cI, 17, .inl f)) = c_ws cI cL cG cZ ad (w1 M 37 f) := fun _ => rfl
theorem c_c38 {cI cL cG cZ : ClassId} {ad : Nat → Nat} {M : Mem} : (c_ws cI cL cG cZ ad M)[38]? = some (ad 38, .inl (cG, 17, .inr (.inr (.inr (.inr (fun j => some (ad (39 + j)))))))) := rfl
theorem c_h39 {cI cL cG cZ : ClassId} {ad : Nat → Nat} {M : Mem} : ∀ n, n < 17 → (c_ws cI cL cG cZ ad M)[39 + n]? = some (ad (39 + n), .inl (cI, 16, .inl (M.1 (39 + n)))) := by
  intro n h
  rcases (by omega : n = 0 ∨ n = 1 ∨ n = 2 ∨ n = 3 ∨ n = 4 ∨ n = 5 ∨ n = 6 ∨ n = 7 ∨ n = 8 ∨ n = 9 ∨ n = 10 ∨ n = 11 ∨ n = 12 ∨ n = 13 ∨ n = 14 ∨ n = 15 ∨ n = 16) with rfl | rfl | rfl | rfl | rfl | rfl | rfl | rfl | rfl | rfl | rfl | rfl | rfl | rfl | rfl | rfl | rfl <;> rfl
theorem c_c39 {cI cL cG cZ : ClassId} {ad : Nat → Nat} {M : Mem} {i : Int32} (h : vp_in i 17) : (c_ws cI cL cG cZ ad M)[39 + i.toNatClampNeg]? = some (ad (39 + i.toNatClampNeg), .inl (cI, 16, .inl (M.1 (39 + i.toNatClampNeg)))) := c_h39 _ (Nat.not_le.mp fun q => h (Or.inr q))
theorem c_g39 {cI cL cG cZ : ClassId} {ad : Nat → Nat} {M : Mem} : ∀ n, n < 17 → ∀ f : Nat → Int32, (c_ws cI cL cG cZ ad M).set (39 + n) (ad (39 + n), .inl (cI, 16, .inl f)) = c_ws cI cL cG cZ ad (w1 M (39 + n) f) := by
  intro n h f
  rcases (by omega : n = 0 ∨ n = 1 ∨ n = 2 ∨ n = 3 ∨ n = 4 ∨ n = 5 ∨ n = 6 ∨ n = 7 ∨ n = 8 ∨ n = 9 ∨ n = 10 ∨ n = 11 ∨ n = 12 ∨ n = 13 ∨ n = 14 ∨ n = 15 ∨ n = 16) with rfl | rfl | rfl | rfl | rfl | rfl | rfl | rfl | rfl | rfl | rfl | rfl | rfl | rfl | rfl | rfl | rfl <;> rfl
theorem c_s39 {cI cL cG cZ : ClassId} {ad : Nat → Nat} {M : Mem} {i : Int32} (h : vp_in i 17) : ∀ f : Nat → Int32, (c_ws cI cL cG cZ ad M).set (39 + i.toNatClampNeg) (ad (39 + i.toNatClampNeg), .inl (cI, 16, .inl f)) = c_ws cI cL cG cZ ad (w1 M (39 + i.toNatClampNeg) f) := c_g39 _ (Nat.not_le.mp fun q => h (Or.inr q))
theorem c_c56 {cI cL cG cZ : ClassId} {ad : Nat → Nat} {M : Mem} : (c_ws cI cL cG cZ ad M)[56]? = some (ad 56, .inl (cI, 17, .inl (M.1 56))) := rfl
theorem c_s56 {cI cL cG cZ : ClassId} {ad : Nat → Nat} {M : Mem} : ∀ f : Nat → Int32, (c_ws cI cL cG cZ ad M).set 56 (ad 56, .inl (cI, 17, .inl f)) = c_ws cI cL cG cZ ad (w1 M 56 f) := fun _ => rfl
theorem c_c57 {cI cL cG cZ : ClassId} {ad : Nat → Nat} {M : Mem} : (c_ws cI cL cG cZ ad M)[57]? = some (ad 57, .inl (cI, 17, .inl (M.1 57))) := rfl
theorem c_s57 {cI cL cG cZ : ClassId} {ad : Nat → Nat} {M : Mem} : ∀ f : Nat → Int32, (c_ws cI cL cG cZ ad M).set 57 (ad 57, .inl (cI, 17, .inl f)) = c_ws cI cL cG cZ ad (w1 M 57 f) := fun _ => rfl
theorem c_c58 {cI cL cG cZ : ClassId} {ad : Nat → Nat} {M : Mem} : (c_ws cI cL cG cZ ad M)[58]? = some (ad 58, .inl (cI, 17, .inl (M.1 58))) := rfl
theorem c_s58 {cI cL cG cZ : ClassId} {ad : Nat → Nat} {M : Mem} : ∀ f : Nat → Int32, (c_ws cI cL cG cZ ad M).set 58 (ad 58, .inl (cI, 17, .inl f)) = c_ws cI cL cG cZ ad (w1 M 58 f) := fun _ => rfl
theorem c_c59 {cI cL cG cZ : ClassId} {ad : Nat → Nat} {M : Mem} : (c_ws cI cL cG cZ ad M)[59]? = some (ad 59, .inl (cI, 16, .inl (M.1 59))) := rfl
theorem c_s59 {cI cL cG cZ : ClassId} {ad : Nat → Nat} {M : Mem} : ∀ f : Nat → Int32, (c_ws cI cL cG cZ ad M).set 59 (ad 59, .inl (cI, 16, .inl f)) = c_ws cI cL cG cZ ad (w1 M 59 f) := fun _ => rfl
theorem c_c60 {cI cL cG cZ : ClassId} {ad : Nat → Nat} {M : Mem} : (c_ws cI cL cG cZ ad M)[60]? = some (ad 60, .inl (cL, 41, .inr (.inl (M.2 60)))) := rfl
theorem c_s60 {cI cL cG cZ : ClassId} {ad : Nat → Nat} {M : Mem} : ∀ f : Nat → Int64, (c_ws cI cL cG cZ ad M).set 60 (ad 60, .inl (cL, 41, .inr (.inl f))) = c_ws cI cL cG cZ ad (w2 M 60 f) := fun _ => rfl
theorem c_c61 {cI cL cG cZ : ClassId} {ad : Nat → Nat} {M : Mem} : (c_ws cI cL cG cZ ad M)[61]? = some (ad 61, .inl (cG, 12, .inr (.inr (.inr (.inr (fun j => some (ad (62 + j)))))))) := rfl
theorem c_h62 {cI cL cG cZ : ClassId} {ad : Nat → Nat} {M : Mem} : ∀ n, n < 12 → (c_ws cI cL cG cZ ad M)[62 + n]? = some (ad (62 + n), .inl (cI, 5, .inl (M.1 (62 + n)))) := by
  intro n h
  rcases (by omega : n = 0 ∨ n = 1 ∨ n = 2 ∨ n = 3 ∨ n = 4 ∨ n = 5 ∨ n = 6 ∨ n = 7 ∨ n = 8 ∨ n = 9 ∨ n = 10 ∨ n = 11) with rfl | rfl | rfl | rfl | rfl | rfl | rfl | rfl | rfl | rfl | rfl | rfl <;> rfl
theorem c_c62 {cI cL cG cZ : ClassId} {ad : Nat → Nat} {M : Mem} {i : Int32} (h : vp_in i 12) : (c_ws cI cL cG cZ ad M)[62 + i.toNatClampNeg]? = some (ad (62 + i.toNatClampNeg), .inl (cI, 5, .inl (M.1 (62 + i.toNatClampNeg)))) := c_h62 _ (Nat.not_le.mp fun q => h (Or.inr q))
theorem c_g62 {cI cL cG cZ : ClassId} {ad : Nat → Nat} {M : Mem} : ∀ n, n < 12 → ∀ f : Nat → Int32, (c_ws cI cL cG cZ ad M).set (62 + n) (ad (62 + n), .inl (cI, 5, .inl f)) = c_ws cI cL cG cZ ad (w1 M (62 + n) f) := by
  intro n h f
  rcases (by omega : n = 0 ∨ n = 1 ∨ n = 2 ∨ n = 3 ∨ n = 4 ∨ n = 5 ∨ n = 6 ∨ n = 7 ∨ n = 8 ∨ n = 9 ∨ n = 10 ∨ n = 11) with rfl | rfl | rfl | rfl | rfl | rfl | rfl | rfl | rfl | rfl | rfl | rfl <;> rfl
theorem c_s62 {cI cL cG cZ : ClassId} {ad : Nat → Nat} {M : Mem} {i : Int32} (h : vp_in i 12) : ∀ f : Nat → Int32, (c_ws cI cL cG cZ ad M).set (62 + i.toNatClampNeg) (ad (62 + i.toNatClampNeg), .inl (cI, 5, .inl f)) = c_ws cI cL cG cZ ad (w1 M (62 + i.toNatClampNeg) f) := c_g62 _ (Nat.not_le.mp fun q => h (Or.inr q))
theorem c_c74 {cI cL cG cZ : ClassId} {ad : Nat → Nat} {M : Mem} : (c_ws cI cL cG cZ ad M)[74]? = some (ad 74, .inl (cI, 120, .inl (M.1 74))) := rfl
theorem c_s74 {cI cL cG cZ : ClassId} {ad : Nat → Nat} {M : Mem} : ∀ f : Nat → Int32, (c_ws cI cL cG cZ ad M).set 74 (ad 74, .inl (cI, 120, .inl f)) = c_ws cI cL cG cZ ad (w1 M 74 f) := fun _ => rfl
theorem c_c75 {cI cL cG cZ : ClassId} {ad : Nat → Nat} {M : Mem} : (c_ws cI cL cG cZ ad M)[75]? = some (ad 75, .inl (cI, 120, .inl (M.1 75))) := rfl
theorem c_s75 {cI cL cG cZ : ClassId} {ad : Nat → Nat} {M : Mem} : ∀ f : Nat → Int32, (c_ws cI cL cG cZ ad M).set 75 (ad 75, .inl (cI, 120, .inl f)) = c_ws cI cL cG cZ ad (w1 M 75 f) := fun _ => rfl
theorem c_c76 {cI cL cG cZ : ClassId} {ad : Nat → Nat} {M : Mem} : (c_ws cI cL cG cZ ad M)[76]? = some (ad 76, .inl (cI, 120, .inl (M.1 76))) := rfl
theorem c_s76 {cI cL cG cZ : ClassId} {ad : Nat → Nat} {M : Mem} : ∀ f : Nat → Int32, (c_ws cI cL cG cZ ad M).set 76 (ad 76, .inl (cI, 120, .inl f)) = c_ws cI cL cG cZ ad (w1 M 76 f) := fun _ => rfl
