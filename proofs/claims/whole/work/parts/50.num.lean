/-! PURE: small numbers, guards, memory -/
theorem n_cl {a : Nat} (h : a < 1000000) : (nI a).toNatClampNeg = a := nI_clamp (by omega)
theorem n_lt {a b : Nat} (ha : a < 1000000) (hb : b < 1000000) : (nI a < nI b) = (a < b) := propext (nI_ltI (by omega) (by omega))
theorem n_le {a b : Nat} (ha : a < 1000000) (hb : b < 1000000) : (nI a ≤ nI b) = (a ≤ b) := propext (nI_leI (by omega) (by omega))
theorem n_eq {a b : Nat} (ha : a < 1000000) (hb : b < 1000000) : (nI a = nI b) = (a = b) := propext (nI_eq (by omega) (by omega))
theorem n_ok {k n : Nat} (h : k < n) (hn : n < 1000000) : ok (nI k) n = true := decide_eq_true (vp_in_nI h (by omega))
theorem gd_t {α : Type} {x : Option α} : gd true x = x := rfl
theorem bd1_s {α β : Type} {a : α} {k : α → Option β} : bd1 (some a) k = k a := rfl
theorem bd2_s {α β γ : Type} {a : α} {b : β} {k : α → β → Option γ} : bd2 (some (a, b)) k = k a b := rfl
theorem sm_s {α β : Type} {x : α} {k : α → β} : sm x k = k x := rfl
theorem gd_n {α : Type} {k n : Nat} {x : Option α} (h : k < n) (hn : n < 1000000) : gd (ok (nI k) n) x = x := by rw [n_ok h hn]; rfl
theorem gd_p {α : Type} {p : Prop} [Decidable p] {x : Option α} (h : p) : gd (decide p) x = x := by rw [decide_eq_true h]; rfl
theorem l0 : (0 : Int32) = nI 0 := rfl
theorem l1 : (1 : Int32) = nI 1 := rfl
theorem l2 : (2 : Int32) = nI 2 := rfl
theorem l3 : (3 : Int32) = nI 3 := rfl
theorem l4 : (4 : Int32) = nI 4 := rfl
theorem l5 : (5 : Int32) = nI 5 := rfl
theorem l7 : (7 : Int32) = nI 7 := rfl
theorem l8 : (8 : Int32) = nI 8 := rfl
theorem l10 : (10 : Int32) = nI 10 := rfl
theorem l11 : (11 : Int32) = nI 11 := rfl
theorem l12 : (12 : Int32) = nI 12 := rfl
theorem l13 : (13 : Int32) = nI 13 := rfl
theorem l15 : (15 : Int32) = nI 15 := rfl
theorem l16 : (16 : Int32) = nI 16 := rfl
theorem l20 : (20 : Int32) = nI 20 := rfl
theorem l23 : (23 : Int32) = nI 23 := rfl
theorem l24 : (24 : Int32) = nI 24 := rfl
theorem l25 : (25 : Int32) = nI 25 := rfl
theorem l40 : (40 : Int32) = nI 40 := rfl
theorem l4095 : (4095 : Int32) = nI 4095 := rfl
theorem l4096 : (4096 : Int32) = nI 4096 := rfl
theorem n_add (a b : Nat) : nI a + nI b = nI (a + b) := nI_add a b
theorem n_mul (a b : Nat) : nI a * nI b = nI (a * b) := pk_mul a b
theorem n_div {a d : Nat} (ha : a < 1000000) (h0 : 0 < d) (hd : d < 1000000) : nI a / nI d = nI (a / d) := pk_div (by omega) h0 (by omega)
theorem n_rem {a d : Nat} (ha : a < 1000000) (h0 : 0 < d) (hd : d < 1000000) : nI a - nI a / nI d * nI d = nI (a % d) := pk_rem (by omega) h0 (by omega)
theorem n_sub {a b : Nat} (h : b ≤ a) : nI a - nI b = nI (a - b) := pk_sub h
theorem n_and (a b : Nat) : nI a &&& nI b = nI (a &&& b) := Int32.toBitVec_inj.mp (by
  show BitVec.ofNat 32 a &&& BitVec.ofNat 32 b = BitVec.ofNat 32 (a &&& b)
  apply BitVec.eq_of_getLsbD_eq
  intro i hi
  simp [hi])
theorem n_or (a b : Nat) : nI a ||| nI b = nI (a ||| b) := Int32.toBitVec_inj.mp (by
  show BitVec.ofNat 32 a ||| BitVec.ofNat 32 b = BitVec.ofNat 32 (a ||| b)
  apply BitVec.eq_of_getLsbD_eq
  intro i hi
  simp [hi])
/-- any argument: negative, or a small number, or large -/
theorem n_of {x : Int32} (h : ¬ x < 0) : ∃ a : Nat, a < 2 ^ 31 ∧ x = nI a := nI_of h
theorem FU_s {r : Nat} (h : r < 10 ^ 30) : ∃ n, FU = n + 1 + r := ⟨FU - 1 - r, by unfold FU; omega⟩
theorem u1_ne {M : Mem} {k k' i : Nat} {x : Int32} (h : k' ≠ k) : (u1 M k i x).1 k' = M.1 k' := by
  unfold u1 w1
  exact if_neg h
theorem u1_eq {M : Mem} {k i j : Nat} {x : Int32} : (u1 M k i x).1 k j = if j = i then x else M.1 k j := by
  unfold u1 w1
  show (if k = k then upd (M.1 k) i x else M.1 k) j = _
  rw [if_pos rfl]
  rfl
theorem u1_2 {M : Mem} {k i : Nat} {x : Int32} : (u1 M k i x).2 = M.2 := rfl
theorem u2_1 {M : Mem} {k i : Nat} {x : Int64} : (u2 M k i x).1 = M.1 := rfl
theorem u2_ne {M : Mem} {k k' i : Nat} {x : Int64} (h : k' ≠ k) : (u2 M k i x).2 k' = M.2 k' := by
  unfold u2 w2
  exact if_neg h
theorem u2_eq {M : Mem} {k i j : Nat} {x : Int64} : (u2 M k i x).2 k j = if j = i then x else M.2 k j := by
  unfold u2 w2
  show (if k = k then vp_updL (M.2 k) i x else M.2 k) j = _
  rw [if_pos rfl]
  rfl
/-! bits -/
theorem b_c : ∀ k, k < 64 → ((nI k).toInt64 &&& 63) = lN k := by decide +kernel
theorem b_c32 : ∀ k, k < 32 → (nI k &&& 31) = nI k := by decide +kernel
theorem b_sm : ∀ k, k < 64 → (BitVec.ofNat 64 k).smod 64 = BitVec.ofNat 64 k := by decide +kernel
theorem b_sm32 : ∀ k, k < 32 → (BitVec.ofNat 32 k).smod 32 = BitVec.ofNat 32 k := by decide +kernel
abbrev tb (x : Int64) (i : Nat) : Bool := x.toBitVec.getLsbD i
theorem ssr0 (v : BitVec 64) {i : Nat} (hi : i < 64) : (v.sshiftRight i).getLsbD 0 = v.getLsbD i := by
  rw [BitVec.getLsbD_sshiftRight]
  simp [hi]
theorem hb_iff (x : Int64) {i : Nat} (hi : i < 64) : ((x >>> ((nI i).toInt64 &&& 63)) &&& 1 = 0) ↔ tb x i = false := by
  rw [b_c i hi]
  have h1 : (x >>> lN i).toBitVec = x.toBitVec.sshiftRight i := by
    show x.toBitVec.sshiftRight' ((BitVec.ofNat 64 i).smod 64) = _
    rw [b_sm i hi]
    show x.toBitVec.sshiftRight (BitVec.ofNat 64 i).toNat = _
    rw [BitVec.toNat_ofNat, Nat.mod_eq_of_lt (by omega)]
  constructor
  · intro h
    have h2 : ((x >>> lN i) &&& 1).toBitVec = 0#64 := by rw [h]; rfl
    have h3 : (x.toBitVec.sshiftRight i &&& 1#64).getLsbD 0 = false := by
      rw [← h1]
      show ((x >>> lN i) &&& 1).toBitVec.getLsbD 0 = false
      rw [h2]
      rfl
    rw [BitVec.getLsbD_and, ssr0 _ hi] at h3
    simpa using h3
  · intro h
    refine Int64.toBitVec_inj.mp ?_
    show (x >>> lN i).toBitVec &&& 1#64 = 0#64
    rw [h1]
    apply BitVec.eq_of_getLsbD_eq
    intro j hj
    by_cases e : j = 0
    · subst e
      rw [BitVec.getLsbD_and, ssr0 _ hi, show x.toBitVec.getLsbD i = false from h]
      rfl
    · have : (1#64).getLsbD j = false := by simp [BitVec.getLsbD_one, e]
      simp [this]
theorem cmp0 {x y : Int64} : lg_cmp x y = 0 ↔ x = y := by
  unfold lg_cmp
  by_cases h : x > y
  · rw [if_pos h]
    exact ⟨fun q => absurd q (by decide), fun q => absurd h (by rw [q]; exact fun z => Int64.lt_irrefl z)⟩
  · rw [if_neg h]
    by_cases e : x = y
    · rw [if_pos e]; exact ⟨fun _ => e, fun _ => rfl⟩
    · rw [if_neg e]; exact ⟨fun q => absurd q (by decide), fun q => absurd q e⟩
theorem f_hasBit (x : Int64) {i : Nat} (hi : i < 64) : f_LinkAudit_hasBit x (nI i) = some (if tb x i = true then 1 else 0) := by
  unfold f_LinkAudit_hasBit
  by_cases h : tb x i = true
  · rw [if_neg, if_pos h]
    rw [cmp0, hb_iff x hi, h]
    decide
  · rw [if_pos, if_neg h]
    rw [cmp0, hb_iff x hi]
    simpa using h
theorem tb_n {a i : Nat} (ha : a < 2 ^ 31) (hi : i < 64) : tb (nI a).toInt64 i = a.testBit i := by
  show (nI a).toInt64.toBitVec.getLsbD i = _
  rw [nI_l ha]
  show (BitVec.ofNat 64 a).getLsbD i = _
  rw [BitVec.getLsbD_ofNat]
  simp [hi]
theorem f_hasBitN {a i : Nat} (ha : a < 2 ^ 31) (hi : i < 64) : f_LinkAudit_hasBit (nI a).toInt64 (nI i) = some (if a.testBit i = true then 1 else 0) := by
  rw [f_hasBit _ hi, tb_n ha hi]
/-- the same test, as the reference writes it -/
theorem rb_iff {a i : Nat} (ha : a < 2 ^ 31) (hi : i < 32) : ((nI a >>> (nI i &&& 31)) &&& 1 = 0) = (a.testBit i = false) := by
  rw [b_c32 i hi, pk_shrN ha (nI i) i (by show ((BitVec.ofNat 32 i).smod 32).toNat = i; rw [b_sm32 i hi, BitVec.toNat_ofNat, Nat.mod_eq_of_lt (by omega)]), show (1 : Int32) = nI 1 from rfl, n_and, show (0 : Int32) = nI 0 from rfl]
  have h1 : a / 2 ^ i &&& 1 < 2 := by rw [Nat.and_one_is_mod]; omega
  rw [n_eq (by omega) (by omega), Nat.and_one_is_mod]
  refine propext ?_
  rw [Nat.testBit_eq_decide_div_mod_eq]
  simp
/-! the same under 'if' -/
section IFS
variable {α : Type} {x y : α}
theorem i_cg {p q : Prop} [Decidable p] [Decidable q] (h : p ↔ q) : (if p then x else y) = if q then x else y := by
  by_cases hp : p
  · rw [if_pos hp, if_pos (h.mp hp)]
  · rw [if_neg hp, if_neg (fun z => hp (h.mpr z))]
theorem i_lt {a b : Nat} [Decidable (nI a < nI b)] (ha : a < 1000000) (hb : b < 1000000) : (if nI a < nI b then x else y) = if a < b then x else y := i_cg (nI_ltI (by omega) (by omega))
theorem i_le {a b : Nat} [Decidable (nI a ≤ nI b)] (ha : a < 1000000) (hb : b < 1000000) : (if nI a ≤ nI b then x else y) = if a ≤ b then x else y := i_cg (nI_leI (by omega) (by omega))
theorem i_eq {a b : Nat} [Decidable (nI a = nI b)] (ha : a < 1000000) (hb : b < 1000000) : (if nI a = nI b then x else y) = if a = b then x else y := i_cg (nI_eq (by omega) (by omega))
theorem i_eq0 {a : Nat} [Decidable (nI a = 0)] (ha : a < 1000000) : (if nI a = 0 then x else y) = if a = 0 then x else y := i_cg (nI_eq (b := 0) (by omega) (by omega))
theorem i_bit {a i : Nat} [Decidable ((nI a >>> (nI i &&& 31)) &&& 1 = 0)] (ha : a < 2 ^ 31) (hi : i < 32) : (if (nI a >>> (nI i &&& 31)) &&& 1 = 0 then x else y) = if a.testBit i = true then y else x := by
  by_cases h : a.testBit i = true
  · rw [if_pos h, if_neg]
    rw [rb_iff ha hi, h]
    decide
  · rw [if_neg h, if_pos]
    rw [rb_iff ha hi]
    simpa using h
theorem i_and {a c : Nat} [Decidable (nI a &&& nI c = 0)] (ha : a < 1000000) : (if nI a &&& nI c = 0 then x else y) = if a &&& c = 0 then x else y := by
  have h : a &&& c < 1000000 := Nat.lt_of_le_of_lt Nat.and_le_left ha
  refine i_cg ?_
  rw [n_and, show (0 : Int32) = nI 0 from rfl, n_eq h (by omega)]
theorem i_hb {c : Prop} [Decidable c] : (if (if c then (1 : Int32) else 0) = 0 then x else y) = if c then y else x := by
  by_cases h : c
  · rw [if_pos h, if_pos h, if_neg (by decide)]
  · rw [if_neg h, if_neg h, if_pos rfl]
end IFS
