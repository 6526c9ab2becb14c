/-! PURE: Long.bitCount -/
theorem ln_and (a b : Nat) : lN a &&& lN b = lN (a &&& b) := Int64.toBitVec_inj.mp (by
  show BitVec.ofNat 64 a &&& BitVec.ofNat 64 b = BitVec.ofNat 64 (a &&& b)
  refine BitVec.eq_of_getLsbD_eq (fun i hi => ?_)
  simp [hi])
theorem ln_sub {a b : Nat} (h : b ≤ a) : lN a - lN b = lN (a - b) := by
  have e := lN_add (a - b) b
  rw [Nat.sub_add_cancel h] at e
  rw [← e, Int64.add_sub_cancel]
theorem ln_c : ∀ k, k < 64 → ((nI k).toInt64.toUInt64 &&& Int64.toUInt64 63).toNat % 64 = k := by decide +kernel
theorem ln_shr {n k : Nat} (hn : n < 2 ^ 64) (hk : k < 64) : ((lN n).toUInt64 >>> ((nI k).toInt64.toUInt64 &&& Int64.toUInt64 63)).toInt64 = lN (n / 2 ^ k) := by
  have e : ((lN n).toUInt64 >>> ((nI k).toInt64.toUInt64 &&& Int64.toUInt64 63)) = UInt64.ofNat (n / 2 ^ k) := by
    apply UInt64.toNat_inj.mp
    rw [UInt64.toNat_shiftRight, ln_c k hk, Nat.shiftRight_eq_div_pow]
    have h2 : (lN n).toUInt64.toNat = n := by
      show (BitVec.ofNat 64 n).toNat = n
      rw [BitVec.toNat_ofNat, Nat.mod_eq_of_lt hn]
    rw [h2]
    have h3 : n / 2 ^ k < 2 ^ 64 := Nat.lt_of_le_of_lt (Nat.div_le_self _ _) hn
    show _ = (BitVec.ofNat 64 (n / 2 ^ k)).toNat
    rw [BitVec.toNat_ofNat, Nat.mod_eq_of_lt h3]
  rw [e]
  rfl
theorem ln_32 (n : Nat) : (lN n).toInt32 = nI n := by
  apply Int32.toBitVec_inj.mp
  apply BitVec.eq_of_getLsbD_eq
  intro i hi
  show (((BitVec.ofNat 64 n).signExtend 32)).getLsbD i = (BitVec.ofNat 32 n).getLsbD i
  have : i < 64 := by omega
  rw [BitVec.getLsbD_signExtend, BitVec.getLsbD_ofNat, BitVec.getLsbD_ofNat]
  simp only [hi, this, decide_true, Bool.true_and, if_true]
theorem n_127 (n : Nat) : nI n &&& (127 : Int32) = nI (n % 128) := by
  rw [show (127 : Int32) = nI 127 from rfl, n_and, show n &&& 127 = n % 128 from Nat.and_two_pow_sub_one_eq_mod n 7]
theorem f_cnt {x : Nat} (hx : x < 2 ^ 63) {u v w w1 w2 w3 : Nat} (h85 : x / 2 ^ 1 &&& rp 85 8 ≤ x) (eu : u = x - (x / 2 ^ 1 &&& rp 85 8)) (ev : v = (u &&& rp 51 8) + (u / 2 ^ 2 &&& rp 51 8)) (ew : w = (v + v / 2 ^ 4) &&& rp 15 8) (e1 : w1 = w + w / 2 ^ 8) (e2 : w2 = w1 + w1 / 2 ^ 16) (e3 : w3 = w2 + w2 / 2 ^ 32) (bu : u < 2 ^ 64) (bv : v < 2 ^ 64) (bw : w < 2 ^ 64) (b1 : w1 < 2 ^ 64) (b2 : w2 < 2 ^ 64) : f_Long_bitCount (lN x) = some (nI (w3 % 128)) := by
  unfold f_Long_bitCount
  have c85 : (6148914691236517205 : Int64) = lN (rp 85 8) := by decide
  have c51 : (3689348814741910323 : Int64) = lN (rp 51 8) := by decide
  have c15 : (1085102592571150095 : Int64) = lN (rp 15 8) := by decide
  have k1 : ((lN x).toUInt64 >>> ((1 : Int32).toInt64.toUInt64 &&& Int64.toUInt64 63)).toInt64 = lN (x / 2 ^ 1) := ln_shr (k := 1) (by omega) (by omega)
  have k2 : ((lN u).toUInt64 >>> ((2 : Int32).toInt64.toUInt64 &&& Int64.toUInt64 63)).toInt64 = lN (u / 2 ^ 2) := ln_shr (k := 2) bu (by omega)
  have k4 : ((lN v).toUInt64 >>> ((4 : Int32).toInt64.toUInt64 &&& Int64.toUInt64 63)).toInt64 = lN (v / 2 ^ 4) := ln_shr (k := 4) bv (by omega)
  have k8 : ((lN w).toUInt64 >>> ((8 : Int32).toInt64.toUInt64 &&& Int64.toUInt64 63)).toInt64 = lN (w / 2 ^ 8) := ln_shr (k := 8) bw (by omega)
  have k16 : ((lN w1).toUInt64 >>> ((16 : Int32).toInt64.toUInt64 &&& Int64.toUInt64 63)).toInt64 = lN (w1 / 2 ^ 16) := ln_shr (k := 16) b1 (by omega)
  have k32 : ((lN w2).toUInt64 >>> ((32 : Int32).toInt64.toUInt64 &&& Int64.toUInt64 63)).toInt64 = lN (w2 / 2 ^ 32) := ln_shr (k := 32) b2 (by omega)
  rw [c85, c51, c15, k1, ln_and, ln_sub h85, ← eu, k2, ln_and, ln_and, lN_add, ← ev, k4, lN_add, ln_and, ← ew, k8, lN_add, ← e1, k16, lN_add, ← e2, k32, lN_add, ← e3, ln_32, n_127]
