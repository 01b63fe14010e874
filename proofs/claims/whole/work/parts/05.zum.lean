/-! numbers: an integer that is stored is read modulo 2^32 (2^64) -/
theorem oI_t {a : Int} (h : inI a) : (Int32.ofInt a).toInt = a := Int32.toInt_ofInt_of_le h.1 h.2
theorem oL_t {a : Int} (h : inL a) : (Int64.ofInt a).toInt = a := Int64.toInt_ofInt_of_le h.1 h.2
theorem oI_lt {a b : Int} (ha : inI a) (hb : inI b) : Int32.ofInt a < Int32.ofInt b ↔ a < b := by rw [Int32.lt_iff_toInt_lt, oI_t ha, oI_t hb]
theorem oI_le {a b : Int} (ha : inI a) (hb : inI b) : Int32.ofInt a ≤ Int32.ofInt b ↔ a ≤ b := by rw [Int32.le_iff_toInt_le, oI_t ha, oI_t hb]
theorem oI_eq {a b : Int} (ha : inI a) (hb : inI b) : Int32.ofInt a = Int32.ofInt b ↔ a = b := by rw [← Int32.toInt_inj, oI_t ha, oI_t hb]
theorem inI_0 : inI 0 := by unfold inI; omega
theorem oI_0 : Int32.ofInt 0 = 0 := rfl
theorem oL_0 : Int64.ofInt 0 = 0 := rfl
theorem oI_eq0 {a : Int} (ha : inI a) : Int32.ofInt a = 0 ↔ a = 0 := by rw [← oI_0]; exact oI_eq ha inI_0
theorem oI_lt0 {a : Int} (ha : inI a) : Int32.ofInt a < 0 ↔ a < 0 := by rw [← oI_0]; exact oI_lt ha inI_0
theorem oI_ge0 {a : Int} (ha : inI a) : 0 ≤ Int32.ofInt a ↔ 0 ≤ a := by rw [← oI_0]; exact oI_le inI_0 ha
theorem oI_gt0 {a : Int} (ha : inI a) : 0 < Int32.ofInt a ↔ 0 < a := by rw [← oI_0]; exact oI_lt inI_0 ha
theorem oI_le0 {a : Int} (ha : inI a) : Int32.ofInt a ≤ 0 ↔ a ≤ 0 := by rw [← oI_0]; exact oI_le ha inI_0
theorem oI_div {a b : Int} (ha : inI a) (hb : inI b) : Int32.ofInt a / Int32.ofInt b = Int32.ofInt (Int.tdiv a b) := (Int32.ofInt_tdiv ha.1 (by show a ≤ 2147483647; exact Int.le_of_lt_add_one ha.2) hb.1 (by show b ≤ 2147483647; exact Int.le_of_lt_add_one hb.2)).symm
theorem oL_div {a b : Int} (ha : inL a) (hb : inL b) : Int64.ofInt a / Int64.ofInt b = Int64.ofInt (Int.tdiv a b) := (Int64.ofInt_tdiv ha.1 (by show a ≤ 9223372036854775807; exact Int.le_of_lt_add_one ha.2) hb.1 (by show b ≤ 9223372036854775807; exact Int.le_of_lt_add_one hb.2)).symm
theorem oI_rem {a b : Int} (ha : inI a) (hb : inI b) : Int32.ofInt a - Int32.ofInt a / Int32.ofInt b * Int32.ofInt b = Int32.ofInt (Int.tmod a b) := by
  rw [oI_div ha hb, ← Int32.ofInt_mul, ← Int32.ofInt_sub, Int.tmod_def, Int.mul_comm]
theorem oI_l {a : Int} (ha : inI a) : (Int32.ofInt a).toInt64 = Int64.ofInt a := Int32.toInt64_ofInt ha.1 (by show a ≤ 2147483647; exact Int.le_of_lt_add_one ha.2)
theorem oL_i (a : Int) : (Int64.ofInt a).toInt32 = Int32.ofInt a := Int64.toInt32_ofInt
theorem oI_b8 (a : Int) : (Int32.ofInt a).toInt8.toInt32 = Int32.ofInt (pm_b8 a) := by
  rw [Int32.toInt8_ofInt]
  apply Int32.toInt_inj.mp
  have h1 : inI (pm_b8 a) := by unfold inI pm_b8; omega
  rw [oI_t h1, Int8.toInt_toInt32, Int8.toInt_ofInt]
  unfold pm_b8
  show Int.bmod a 256 = _
  rw [Int.bmod_def]
  split <;> omega
theorem oL_cmp {a b : Int} (ha : inL a) (hb : inL b) : lg_cmp (Int64.ofInt a) (Int64.ofInt b) = Int32.ofInt (pm_cmp a b) := by
  unfold lg_cmp pm_cmp
  simp only [gt_iff_lt, Int64.lt_iff_toInt_lt, ← Int64.toInt_inj, oL_t ha, oL_t hb]
  by_cases h1 : a < b
  · rw [if_pos h1, if_neg (by omega), if_neg (by omega)]; rfl
  · by_cases h2 : a = b
    · rw [if_neg h1, if_pos h2, if_neg (by omega), if_pos h2]; rfl
    · rw [if_pos (show b < a by omega), if_neg h1, if_neg h2]; rfl
theorem oI_ix {i n : Int} (h0 : 0 ≤ i) (h1 : i < n) (hn : n < 2147483648) : (Int32.ofInt i).toNatClampNeg = i.toNat := Int32.toNatClampNeg_ofInt_of_le (by omega) (by omega)
theorem oI_in {i n : Int} {k : Nat} (h0 : 0 ≤ i) (h1 : i < n) (hn : n < 2147483648) (hk : n ≤ (k : Int)) : ¬ (Int32.ofInt i < 0 ∨ k ≤ (Int32.ofInt i).toNatClampNeg) := by
  rw [oI_ix h0 h1 hn, oI_lt0 ⟨by omega, by omega⟩]
  omega
theorem oI_tn (z : Int) : ((Int32.ofInt z).toBitVec.toNat : Int) = z % 4294967296 := by
  show ((BitVec.ofInt 32 z).toNat : Int) = _
  rw [BitVec.toNat_ofInt]
  have h := Int.emod_nonneg z (show (4294967296 : Int) ≠ 0 by decide)
  exact Int.toNat_of_nonneg h
theorem oI_ex {x y : Int32} (h : ((x.toBitVec.toNat : Nat) : Int) = (y.toBitVec.toNat : Nat)) : x = y :=
  Int32.toBitVec_inj.mp (BitVec.eq_of_toNat_eq (Int.ofNat.inj h))
theorem oI_and1 (a : Int) {k : Nat} (m : Int) (hm : m = ((2 ^ k - 1 : Nat) : Int)) (hk : k < 31) : Int32.ofInt a &&& Int32.ofInt m = Int32.ofInt (a % ((2 ^ k : Nat) : Int)) := by
  have h2 : 2 ^ k < 2 ^ 31 := Nat.pow_lt_pow_right (by decide) hk
  have h3 : 2 ^ 31 < 2 ^ 32 := by decide
  have h4 : 0 < 2 ^ k := Nat.two_pow_pos k
  have e2 : (Int32.ofInt m).toBitVec.toNat = 2 ^ k - 1 := by
    rw [hm, Int32.ofInt_eq_ofNat]
    exact pk_tn (by omega)
  apply oI_ex
  rw [Int32.toBitVec_and, BitVec.toNat_and, e2, Nat.and_two_pow_sub_one_eq_mod, Int.natCast_emod, oI_tn, oI_tn]
  have h5 : (a % 4294967296) % ((2 ^ k : Nat) : Int) = a % ((2 ^ k : Nat) : Int) := by
    refine Int.emod_emod_of_dvd a ?_
    refine ⟨((2 ^ (32 - k) : Nat) : Int), ?_⟩
    rw [← Int.natCast_mul, ← Nat.pow_add, show k + (32 - k) = 32 by omega]
    rfl
  have h6 := Int.emod_nonneg a (show ((2 ^ k : Nat) : Int) ≠ 0 by omega)
  have h7 := Int.emod_lt_of_pos a (show (0 : Int) < ((2 ^ k : Nat) : Int) by omega)
  rw [h5, Int.emod_eq_of_lt h6 (by omega)]
theorem oI_and {a b : Int} (h : b = 1 ∨ b = 15 ∨ b = 255) : Int32.ofInt a &&& Int32.ofInt b = Int32.ofInt (a % (b + 1)) := by
  rcases h with rfl | rfl | rfl
  · exact oI_and1 (k := 1) a 1 rfl (by decide)
  · exact oI_and1 (k := 4) a 15 rfl (by decide)
  · exact oI_and1 (k := 8) a 255 rfl (by decide)
theorem oI_sh5 : ∀ n : Nat, n < 32 → ((nI n &&& 31).toBitVec.smod 32).toNat = n := by decide +kernel
theorem oI_sh6 : ∀ n : Nat, n < 32 → (((nI n).toUInt32 &&& Int32.toUInt32 31).toBitVec % 32).toNat = n := by decide +kernel
theorem oI_nI {b : Int} (h : 0 ≤ b) : Int32.ofInt b = nI b.toNat := by
  have e : Int32.ofInt b = Int32.ofInt ((b.toNat : Nat) : Int) := by rw [Int.toNat_of_nonneg h]
  rw [e]
  exact Int32.ofInt_eq_ofNat
theorem oI_p (n : Nat) : ((2 ^ n : Nat) : Int) = 2 ^ n := Int.natCast_pow 2 n
theorem oI_shl {a b : Int} (h0 : 0 ≤ b) (h1 : b < 32) : Int32.ofInt a <<< (Int32.ofInt b &&& 31) = Int32.ofInt (a * 2 ^ b.toNat) := by
  apply oI_ex
  rw [pk_shl _ _ b.toNat (by rw [oI_nI h0]; exact oI_sh5 _ (by omega)), Int.natCast_emod, Int.natCast_mul, oI_tn, oI_tn, oI_p]
  show a % 4294967296 * 2 ^ b.toNat % 4294967296 = _
  rw [Int.mul_emod, Int.emod_emod_of_dvd _ (Int.dvd_refl _), ← Int.mul_emod]
theorem oI_shr {a b : Int} (ha : inI a) (h0 : 0 ≤ b) (h1 : b < 32) : Int32.ofInt a >>> (Int32.ofInt b &&& 31) = Int32.ofInt (a / 2 ^ b.toNat) := by
  apply Int32.toInt_inj.mp
  rw [pk_shr _ _ b.toNat (by rw [oI_nI h0]; exact oI_sh5 _ (by omega)), oI_t ha, Int.shiftRight_eq_div_pow]
  have hp : (0 : Int) < 2 ^ b.toNat := Int.pow_pos (by decide)
  have hin : inI (a / 2 ^ b.toNat) := by
    unfold inI at ha ⊢
    constructor
    · rw [Int.le_ediv_iff_mul_le hp]
      have : (1 : Int) ≤ 2 ^ b.toNat := hp
      have : (-2147483648 : Int) * 2 ^ b.toNat ≤ -2147483648 * 1 := by
        apply Int.mul_le_mul_of_nonpos_left <;> omega
      omega
    · rw [Int.ediv_lt_iff_lt_mul hp]
      have : (2147483648 : Int) * 1 ≤ 2147483648 * 2 ^ b.toNat := by
        apply Int.mul_le_mul_of_nonneg_left <;> omega
      omega
  rw [oI_t hin, oI_p]
theorem oI_ushr {a b : Int} (h0 : 0 ≤ b) (h1 : b < 32) : ((Int32.ofInt a).toUInt32 >>> ((Int32.ofInt b).toUInt32 &&& Int32.toUInt32 31)).toInt32 = Int32.ofInt (a % 4294967296 / 2 ^ b.toNat) := by
  apply oI_ex
  rw [pk_ushr _ _ b.toNat (by rw [oI_nI h0]; exact oI_sh6 _ (by omega)), Int.natCast_ediv, oI_tn, oI_tn, oI_p]
  have h2 := Int.emod_nonneg a (show (4294967296 : Int) ≠ 0 by decide)
  have h3 := Int.emod_lt_of_pos a (show (0 : Int) < 4294967296 by decide)
  have hp : (0 : Int) < 2 ^ b.toNat := Int.pow_pos (by decide)
  have h4 : 0 ≤ a % 4294967296 / 2 ^ b.toNat := Int.ediv_nonneg h2 (Int.le_of_lt hp)
  have h5 : a % 4294967296 / 2 ^ b.toNat ≤ a % 4294967296 := Int.ediv_le_self _ h2
  rw [Int.emod_eq_of_lt h4 (by omega)]
