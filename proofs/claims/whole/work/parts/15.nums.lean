/-! numbers and lists -/
/-- a byte as it is stored -/
def sg (v : Int) : Int := if v < 128 then v else v - 256
theorem x32b {x : Int} : (Int32.ofInt x).toInt = x.bmod 4294967296 := Int32.toInt_ofInt
theorem zAnd255 (x : Int) : zAnd x 255 = x % 256 := by
  unfold zAnd
  obtain ⟨n, hn, e⟩ : ∃ n : Nat, n < 2 ^ 32 ∧ Int32.ofInt x = nI n := ⟨(Int32.ofInt x).toBitVec.toNat, BitVec.isLt _, by
    rw [← Int32.toBitVec_inj]
    show _ = BitVec.ofNat 32 (Int32.ofInt x).toBitVec.toNat
    rw [BitVec.ofNat_toNat, BitVec.setWidth_eq]⟩
  have e2 : (Int32.ofInt (255 : Int)).toBitVec.toNat = 2 ^ 8 - 1 := by decide
  have h1 := pk_andN hn (m := Int32.ofInt 255) 8 e2
  rw [e, h1, nI_toInt (by have : n % 2 ^ 8 < 2 ^ 8 := Nat.mod_lt _ (by decide); omega)]
  have h2 : (Int32.ofInt x).toBitVec.toNat = n := by rw [e]; exact pk_tn hn
  have h3 : (Int32.ofInt x).toBitVec.toNat = (x % 4294967296).toNat := by
    rw [Int32.toBitVec_ofInt, BitVec.toNat_ofInt]; rfl
  omega
theorem zAndM (x : Int) (k : Nat) (m : Int) (hk : k ≤ 30) (hm : (Int32.ofInt m).toBitVec.toNat = 2 ^ k - 1) : zAnd x m = x % (2 ^ k : Nat) := by
  unfold zAnd
  obtain ⟨n, hn, e⟩ : ∃ n : Nat, n < 2 ^ 32 ∧ Int32.ofInt x = nI n := ⟨(Int32.ofInt x).toBitVec.toNat, BitVec.isLt _, by
    rw [← Int32.toBitVec_inj]
    show _ = BitVec.ofNat 32 (Int32.ofInt x).toBitVec.toNat
    rw [BitVec.ofNat_toNat, BitVec.setWidth_eq]⟩
  have h1 := pk_andN hn (m := Int32.ofInt m) k hm
  have hlt : n % 2 ^ k < 2 ^ k := Nat.mod_lt _ (Nat.two_pow_pos k)
  have hp : 2 ^ k ≤ 2 ^ 30 := Nat.pow_le_pow_right (by decide) hk
  rw [e, h1, nI_toInt (by omega)]
  have h2 : (Int32.ofInt x).toBitVec.toNat = n := by rw [e]; exact pk_tn hn
  have h3 : (Int32.ofInt x).toBitVec.toNat = (x % 4294967296).toNat := by
    rw [Int32.toBitVec_ofInt, BitVec.toNat_ofInt]; rfl
  have h4 : (n : Int) = x % 4294967296 := by omega
  rw [Int.natCast_emod, h4]
  have hd : ((2 ^ k : Nat) : Int) ∣ 4294967296 := by
    have : (2 ^ k : Nat) ∣ 4294967296 := by
      have e : (4294967296 : Nat) = 2 ^ k * 2 ^ (32 - k) := by rw [← Nat.pow_add, show k + (32 - k) = 32 by omega]
      rw [e]; exact Nat.dvd_mul_right _ _
    exact Int.natCast_dvd_natCast.mpr this
  exact Int.emod_emod_of_dvd x hd
theorem zB_eq (x : Int) : zB x = sg (x % 256) := by
  unfold zB
  rw [Int32.toInt8_ofInt, Int8.toInt_toInt32, Int8.toInt_ofInt]
  show x.bmod 256 = _
  rw [Int.bmod_def]
  unfold sg
  by_cases h : x % 256 < 128
  · rw [if_pos (by simpa using h), if_pos h]
    simp
  · rw [if_neg (by simpa using h), if_neg h]
    simp
theorem sg_rng {v : Int} (h : 0 ≤ v ∧ v < 256) : -128 ≤ sg v ∧ sg v ≤ 127 := by unfold sg; split <;> omega
theorem sg_and {v : Int} (h : 0 ≤ v ∧ v < 256) : zAnd (sg v) 255 = v := by
  rw [zAnd255]; unfold sg; split <;> omega
theorem sg_inj {v w : Int} (hv : 0 ≤ v ∧ v < 256) (hw : 0 ≤ w ∧ w < 256) (h : sg v = sg w) : v = w := by
  unfold sg at h; split at h <;> split at h <;> omega
/-- byte i of a long, the lowest first -/
def lowb (w : Int) (i : Nat) : Int := w / (256 ^ i : Nat) % 256
theorem lowb_rng (w : Int) (i : Nat) : 0 ≤ lowb w i ∧ lowb w i < 256 := by unfold lowb; omega
theorem zLus_tn (x : Int) {y : Nat} (hy : y < 64) : (Int64.ofInt (zLus x (y : Int))).toBitVec.toNat = (x % 18446744073709551616).toNat / 2 ^ y := by
  rw [zLus_of]
  have e1 : (Int32.ofInt (y : Int)) = nI y := Int32.ofInt_eq_ofNat
  have e2 : Int64.ofInt x = lN (x % 18446744073709551616).toNat := by
    rw [← Int64.toBitVec_inj]
    unfold lN
    rw [Int64.toBitVec_ofInt, Int64.toBitVec_ofNat']
    apply BitVec.eq_of_toNat_eq
    rw [BitVec.toNat_ofInt, BitVec.toNat_ofNat]
    have : (x % 18446744073709551616).toNat < 18446744073709551616 := by omega
    show (x % 18446744073709551616).toNat = _
    rw [Nat.mod_eq_of_lt this]
  have hs : ((nI y).toInt64.toUInt64 &&& Int64.toUInt64 63) = UInt64.ofNat y := by
    have h9 : ∀ k, k < 64 → ((nI k).toInt64.toUInt64 &&& Int64.toUInt64 63) = UInt64.ofNat k := by decide +kernel
    exact h9 y hy
  rw [e1, e2, hs]
  generalize hn : (x % 18446744073709551616).toNat = n
  have hn2 : n < 18446744073709551616 := by omega
  have h1 : (lN n).toUInt64.toNat = n := by
    unfold lN
    show (Int64.ofNat n).toBitVec.toNat = n
    rw [Int64.toBitVec_ofNat', BitVec.toNat_ofNat]
    exact Nat.mod_eq_of_lt hn2
  show ((lN n).toUInt64 >>> UInt64.ofNat y).toNat = n / 2 ^ y
  rw [UInt64.toNat_shiftRight, h1]
  have h2 : (UInt64.ofNat y).toNat = y := by
    rw [UInt64.toNat_ofNat']; exact Nat.mod_eq_of_lt (by omega)
  rw [h2, Nat.mod_eq_of_lt hy, Nat.shiftRight_eq_div_pow]
theorem x64b (x : Int) : (Int64.ofInt x).toBitVec.toNat = (x % 18446744073709551616).toNat := by
  rw [Int64.toBitVec_ofInt, BitVec.toNat_ofInt]; rfl
theorem lus_mod (w : Int) {i : Nat} (hi : i < 8) : zLus w (8 * (i : Int)) % 256 = lowb w i := by
  have h1 := zLus_tn w (y := 8 * i) (by omega)
  have e : ((8 * i : Nat) : Int) = 8 * (i : Int) := by omega
  rw [e, x64b] at h1
  have h2 : (zLus w (8 * (i : Int)) % 18446744073709551616) = ((w % 18446744073709551616).toNat / 2 ^ (8 * i) : Nat) := by omega
  have h3 : zLus w (8 * (i : Int)) % 256 = (zLus w (8 * (i : Int)) % 18446744073709551616) % 256 := by omega
  rw [h3, h2]
  unfold lowb
  have e3 : (256 : Nat) ^ i = 2 ^ (8 * i) := by rw [Nat.pow_mul]
  rw [e3]
  rcases (by omega : i = 0 ∨ i = 1 ∨ i = 2 ∨ i = 3 ∨ i = 4 ∨ i = 5 ∨ i = 6 ∨ i = 7) with h | h | h | h | h | h | h | h <;> subst h <;> simp only [Nat.reduceMul, Nat.reducePow] <;> omega
