/-! rules of runs over Int -/
theorem zget {hp : xH} {a g p : Nat} {s : zZ} {L : List zD} {d : zD} (ha : a = 1024 * g + p) (h0 : p < 1024) (hr : hp[g]? = some (zH s L 0)) (hd : L[p]? = some d) : xget hp a = some (zcell d (s p)) := by
  unfold xget
  rw [show a / 1024 = g by omega, show a % 1024 = p by omega, hr]
  dsimp only
  rw [zH_get, hd, Nat.zero_add]
  rfl
theorem zset {hp : xH} {a g p : Nat} {s : zZ} {L : List zD} {d : zD} (ha : a = 1024 * g + p) (h0 : p < 1024) (hr : hp[g]? = some (zH s L 0)) (hd : L[p]? = some d) (i : Nat) (v : Int) : xset hp a (zcell d (fun j => if j = i then v else s p j)) = hp.set g (zH (upz s p i v) L 0) := by
  unfold xset
  rw [show a / 1024 = g by omega, show a % 1024 = p by omega, hr]
  dsimp only
  have := zH_set s i v L 0 p d hd
  rw [Nat.zero_add] at this
  rw [this]
theorem zi_add (a b : Int) : zI a + zI b = zI (a + b) := (Int32.ofInt_add a b).symm
theorem zi_sub (a b : Int) : zI a - zI b = zI (a - b) := (Int32.ofInt_sub a b).symm
theorem zi_mul (a b : Int) : zI a * zI b = zI (a * b) := (Int32.ofInt_mul a b).symm
theorem zi_neg (a : Int) : -zI a = zI (-a) := (Int32.ofInt_neg a).symm
theorem zj_add (a b : Int) : zJ a + zJ b = zJ (a + b) := (Int64.ofInt_add a b).symm
theorem zj_sub (a b : Int) : zJ a - zJ b = zJ (a - b) := (Int64.ofInt_sub a b).symm
theorem zj_mul (a b : Int) : zJ a * zJ b = zJ (a * b) := (Int64.ofInt_mul a b).symm
theorem zj_neg (a : Int) : -zJ a = zJ (-a) := (Int64.ofInt_neg a).symm
theorem zi_toInt {a : Int} (h : zr a) : (zI a).toInt = a := Int32.toInt_ofInt_of_le (by omega) (by omega)
theorem zj_toInt {a : Int} (h : zrl a) : (zJ a).toInt = a := Int64.toInt_ofInt_of_le (by omega) (by omega)
theorem zi_of (x : Int32) : x = zI x.toInt := (Int32.ofInt_toInt x).symm
theorem zj_of (x : Int64) : x = zJ x.toInt := (Int64.ofInt_toInt x).symm
theorem zi_eq {x : Int32} {a : Int} (h : x.toInt = a.bmod (2 ^ 32)) : x = zI a := Int32.toInt_inj.mp (by rw [h]; exact (Int32.toInt_ofInt).symm)
theorem zj_eq {x : Int64} {a : Int} (h : x.toInt = a.bmod (2 ^ 64)) : x = zJ a := Int64.toInt_inj.mp (by rw [h]; exact (Int64.toInt_ofInt).symm)
theorem zi_i2l {a : Int} (h : zr a) : (zI a).toInt64 = zJ a := Int32.toInt64_ofInt (by show (-2147483648 : Int) ≤ a; omega) (by show a ≤ (2147483647 : Int); omega)
theorem zj_l2i (a : Int) : (zJ a).toInt32 = zI a := Int64.toInt32_ofInt
theorem zi_i2b (a : Int) : (zI a).toInt8.toInt32 = zI (a.bmod 256) := by
  apply Int32.toInt_inj.mp
  rw [Int8.toInt_toInt32]
  unfold zI
  rw [Int32.toInt8_ofInt, Int8.toInt_ofInt]
  rw [Int32.toInt_ofInt_of_le]
  · have := @Int.le_bmod a 256 (by decide); omega
  · have := @Int.bmod_lt a 256 (by decide); omega
theorem zi_i2s (a : Int) : (zI a).toInt16.toInt32 = zI (a.bmod 65536) := by
  apply Int32.toInt_inj.mp
  rw [Int16.toInt_toInt32]
  unfold zI
  rw [Int32.toInt16_ofInt, Int16.toInt_ofInt]
  rw [Int32.toInt_ofInt_of_le]
  · have := @Int.le_bmod a 65536 (by decide); omega
  · have := @Int.bmod_lt a 65536 (by decide); omega
theorem zi_div {a b : Int} (h : zr a ∧ zr b) : zI a / zI b = zI (a.tdiv b) := (Int32.ofInt_tdiv (by show (-2147483648 : Int) ≤ a; omega) (by show a ≤ (2147483647 : Int); omega) (by show (-2147483648 : Int) ≤ b; omega) (by show b ≤ (2147483647 : Int); omega)).symm
theorem zj_div {a b : Int} (h : zrl a ∧ zrl b) : zJ a / zJ b = zJ (a.tdiv b) := (Int64.ofInt_tdiv (by show (-9223372036854775808 : Int) ≤ a; omega) (by show a ≤ (9223372036854775807 : Int); omega) (by show (-9223372036854775808 : Int) ≤ b; omega) (by show b ≤ (9223372036854775807 : Int); omega)).symm
theorem zi_divp {a b : Int} (h : 0 ≤ a ∧ zr a) (hb : zr b) : zI a / zI b = zI (a / b) := by
  rw [zi_div ⟨h.2, hb⟩, Int.tdiv_eq_ediv_of_nonneg h.1]
theorem zj_divp {a b : Int} (h : 0 ≤ a ∧ zrl a) (hb : zrl b) : zJ a / zJ b = zJ (a / b) := by
  rw [zj_div ⟨h.2, hb⟩, Int.tdiv_eq_ediv_of_nonneg h.1]
theorem zi_rem {a b : Int} (h : zr a ∧ zr b) : zI a - zI a / zI b * zI b = zI (a.tmod b) := by
  rw [zi_div h, zi_mul, zi_sub, Int.tmod_def, Int.mul_comm b]
theorem zj_rem {a b : Int} (h : zrl a ∧ zrl b) : zJ a - zJ a / zJ b * zJ b = zJ (a.tmod b) := by
  rw [zj_div h, zj_mul, zj_sub, Int.tmod_def, Int.mul_comm b]
theorem zi_remp {a b : Int} (h : 0 ≤ a ∧ zr a) (hb : zr b) : zI a - zI a / zI b * zI b = zI (a % b) := by
  rw [zi_rem ⟨h.2, hb⟩, Int.tmod_eq_emod_of_nonneg h.1]
theorem zj_remp {a b : Int} (h : 0 ≤ a ∧ zrl a) (hb : zrl b) : zJ a - zJ a / zJ b * zJ b = zJ (a % b) := by
  rw [zj_rem ⟨h.2, hb⟩, Int.tmod_eq_emod_of_nonneg h.1]
theorem zi_bv (a : Int) (h : zr a) : (zI a).toBitVec.toInt = a := zi_toInt h
theorem zi_nat {a : Int} (h : 0 ≤ a ∧ zr a) : (zI a).toBitVec.toNat = a.toNat := by
  show (BitVec.ofInt 32 a).toNat = a.toNat
  rw [BitVec.toNat_ofInt]
  congr 1
  exact Int.emod_eq_of_lt h.1 (by omega)
theorem zi_nat' {x : Int32} {n : Nat} (h : x.toBitVec.toNat = n) : x = zI (n : Int) := by
  apply Int32.toBitVec.inj
  apply BitVec.eq_of_toNat_eq
  show _ = (BitVec.ofInt 32 (n : Int)).toNat
  rw [BitVec.toNat_ofInt, h]
  have := x.toBitVec.isLt
  rw [h] at this
  rw [Int.emod_eq_of_lt (by omega) (by omega), Int.toNat_natCast]
theorem zi_and {a b : Int} (ha : 0 ≤ a ∧ zr a) (hb : 0 ≤ b ∧ zr b) : zI a &&& zI b = zI ((a.toNat &&& b.toNat : Nat) : Int) := by
  apply zi_nat'
  rw [Int32.toBitVec_and, BitVec.toNat_and, zi_nat ha, zi_nat hb]
theorem zi_or {a b : Int} (ha : 0 ≤ a ∧ zr a) (hb : 0 ≤ b ∧ zr b) : zI a ||| zI b = zI ((a.toNat ||| b.toNat : Nat) : Int) := by
  apply zi_nat'
  rw [Int32.toBitVec_or, BitVec.toNat_or, zi_nat ha, zi_nat hb]
theorem zi_xor {a b : Int} (ha : 0 ≤ a ∧ zr a) (hb : 0 ≤ b ∧ zr b) : zI a ^^^ zI b = zI ((a.toNat ^^^ b.toNat : Nat) : Int) := by
  apply zi_nat'
  rw [Int32.toBitVec_xor, BitVec.toNat_xor, zi_nat ha, zi_nat hb]
theorem zi_not (a : Int) : zI a ^^^ zI (-1) = zI (-a - 1) := by
  have h1 : zI a ^^^ zI (-1) = ~~~ (zI a) := by
    show _ ^^^ (-1 : Int32) = _
    exact Int32.xor_neg_one
  have h2 : ~~~ (zI a) = -(zI a) - 1 := by
    rw [Int32.not_eq_neg_sub]
  rw [h1, h2, zi_neg]
  show _ - zI 1 = _
  rw [zi_sub]
theorem zi_m1 (a : Int) (k : Nat) (hk : k ≤ 31) : zI a &&& zI (2 ^ k - 1) = zI (a % 2 ^ k) := by
  have h2 : (2 : Nat) ^ k ≤ 2 ^ 31 := Nat.pow_le_pow_right (by decide) hk
  have h1 : (1 : Nat) ≤ 2 ^ k := Nat.one_le_two_pow
  have e : ((2 : Int) ^ k) = ((2 ^ k : Nat) : Int) := by simp
  rw [e]
  have hz : 0 ≤ ((2 ^ k : Nat) : Int) - 1 ∧ zr (((2 ^ k : Nat) : Int) - 1) := by
    refine ⟨by omega, by omega, ?_⟩
    have : (2 ^ k : Nat) ≤ 2147483648 := h2
    omega
  have hx : (zI a &&& zI (((2 ^ k : Nat) : Int) - 1)).toBitVec.toNat = (a % ((2 ^ k : Nat) : Int)).toNat := by
    rw [Int32.toBitVec_and, BitVec.toNat_and, zi_nat hz, show (((2 ^ k : Nat) : Int) - 1).toNat = 2 ^ k - 1 by omega, Nat.and_two_pow_sub_one_eq_mod]
    show (BitVec.ofInt 32 a).toNat % 2 ^ k = _
    rw [BitVec.toNat_ofInt]
    have d : ((2 ^ k : Nat) : Int) ∣ ((2 ^ 32 : Nat) : Int) := Int.natCast_dvd_natCast.mpr (Nat.pow_dvd_pow 2 (by omega))
    have h3 := Int.emod_emod_of_dvd a d
    have h4 : 0 ≤ a % ((2 ^ 32 : Nat) : Int) := Int.emod_nonneg _ (by decide)
    rw [← h3]
    generalize a % ((2 ^ 32 : Nat) : Int) = y at h4
    obtain ⟨m, rfl⟩ := Int.eq_ofNat_of_zero_le h4
    rw [Int.toNat_natCast, ← Int.natCast_emod, Int.toNat_natCast]
  rw [zi_nat' hx]
  rw [Int.toNat_of_nonneg (Int.emod_nonneg _ (by omega))]
theorem zi_and1 (a : Int) : zI a &&& zI 1 = zI (a % 2) := zi_m1 a 1 (by decide)
theorem zi_and63 (a : Int) : zI a &&& zI 63 = zI (a % 64) := zi_m1 a 6 (by decide)
theorem zi_31 {c : Int} (hc : 0 ≤ c ∧ c < 32) : zI c &&& 31 = zI c := by
  have := zi_m1 c 5 (by decide)
  rw [show (2 : Int) ^ 5 - 1 = 31 by decide, show c % 2 ^ 5 = c by omega] at this
  exact this
theorem zi_shl (a : Int) {c : Int} (hc : 0 ≤ c ∧ c < 32) : zI a <<< (zI c &&& 31) = zI (a * 2 ^ c.toNat) := by
  rw [zi_31 hc]
  apply Int32.toBitVec.inj
  rw [Int32.toBitVec_shiftLeft]
  have h1 : ((zI c).toBitVec.smod 32).toNat = c.toNat := by
    obtain ⟨n, rfl⟩ := Int.eq_ofNat_of_zero_le hc.1
    have hn : n < 32 := by omega
    rw [Int.toNat_natCast]
    have : ∀ m : Nat, m < 32 → ((zI (m : Int)).toBitVec.smod 32).toNat = m := by decide
    exact this n hn
  show (zI a).toBitVec <<< ((zI c).toBitVec.smod 32) = _
  rw [BitVec.shiftLeft_eq', h1]
  apply BitVec.eq_of_toNat_eq
  rw [BitVec.toNat_shiftLeft, Nat.shiftLeft_eq]
  show (BitVec.ofInt 32 a).toNat * 2 ^ c.toNat % 2 ^ 32 = (BitVec.ofInt 32 (a * 2 ^ c.toNat)).toNat
  rw [BitVec.toNat_ofInt, BitVec.toNat_ofInt]
  have h4 : 0 ≤ a % ((2 ^ 32 : Nat) : Int) := Int.emod_nonneg _ (by decide)
  have h5 : a * 2 ^ c.toNat % ((2 ^ 32 : Nat) : Int) = (a % ((2 ^ 32 : Nat) : Int)) * 2 ^ c.toNat % ((2 ^ 32 : Nat) : Int) := by
    rw [Int.mul_emod]
    conv => rhs; rw [Int.mul_emod, Int.emod_emod]
  rw [h5]
  generalize a % ((2 ^ 32 : Nat) : Int) = y at h4
  obtain ⟨m, rfl⟩ := Int.eq_ofNat_of_zero_le h4
  rw [Int.toNat_natCast, show ((m : Int) * 2 ^ c.toNat) = ((m * 2 ^ c.toNat : Nat) : Int) by simp, ← Int.natCast_emod, Int.toNat_natCast]
theorem zi_shr {a c : Int} (ha : zr a) (hc : 0 ≤ c ∧ c < 32) : zI a >>> (zI c &&& 31) = zI (a / 2 ^ c.toNat) := by
  rw [zi_31 hc]
  apply zi_eq
  have h1 : ((zI c).toBitVec.smod 32).toNat = c.toNat := by
    obtain ⟨n, rfl⟩ := Int.eq_ofNat_of_zero_le hc.1
    have hn : n < 32 := by omega
    rw [Int.toNat_natCast]
    have : ∀ m : Nat, m < 32 → ((zI (m : Int)).toBitVec.smod 32).toNat = m := by decide
    exact this n hn
  show ((zI a).toBitVec.sshiftRight' ((zI c).toBitVec.smod 32)).toInt = _
  rw [BitVec.toInt_sshiftRight', h1, zi_bv a ha, Int.shiftRight_eq_div_pow]
  have e : ((2 ^ c.toNat : Nat) : Int) = 2 ^ c.toNat := by simp
  rw [e]
  have hp : (0 : Int) < 2 ^ c.toNat := Int.pow_pos (by decide)
  have h2 := Int.ediv_mul_le a (b := 2 ^ c.toNat) (by omega)
  have h3 := Int.lt_ediv_add_one_mul_self a hp
  generalize a / 2 ^ c.toNat = q at h2 h3
  generalize (2 : Int) ^ c.toNat = w at hp h2 h3
  rw [Int.bmod_eq_of_le]
  · by_cases hq : 0 ≤ q
    · omega
    · have : q * w ≤ q * 1 := Int.mul_le_mul_of_nonpos_left (by omega) (by omega)
      have h7 : (q + 1) * w ≤ (q + 1) * 1 := Int.mul_le_mul_of_nonpos_left (by omega) (by omega)
      omega
  · by_cases hq : 0 ≤ q
    · have : q * 1 ≤ q * w := Int.mul_le_mul_of_nonneg_left (by omega) hq
      omega
    · omega
