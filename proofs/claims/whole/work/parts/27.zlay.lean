/-! layouts of the regions -/
def zL0 : List zD := [(17, 7, [(2, 1024), (2, 2048), (2, 3072), (2, 4096), (2, 5120), (2, 6144), (0, 0)])]
def zL1 : List zD := [(8, 12, [(2, 1025), (2, 1026), (2, 1027), (0, 0), (2, 1028), (2, 1029), (2, 1030), (2, 1031), (0, 0), (0, 0), (0, 0), (2, 1032)]),
  (0, 8, []),
  (0, 8, []),
  (0, 8, []),
  (0, 60, []),
  (0, 8, []),
  (0, 8, []),
  (0, 8, []),
  (3, 8, [(3, 0), (1, 9)]),
  (0, 6, []),
  (0, 6, []),
  (0, 6, []),
  (0, 6, []),
  (0, 6, []),
  (0, 6, []),
  (0, 6, []),
  (0, 6, [])]
def zL2 : List zD := [(11, 8, [(0, 0), (2, 2049), (2, 2050), (2, 2055), (2, 2060), (2, 2077), (2, 2078), (2, 2079)]),
  (0, 5, []),
  (3, 4, [(4, 0), (2, 3)]),
  (1, 4, []),
  (1, 4, []),
  (1, 4, []),
  (1, 4, []),
  (3, 4, [(4, 0), (2, 8)]),
  (1, 4, []),
  (1, 4, []),
  (1, 4, []),
  (1, 4, []),
  (3, 16, [(4, 0), (2, 13)]),
  (1, 5, []),
  (1, 5, []),
  (1, 5, []),
  (1, 5, []),
  (1, 5, []),
  (1, 5, []),
  (1, 5, []),
  (1, 5, []),
  (1, 5, []),
  (1, 5, []),
  (1, 5, []),
  (1, 5, []),
  (1, 5, []),
  (1, 5, []),
  (1, 5, []),
  (1, 5, []),
  (1, 5, []),
  (1, 5, []),
  (0, 6, [])]
def zL3 : List zD := [(10, 15, [(2, 3073), (2, 3074), (2, 3075), (2, 3076), (0, 0), (0, 0), (2, 3077), (0, 0), (2, 3078), (2, 3085), (0, 0), (0, 0), (2, 3096), (2, 3115), (2, 3116)]),
  (16, 1, [(0, 0)]),
  (0, 8, []),
  (0, 8, []),
  (0, 8, []),
  (5, 16, []),
  (3, 6, [(3, 0), (3, 7)]),
  (0, 8, []),
  (0, 8, []),
  (0, 8, []),
  (0, 8, []),
  (0, 8, []),
  (0, 8, []),
  (15, 8, [(0, 0), (0, 0), (2, 3086), (2, 3095), (0, 0), (0, 0), (0, 0), (1, 0)]),
  (4, 8, [(3, 15)]),
  (1, 22, []),
  (1, 22, []),
  (1, 22, []),
  (1, 22, []),
  (1, 22, []),
  (1, 22, []),
  (1, 22, []),
  (1, 22, []),
  (0, 22, []),
  (15, 8, [(0, 0), (0, 0), (2, 3097), (2, 3114), (0, 0), (0, 0), (0, 0), (1, 0)]),
  (4, 16, [(3, 26)]),
  (1, 8, []),
  (1, 8, []),
  (1, 8, []),
  (1, 8, []),
  (1, 8, []),
  (1, 8, []),
  (1, 8, []),
  (1, 8, []),
  (1, 8, []),
  (1, 8, []),
  (1, 8, []),
  (1, 8, []),
  (1, 8, []),
  (1, 8, []),
  (1, 8, []),
  (1, 8, []),
  (0, 8, []),
  (1, 8, []),
  (2, 64, [])]
def zL4 : List zD := [(14, 6, [(2, 4097), (2, 4098), (2, 4099), (0, 0), (2, 4100), (0, 0)]),
  (0, 100, []),
  (0, 100, []),
  (0, 100, []),
  (0, 100, [])]
def zL5 : List zD := [(13, 4, [(2, 5121), (2, 5122), (2, 5123), (0, 0)]),
  (0, 12, []),
  (0, 12, []),
  (0, 12, [])]
def zL6 : List zD := [(12, 3, [(2, 6145), (2, 6150), (2, 6151)]),
  (3, 4, [(3, 0), (6, 2)]),
  (0, 60, []),
  (0, 60, []),
  (0, 60, []),
  (0, 60, []),
  (0, 4, []),
  (0, 4, [])]
def zL7 : List zD := [(18, 43, [(0, 0), (0, 0), (2, 7169), (2, 7170), (2, 7171), (0, 0), (2, 7172), (2, 7173), (2, 7174), (0, 0), (0, 0), (0, 0), (2, 7175), (2, 7176), (0, 0), (2, 7177), (2, 7178), (2, 7179), (2, 7180), (2, 7181), (0, 0), (0, 0), (2, 7182), (2, 7183), (2, 7184), (0, 0), (2, 7185), (2, 7186), (2, 7187), (2, 7188), (2, 7189), (2, 7190), (2, 7191), (0, 0), (2, 7192), (2, 7193), (2, 7194), (2, 7195), (2, 7196), (0, 0), (2, 7197), (2, 7198), (2, 7199)]),
  (0, 4, []),
  (0, 4, []),
  (0, 240, []),
  (0, 16, []),
  (0, 16, []),
  (0, 16, []),
  (0, 54, []),
  (0, 8, []),
  (0, 6, []),
  (1, 16, []),
  (1, 16, []),
  (1, 80, []),
  (1, 5, []),
  (0, 8, []),
  (0, 8, []),
  (0, 8, []),
  (0, 16, []),
  (0, 32, []),
  (0, 16, []),
  (2, 16, []),
  (0, 48, []),
  (1, 320, []),
  (0, 20, []),
  (0, 8, []),
  (1, 8, []),
  (2, 64, []),
  (2, 100, []),
  (0, 100, []),
  (0, 12, []),
  (0, 12, []),
  (0, 12, [])]
theorem zg_1_9 (k : Nat) (h : k < 8) : zL1[9 + k]? = some (0, 6, []) := by
  match k, h with
  | 0, _ => rfl
  | 1, _ => rfl
  | 2, _ => rfl
  | 3, _ => rfl
  | 4, _ => rfl
  | 5, _ => rfl
  | 6, _ => rfl
  | 7, _ => rfl
  | k + 8, h => exact absurd h (by omega)
theorem zg_2_3 (k : Nat) (h : k < 4) : zL2[3 + k]? = some (1, 4, []) := by
  match k, h with
  | 0, _ => rfl
  | 1, _ => rfl
  | 2, _ => rfl
  | 3, _ => rfl
  | k + 4, h => exact absurd h (by omega)
theorem zg_2_8 (k : Nat) (h : k < 4) : zL2[8 + k]? = some (1, 4, []) := by
  match k, h with
  | 0, _ => rfl
  | 1, _ => rfl
  | 2, _ => rfl
  | 3, _ => rfl
  | k + 4, h => exact absurd h (by omega)
theorem zg_2_13 (k : Nat) (h : k < 16) : zL2[13 + k]? = some (1, 5, []) := by
  match k, h with
  | 0, _ => rfl
  | 1, _ => rfl
  | 2, _ => rfl
  | 3, _ => rfl
  | 4, _ => rfl
  | 5, _ => rfl
  | 6, _ => rfl
  | 7, _ => rfl
  | 8, _ => rfl
  | 9, _ => rfl
  | 10, _ => rfl
  | 11, _ => rfl
  | 12, _ => rfl
  | 13, _ => rfl
  | 14, _ => rfl
  | 15, _ => rfl
  | k + 16, h => exact absurd h (by omega)
theorem zg_3_7 (k : Nat) (h : k < 6) : zL3[7 + k]? = some (0, 8, []) := by
  match k, h with
  | 0, _ => rfl
  | 1, _ => rfl
  | 2, _ => rfl
  | 3, _ => rfl
  | 4, _ => rfl
  | 5, _ => rfl
  | k + 6, h => exact absurd h (by omega)
theorem zg_3_15 (k : Nat) (h : k < 8) : zL3[15 + k]? = some (1, 22, []) := by
  match k, h with
  | 0, _ => rfl
  | 1, _ => rfl
  | 2, _ => rfl
  | 3, _ => rfl
  | 4, _ => rfl
  | 5, _ => rfl
  | 6, _ => rfl
  | 7, _ => rfl
  | k + 8, h => exact absurd h (by omega)
theorem zg_3_26 (k : Nat) (h : k < 16) : zL3[26 + k]? = some (1, 8, []) := by
  match k, h with
  | 0, _ => rfl
  | 1, _ => rfl
  | 2, _ => rfl
  | 3, _ => rfl
  | 4, _ => rfl
  | 5, _ => rfl
  | 6, _ => rfl
  | 7, _ => rfl
  | 8, _ => rfl
  | 9, _ => rfl
  | 10, _ => rfl
  | 11, _ => rfl
  | 12, _ => rfl
  | 13, _ => rfl
  | 14, _ => rfl
  | 15, _ => rfl
  | k + 16, h => exact absurd h (by omega)
theorem zg_6_2 (k : Nat) (h : k < 4) : zL6[2 + k]? = some (0, 60, []) := by
  match k, h with
  | 0, _ => rfl
  | 1, _ => rfl
  | 2, _ => rfl
  | 3, _ => rfl
  | k + 4, h => exact absurd h (by omega)
def zclass (k : Int) : Nat := if k = 1 then 3 else if k = 2 then 1 else 0
def zLb (ks : List Int) : List zD := ks.map (fun k => (zclass k + 6, 6, [(0, 0), (0, 0), (0, 0), (0, 0), (0, 0), (0, 0)]))
theorem zLb_at (ks : List Int) {b : Nat} (h : b < ks.length) : (zLb ks)[b]? = some (zclass (ks.getD b 0) + 6, 6, [(0, 0), (0, 0), (0, 0), (0, 0), (0, 0), (0, 0)]) := by
  unfold zLb
  rw [List.getElem?_map, List.getElem?_eq_getElem h]
  simp [List.getD, h]
theorem zks_bar (k : Int) (j0 j3 j1 : Nat) (l : List (Nat × Nat)) (h0 : xks l 0 = some j0) (h3 : xks l 3 = some j0) (h1 : xks l 1 = some j0) : xks l (zclass k) = some j0 := by
  unfold zclass
  split
  · exact h3
  · split
    · exact h1
    · exact h0
def zrowS (j : Nat) : Int := match j with
  | 0 => -1 | 1 => 0 | 2 => 0 | 3 => 1 | 4 => -1 | 5 => -1 | 6 => 1 | _ => 1
def zcolS (j : Nat) : Int := match j with
  | 0 => 0 | 1 => -1 | 2 => 1 | 3 => 0 | 4 => -1 | 5 => 1 | 6 => -1 | _ => 1
theorem zrowS_eq : xrowS = fun j => zI (zrowS j) := by
  funext j
  match j with
  | 0 => rfl
  | 1 => rfl
  | 2 => rfl
  | 3 => rfl
  | 4 => rfl
  | 5 => rfl
  | 6 => rfl
  | _ + 7 => rfl
theorem zcolS_eq : xcolS = fun j => zI (zcolS j) := by
  funext j
  match j with
  | 0 => rfl
  | 1 => rfl
  | 2 => rfl
  | 3 => rfl
  | 4 => rfl
  | 5 => rfl
  | 6 => rfl
  | _ + 7 => rfl
def z9 (e : va_E) : List va_E := [e, .inl (0, 8, .inl xrowS), .inl (0, 8, .inl xcolS)]
def zF : Nat := 100000
theorem zsw {e : Int} (h : zr e) (c t : Nat) (hc : (c : Int) ≤ 2147483647) (l : List (Nat × Nat)) (d : Nat) : xsw ((c, t) :: l) (zI e) d = if e = (c : Int) then t else xsw l (zI e) d := by
  show (if zI e = Int32.ofNat c then t else xsw l (zI e) d) = _
  have : zI e = Int32.ofNat c ↔ e = (c : Int) := by
    rw [← Int32.ofInt_eq_ofNat]
    constructor
    · intro q
      have := congrArg Int32.toInt q
      rwa [zi_toInt h, show (Int32.ofInt (c : Int)).toInt = (c : Int) from zi_toInt (by omega)] at this
    · intro q
      rw [q]; rfl
  by_cases q : e = (c : Int)
  · rw [if_pos q, if_pos (this.mpr q)]
  · rw [if_neg q, if_neg (fun z => q (this.mp z))]
theorem zi_addp1 (a : Int) : zI a + 1 = zI (a + 1) := zi_add a 1
theorem zi_m1e : (-1 : Int32) = zI (-1) := rfl
theorem zi_addm1 (a : Int) : zI a + (-1) = zI (a + (-1)) := by
  rw [← zi_add a (-1), ← zi_m1e]
theorem zi_shl1 {c : Int} (hc : 0 ≤ c ∧ c < 32) : zI 1 <<< (zI c &&& 31) = zI (2 ^ c.toNat) := by
  rw [zi_shl 1 hc, Int.one_mul]
theorem zi_andnot {a b : Int} (ha : 0 ≤ a ∧ zr a) (hb : 0 ≤ b ∧ zr b) : zI a &&& zI (-b - 1) = zI (a - ((a.toNat &&& b.toNat : Nat) : Int)) := by
  rw [← zi_not b, ← zi_sub, ← zi_and ha hb]
  show zI a &&& (zI b ^^^ (-1 : Int32)) = _
  generalize zI a = x
  generalize zI b = y
  apply Int32.toBitVec.inj
  rw [Int32.toBitVec_and, Int32.toBitVec_xor, Int32.toBitVec_sub, Int32.toBitVec_and]
  generalize x.toBitVec = x
  generalize y.toBitVec = y
  show x &&& (y ^^^ 4294967295#32) = x - (x &&& y)
  have e0 : y ^^^ 4294967295#32 = ~~~ y := by
    show y ^^^ BitVec.allOnes 32 = _
    rw [BitVec.xor_allOnes]
  rw [e0]
  have e1 : (x &&& y) + (x &&& ~~~ y) = (x &&& y) ||| (x &&& ~~~ y) := by
    apply BitVec.add_eq_or_of_and_eq_zero
    apply BitVec.eq_of_getLsbD_eq
    intro i hi
    simp only [BitVec.getLsbD_and, BitVec.getLsbD_not, hi, decide_true, Bool.true_and, BitVec.getLsbD_zero]
    cases x.getLsbD i <;> cases y.getLsbD i <;> rfl
  have e2 : (x &&& y) ||| (x &&& ~~~ y) = x := by
    apply BitVec.eq_of_getLsbD_eq
    intro i hi
    simp only [BitVec.getLsbD_or, BitVec.getLsbD_and, BitVec.getLsbD_not, hi, decide_true, Bool.true_and]
    cases x.getLsbD i <;> cases y.getLsbD i <;> rfl
  rw [e2] at e1
  conv => rhs; lhs; rw [← e1]
  rw [BitVec.add_comm, BitVec.add_sub_cancel]
theorem zj_shl1 {c : Int} (hc : 0 ≤ c ∧ c < 64) : (1 : Int64) <<< ((zI c).toInt64 &&& 63) = zJ (2 ^ c.toNat) := by
  obtain ⟨n, rfl⟩ := Int.eq_ofNat_of_zero_le hc.1
  have : ∀ m : Nat, m < 64 → (1 : Int64) <<< ((zI (m : Int)).toInt64 &&& 63) = zJ (2 ^ m) := by decide
  exact this n (by omega)
