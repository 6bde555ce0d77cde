/-! blocks of loops: numbers -/
set_option maxRecDepth 20000 in
theorem b_X11_commonDivisor_0 (hp : xH) (a : Int64) (b : Int64) {r : Option Value} {hp1 : xH} (K : xBody MX11_commonDivisor 1 15 [some (.long a), none, some (.long b), none, some (.long (fJ9_abs_067f4 a)), none, some (.long (fJ9_abs_067f4 b)), none, some (.int 0), none, none] [] hp r hp1) : xBody MX11_commonDivisor 1 0 [some (.long a), none, some (.long b), none, none, none, none, none, none, none, none] [] hp r hp1 := by
  refine xB.run oX11_commonDivisor 1 (s := (1, [some (.long a), none, some (.long b), none, none, none, none, none, none, none, none], [.long a], hp)) rfl ?_
  refine xB.call oX11_commonDivisor (M2 := MJ9_abs_067f4) rfl rfl ((t_J9_abs_067f4 hp a).deep (by decide : 0 ≤ 0)) ?_
  show xBody MX11_commonDivisor 1 4 [some (.long a), none, some (.long b), none, none, none, none, none, none, none, none] [.long (fJ9_abs_067f4 a)] hp r hp1
  refine xB.run oX11_commonDivisor 2 (s := (7, [some (.long a), none, some (.long b), none, some (.long (fJ9_abs_067f4 a)), none, none, none, none, none, none], [.long b], hp)) rfl ?_
  refine xB.call oX11_commonDivisor (M2 := MJ9_abs_067f4) rfl rfl ((t_J9_abs_067f4 hp b).deep (by decide : 0 ≤ 0)) ?_
  show xBody MX11_commonDivisor 1 10 [some (.long a), none, some (.long b), none, some (.long (fJ9_abs_067f4 a)), none, none, none, none, none, none] [.long (fJ9_abs_067f4 b)] hp r hp1
  refine xB.run oX11_commonDivisor 3 (s := (15, [some (.long a), none, some (.long b), none, some (.long (fJ9_abs_067f4 a)), none, some (.long (fJ9_abs_067f4 b)), none, some (.int 0), none, none], [], hp)) rfl ?_
  exact K
set_option maxRecDepth 20000 in
theorem b_X11_commonDivisor_15 (hp : xH) (a : Int64) (b : Int64) (x : Int64) (y : Int64) (k : Int32) {r : Option Value} {hp1 : xH} (K : (((1000 : Int32) ≤ k → (r = some (.long x) ∧ hp1 = hp)) ∧ (¬ ((1000 : Int32) ≤ k) → ((y = (0 : Int64) → (r = some (.long x) ∧ hp1 = hp)) ∧ (¬ (y = (0 : Int64)) → (¬ (y = 0) ∧ xBody MX11_commonDivisor 1 15 [some (.long a), none, some (.long b), none, some (.long y), none, some (.long (x - x / y * y)), none, some (.int (k + 1)), none, none] [] hp r hp1)))))) : xBody MX11_commonDivisor 1 15 [some (.long a), none, some (.long b), none, some (.long x), none, some (.long y), none, some (.int k), none, none] [] hp r hp1 := by
  refine xB.run oX11_commonDivisor 2 (s := (20, [some (.long a), none, some (.long b), none, some (.long x), none, some (.long y), none, some (.int k), none, none], [.int 1000, .int k], hp)) rfl ?_
  refine xB.br oX11_commonDivisor (P := (1000 : Int32) ≤ k) rfl (fun h2 => ?_) (fun h2 => ?_)
  · have K := K.1 h2
    refine xB.run oX11_commonDivisor 1 (s := (53, [some (.long a), none, some (.long b), none, some (.long x), none, some (.long y), none, some (.int k), none, none], [.long x], hp)) rfl ?_
    exact xB.ret oX11_commonDivisor (r1 := some (.long x)) rfl K.1 K.2
  · have K := K.2 h2
    refine xB.run oX11_commonDivisor 3 (s := (27, [some (.long a), none, some (.long b), none, some (.long x), none, some (.long y), none, some (.int k), none, none], [.int (lg_cmp y 0)], hp)) rfl ?_
    refine xB.brE oX11_commonDivisor (P := y = (0 : Int64)) rfl (xlc_eq y (0 : Int64)) (fun h1 => ?_) (fun h1 => ?_)
    · have K := K.1 h1
      refine xB.run oX11_commonDivisor 1 (s := (53, [some (.long a), none, some (.long b), none, some (.long x), none, some (.long y), none, some (.int k), none, none], [.long x], hp)) rfl ?_
      exact xB.ret oX11_commonDivisor (r1 := some (.long x)) rfl K.1 K.2
    · have K := K.2 h1
      refine xB.run oX11_commonDivisor 2 (s := (34, [some (.long a), none, some (.long b), none, some (.long x), none, some (.long y), none, some (.int k), none, none], [.long y, .long x], hp)) rfl ?_
      refine xB.next oX11_commonDivisor (s := (35, [some (.long a), none, some (.long b), none, some (.long x), none, some (.long y), none, some (.int k), none, none], [.long (x - x / y * y)], hp)) (xdiv_at (by exact K.1) rfl) ?_
      have K := K.2
      refine xB.run oX11_commonDivisor 7 (s := (15, [some (.long a), none, some (.long b), none, some (.long y), none, some (.long (x - x / y * y)), none, some (.int (k + 1)), some (.long (x - x / y * y)), none], [], hp)) rfl ?_
      refine xB.forget (lv1 := [some (.long a), none, some (.long b), none, some (.long y), none, some (.long (x - x / y * y)), none, some (.int (k + 1)), none, none]) (xle_same (xle_same (xle_same (xle_same (xle_same (xle_same (xle_same (xle_same (xle_same (xle_none (xle_same (xle_nil)))))))))))) ?_
      exact K
set_option maxRecDepth 20000 in
theorem b_X11_wholeRoot_0 (hp : xH) (sq : Int64) {r : Option Value} {hp1 : xH} (K : xBody MX11_wholeRoot 0 6 [some (.long sq), none, some (.long 0), none, some (.int 30), none, none] [] hp r hp1) : xBody MX11_wholeRoot 0 0 [some (.long sq), none, none, none, none, none, none] [] hp r hp1 := by
  refine xB.run oX11_wholeRoot 4 (s := (6, [some (.long sq), none, some (.long 0), none, some (.int 30), none, none], [], hp)) rfl ?_
  exact K
set_option maxRecDepth 20000 in
theorem b_X11_wholeRoot_6 (hp : xH) (sq : Int64) (rt : Int64) (bit : Int32) {r : Option Value} {hp1 : xH} (K : ((bit < 0 → (r = some (.long rt) ∧ hp1 = hp)) ∧ (¬ (bit < 0) → ((sq < ((rt + ((1 : Int64) <<< (bit.toInt64 &&& 63))) * (rt + ((1 : Int64) <<< (bit.toInt64 &&& 63)))) → xBody MX11_wholeRoot 0 6 [some (.long sq), none, some (.long rt), none, some (.int (bit + (-1))), none, none] [] hp r hp1) ∧ (¬ (sq < ((rt + ((1 : Int64) <<< (bit.toInt64 &&& 63))) * (rt + ((1 : Int64) <<< (bit.toInt64 &&& 63))))) → xBody MX11_wholeRoot 0 6 [some (.long sq), none, some (.long (rt + ((1 : Int64) <<< (bit.toInt64 &&& 63)))), none, some (.int (bit + (-1))), none, none] [] hp r hp1))))) : xBody MX11_wholeRoot 0 6 [some (.long sq), none, some (.long rt), none, some (.int bit), none, none] [] hp r hp1 := by
  refine xB.run oX11_wholeRoot 1 (s := (8, [some (.long sq), none, some (.long rt), none, some (.int bit), none, none], [.int bit], hp)) rfl ?_
  refine xB.br oX11_wholeRoot (P := bit < 0) rfl (fun h2 => ?_) (fun h2 => ?_)
  · have K := K.1 h2
    refine xB.run oX11_wholeRoot 1 (s := (39, [some (.long sq), none, some (.long rt), none, some (.int bit), none, none], [.long rt], hp)) rfl ?_
    exact xB.ret oX11_wholeRoot (r1 := some (.long rt)) rfl K.1 K.2
  · have K := K.2 h2
    refine xB.run oX11_wholeRoot 11 (s := (26, [some (.long sq), none, some (.long rt), none, some (.int bit), some (.long (rt + ((1 : Int64) <<< (bit.toInt64 &&& 63)))), none], [.int (lg_cmp ((rt + ((1 : Int64) <<< (bit.toInt64 &&& 63))) * (rt + ((1 : Int64) <<< (bit.toInt64 &&& 63)))) sq)], hp)) rfl ?_
    refine xB.brE oX11_wholeRoot (P := sq < ((rt + ((1 : Int64) <<< (bit.toInt64 &&& 63))) * (rt + ((1 : Int64) <<< (bit.toInt64 &&& 63))))) rfl (xlc_gt ((rt + ((1 : Int64) <<< (bit.toInt64 &&& 63))) * (rt + ((1 : Int64) <<< (bit.toInt64 &&& 63)))) sq) (fun h1 => ?_) (fun h1 => ?_)
    · have K := K.1 h1
      refine xB.run oX11_wholeRoot 2 (s := (6, [some (.long sq), none, some (.long rt), none, some (.int (bit + (-1))), some (.long (rt + ((1 : Int64) <<< (bit.toInt64 &&& 63)))), none], [], hp)) rfl ?_
      refine xB.forget (lv1 := [some (.long sq), none, some (.long rt), none, some (.int (bit + (-1))), none, none]) (xle_same (xle_same (xle_same (xle_same (xle_same (xle_none (xle_same (xle_nil)))))))) ?_
      exact K
    · have K := K.2 h1
      refine xB.run oX11_wholeRoot 4 (s := (6, [some (.long sq), none, some (.long (rt + ((1 : Int64) <<< (bit.toInt64 &&& 63)))), none, some (.int (bit + (-1))), some (.long (rt + ((1 : Int64) <<< (bit.toInt64 &&& 63)))), none], [], hp)) rfl ?_
      refine xB.forget (lv1 := [some (.long sq), none, some (.long (rt + ((1 : Int64) <<< (bit.toInt64 &&& 63)))), none, some (.int (bit + (-1))), none, none]) (xle_same (xle_same (xle_same (xle_same (xle_same (xle_none (xle_same (xle_nil)))))))) ?_
      exact K
set_option maxRecDepth 20000 in
theorem b_X12_common_0 (hp : xH) (a : Int64) (b : Int64) {r : Option Value} {hp1 : xH} (K : xBody MX12_common 1 12 [some (.long a), none, some (.long b), none, some (.long (fX12_size a)), none, some (.long (fX12_size b)), none, none, none] [] hp r hp1) : xBody MX12_common 1 0 [some (.long a), none, some (.long b), none, none, none, none, none, none, none] [] hp r hp1 := by
  refine xB.run oX12_common 1 (s := (1, [some (.long a), none, some (.long b), none, none, none, none, none, none, none], [.long a], hp)) rfl ?_
  refine xB.call oX12_common (M2 := MX12_size) rfl rfl ((t_X12_size hp a).deep (by decide : 0 ≤ 0)) ?_
  show xBody MX12_common 1 4 [some (.long a), none, some (.long b), none, none, none, none, none, none, none] [.long (fX12_size a)] hp r hp1
  refine xB.run oX12_common 2 (s := (7, [some (.long a), none, some (.long b), none, some (.long (fX12_size a)), none, none, none, none, none], [.long b], hp)) rfl ?_
  refine xB.call oX12_common (M2 := MX12_size) rfl rfl ((t_X12_size hp b).deep (by decide : 0 ≤ 0)) ?_
  show xBody MX12_common 1 10 [some (.long a), none, some (.long b), none, some (.long (fX12_size a)), none, none, none, none, none] [.long (fX12_size b)] hp r hp1
  refine xB.run oX12_common 1 (s := (12, [some (.long a), none, some (.long b), none, some (.long (fX12_size a)), none, some (.long (fX12_size b)), none, none, none], [], hp)) rfl ?_
  exact K
set_option maxRecDepth 20000 in
theorem b_X12_common_12 (hp : xH) (a : Int64) (b : Int64) (x : Int64) (y : Int64) {r : Option Value} {hp1 : xH} (K : ((y = (0 : Int64) → (r = some (.long x) ∧ hp1 = hp)) ∧ (¬ (y = (0 : Int64)) → (¬ (y = 0) ∧ xBody MX12_common 1 12 [some (.long a), none, some (.long b), none, some (.long y), none, some (.long (x - x / y * y)), none, none, none] [] hp r hp1)))) : xBody MX12_common 1 12 [some (.long a), none, some (.long b), none, some (.long x), none, some (.long y), none, none, none] [] hp r hp1 := by
  refine xB.run oX12_common 3 (s := (16, [some (.long a), none, some (.long b), none, some (.long x), none, some (.long y), none, none, none], [.int (lg_cmp y 0)], hp)) rfl ?_
  refine xB.brE oX12_common (P := y = (0 : Int64)) rfl (xlc_eq y (0 : Int64)) (fun h1 => ?_) (fun h1 => ?_)
  · have K := K.1 h1
    refine xB.run oX12_common 1 (s := (39, [some (.long a), none, some (.long b), none, some (.long x), none, some (.long y), none, none, none], [.long x], hp)) rfl ?_
    exact xB.ret oX12_common (r1 := some (.long x)) rfl K.1 K.2
  · have K := K.2 h1
    refine xB.run oX12_common 2 (s := (23, [some (.long a), none, some (.long b), none, some (.long x), none, some (.long y), none, none, none], [.long y, .long x], hp)) rfl ?_
    refine xB.next oX12_common (s := (24, [some (.long a), none, some (.long b), none, some (.long x), none, some (.long y), none, none, none], [.long (x - x / y * y)], hp)) (xdiv_at (by exact K.1) rfl) ?_
    have K := K.2
    refine xB.run oX12_common 6 (s := (12, [some (.long a), none, some (.long b), none, some (.long y), none, some (.long (x - x / y * y)), none, some (.long (x - x / y * y)), none], [], hp)) rfl ?_
    refine xB.forget (lv1 := [some (.long a), none, some (.long b), none, some (.long y), none, some (.long (x - x / y * y)), none, none, none]) (xle_same (xle_same (xle_same (xle_same (xle_same (xle_same (xle_same (xle_same (xle_none (xle_same (xle_nil))))))))))) ?_
    exact K
set_option maxRecDepth 20000 in
theorem b_X12_root_0 (hp : xH) (a : Int64) (b : Int64) {r : Option Value} {hp1 : xH} (K : xBody MX12_root 0 8 [some (.long a), none, some (.long b), none, some (.long 0), none, some (.long 4194304), none] [] hp r hp1) : xBody MX12_root 0 0 [some (.long a), none, some (.long b), none, none, none, none, none] [] hp r hp1 := by
  refine xB.run oX12_root 4 (s := (8, [some (.long a), none, some (.long b), none, some (.long 0), none, some (.long 4194304), none], [], hp)) rfl ?_
  exact K
set_option maxRecDepth 20000 in
theorem b_X12_root_8 (hp : xH) (a : Int64) (b : Int64) (rt : Int64) (stp : Int64) {r : Option Value} {hp1 : xH} (K : ((stp ≤ (0 : Int64) → (r = some (.int rt.toInt32) ∧ hp1 = hp)) ∧ (¬ (stp ≤ (0 : Int64)) → ((a < (((rt + stp) * (rt + stp)) * b) → xBody MX12_root 0 8 [some (.long a), none, some (.long b), none, some (.long rt), none, some (.long (stp / 2)), none] [] hp r hp1) ∧ (¬ (a < (((rt + stp) * (rt + stp)) * b)) → xBody MX12_root 0 8 [some (.long a), none, some (.long b), none, some (.long (rt + stp)), none, some (.long (stp / 2)), none] [] hp r hp1))))) : xBody MX12_root 0 8 [some (.long a), none, some (.long b), none, some (.long rt), none, some (.long stp), none] [] hp r hp1 := by
  refine xB.run oX12_root 3 (s := (12, [some (.long a), none, some (.long b), none, some (.long rt), none, some (.long stp), none], [.int (lg_cmp stp 0)], hp)) rfl ?_
  refine xB.brE oX12_root (P := stp ≤ (0 : Int64)) rfl (xlc_le stp (0 : Int64)) (fun h2 => ?_) (fun h2 => ?_)
  · have K := K.1 h2
    refine xB.run oX12_root 2 (s := (54, [some (.long a), none, some (.long b), none, some (.long rt), none, some (.long stp), none], [.int rt.toInt32], hp)) rfl ?_
    exact xB.ret oX12_root (r1 := some (.int rt.toInt32)) rfl K.1 K.2
  · have K := K.2 h2
    refine xB.run oX12_root 11 (s := (30, [some (.long a), none, some (.long b), none, some (.long rt), none, some (.long stp), none], [.int (lg_cmp (((rt + stp) * (rt + stp)) * b) a)], hp)) rfl ?_
    refine xB.brE oX12_root (P := a < (((rt + stp) * (rt + stp)) * b)) rfl (xlc_gt (((rt + stp) * (rt + stp)) * b) a) (fun h1 => ?_) (fun h1 => ?_)
    · have K := K.1 h1
      refine xB.run oX12_root 2 (s := (45, [some (.long a), none, some (.long b), none, some (.long rt), none, some (.long stp), none], [.long 2, .long stp], hp)) rfl ?_
      refine xB.next oX12_root (s := (46, [some (.long a), none, some (.long b), none, some (.long rt), none, some (.long stp), none], [.long (stp / 2)], hp)) rfl ?_
      refine xB.run oX12_root 2 (s := (8, [some (.long a), none, some (.long b), none, some (.long rt), none, some (.long (stp / 2)), none], [], hp)) rfl ?_
      exact K
    · have K := K.2 h1
      refine xB.run oX12_root 6 (s := (45, [some (.long a), none, some (.long b), none, some (.long (rt + stp)), none, some (.long stp), none], [.long 2, .long stp], hp)) rfl ?_
      refine xB.next oX12_root (s := (46, [some (.long a), none, some (.long b), none, some (.long (rt + stp)), none, some (.long stp), none], [.long (stp / 2)], hp)) rfl ?_
      refine xB.run oX12_root 2 (s := (8, [some (.long a), none, some (.long b), none, some (.long (rt + stp)), none, some (.long (stp / 2)), none], [], hp)) rfl ?_
      exact K
set_option maxRecDepth 20000 in
theorem b_X12_bitsOf_0 (hp : xH) (set : Int32) {r : Option Value} {hp1 : xH} (K : xBody MX12_bitsOf 0 4 [some (.int set), some (.int 0), some (.int 0)] [] hp r hp1) : xBody MX12_bitsOf 0 0 [some (.int set), none, none] [] hp r hp1 := by
  refine xB.run oX12_bitsOf 4 (s := (4, [some (.int set), some (.int 0), some (.int 0)], [], hp)) rfl ?_
  exact K
set_option maxRecDepth 20000 in
theorem b_X12_bitsOf_4 (hp : xH) (set : Int32) (n : Int32) (k : Int32) {r : Option Value} {hp1 : xH} (K : (((16 : Int32) ≤ k → (r = some (.int n) ∧ hp1 = hp)) ∧ (¬ ((16 : Int32) ≤ k) → xBody MX12_bitsOf 0 4 [some (.int set), some (.int (n + ((set >>> (k &&& 31)) &&& 1))), some (.int (k + 1))] [] hp r hp1))) : xBody MX12_bitsOf 0 4 [some (.int set), some (.int n), some (.int k)] [] hp r hp1 := by
  refine xB.run oX12_bitsOf 2 (s := (7, [some (.int set), some (.int n), some (.int k)], [.int 16, .int k], hp)) rfl ?_
  refine xB.br oX12_bitsOf (P := (16 : Int32) ≤ k) rfl (fun h1 => ?_) (fun h1 => ?_)
  · have K := K.1 h1
    refine xB.run oX12_bitsOf 1 (s := (25, [some (.int set), some (.int n), some (.int k)], [.int n], hp)) rfl ?_
    exact xB.ret oX12_bitsOf (r1 := some (.int n)) rfl K.1 K.2
  · have K := K.2 h1
    refine xB.run oX12_bitsOf 10 (s := (4, [some (.int set), some (.int (n + ((set >>> (k &&& 31)) &&& 1))), some (.int (k + 1))], [], hp)) rfl ?_
    exact K
