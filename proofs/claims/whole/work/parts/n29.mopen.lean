/-! the lengths table: one column stays open -/
/-- what an open column says -/
theorem kvec {s3 s8 : zZ} {B N : Nat} {sg : Int} (hs : sg = 1 ∨ sg = -1) {st : Nat × Int × (Nat → Nat → Int) × (Nat → Int)} {K : Int} (C : CI (cn s8 B) N N (fun j r => Tg s3 s8 B sg r j) K st) {c : Nat} (hc : c < N) (hL : st.2.2.2 c = -1) : (∀ r, st.1 ≤ r → r < cn s8 B → st.2.2.1 r c = 0) ∧ Ann s3 s8 B N (fun j => if j = c then st.2.1 else (if st.2.2.2 j = -1 then 0 else - st.2.2.1 (st.2.2.2 j).toNat c)) := by
  obtain ⟨cc, u, z, pc, Bi, P⟩ := C
  have inj := Pvt_inj P
  obtain ⟨P1, P2, P3⟩ := P
  have h0 : ∀ r, st.1 ≤ r → r < cn s8 B → st.2.2.1 r c = 0 := by
    rcases P2 c hc with h | ⟨i, i1, i2⟩
    · exact h.2
    · have := (P1 i i1).2.1
      rw [← i2, hL] at this
      omega
  refine ⟨h0, fun b hb hb0 => ?_⟩
  have lt := cn_lt s8 hb hb0
  have e := bI_E Bi hc h0 (s := cn s8 b) lt
  obtain ⟨x, x1, x2, x3⟩ := tot_piv (B := N) (fun i hi => (P1 i hi).1) inj (fun i => st.2.2.1 i c)
  have e2 : tot (fun i => st.2.2.1 i c * cc i (cn s8 b)) st.1 = tot (fun j => x j * Tg s3 s8 B sg (cn s8 b) j) N := by
    rw [← x3 (fun j => Tg s3 s8 B sg (cn s8 b) j)]
    exact tot_congr _ (fun i hi => by rw [(P1 i hi).2.2.1])
  rw [e2] at e
  try dsimp only at e
  have xe : ∀ j, j < N → (if j = c then st.2.1 else (if st.2.2.2 j = -1 then 0 else - st.2.2.1 (st.2.2.2 j).toNat c)) = (if j = c then st.2.1 else 0) + -1 * x j := by
    intro j hj
    rcases P2 j hj with h | ⟨i, i1, i2⟩
    · have xz : x j = 0 := x1 j (fun i hi q => by
        have := (P1 i hi).2.1
        rw [← q, h.1] at this
        omega)
      rw [xz, if_pos h.1]
      omega
    · have xv : x j = st.2.2.1 i c := by rw [i2]; exact x2 i i1
      have Lv := (P1 i i1).2.1
      rw [← i2] at Lv
      have jc : j ≠ c := fun q => by rw [q, hL] at Lv; omega
      rw [if_neg jc, if_neg jc, if_neg (by omega), Lv, Int.toNat_natCast, xv]
      omega
  have t1 : tot (fun j => (if j = c then st.2.1 else 0) * Tg s3 s8 B sg (cn s8 b) j) N = st.2.1 * Tg s3 s8 B sg (cn s8 b) c := by
    rw [tot_one (i := c) N hc (fun l hl hn => by rw [if_neg hn, Int.zero_mul]), if_pos rfl]
  have t2 := tot_lin (f := fun j => (if j = c then st.2.1 else 0) * Tg s3 s8 B sg (cn s8 b) j) (h := fun j => x j * Tg s3 s8 B sg (cn s8 b) j) (a := 1) (b := -1) N
  rw [t1, ← e] at t2
  have t3 : tot (fun j => 1 * ((if j = c then st.2.1 else 0) * Tg s3 s8 B sg (cn s8 b) j) + -1 * (x j * Tg s3 s8 B sg (cn s8 b) j)) N = sg * tot (fun s => (if s = c then st.2.1 else (if st.2.2.2 s = -1 then 0 else - st.2.2.1 (st.2.2.2 s).toNat c)) * mA s3 s8 b s) N := by
    rw [← tot_mulc]
    refine tot_congr N (fun j hj => ?_)
    rw [xe j hj, Tg_at hb hb0]
    grind
  rw [t3] at t2
  have t4 : sg * tot (fun s => (if s = c then st.2.1 else (if st.2.2.2 s = -1 then 0 else - st.2.2.1 (st.2.2.2 s).toNat c)) * mA s3 s8 b s) N = 0 := by
    rw [t2]
    omega
  exact (Int.mul_eq_zero.mp t4).resolve_left (by rcases hs with rfl | rfl <;> decide)
def OP (s3 s8 : zZ) (B N : Nat) (sg : Int) (c : Nat) : Prop := c < N ∧ (clr (cn s8 B) (0, 1, Tg s3 s8 B sg, fun _ => -1) N).2.2.2 c = -1 ∧ (clr (cn s8 B) (0, 1, Tg s3 s8 B sg, fun _ => -1) N).1 + 1 ≤ N ∧ (∀ j, j < N → j ≠ c → ∃ i : Nat, (clr (cn s8 B) (0, 1, Tg s3 s8 B sg, fun _ => -1) N).2.2.2 j = i ∧ i < (clr (cn s8 B) (0, 1, Tg s3 s8 B sg, fun _ => -1) N).1 ∧ ∀ r, r < cn s8 B → (clr (cn s8 B) (0, 1, Tg s3 s8 B sg, fun _ => -1) N).2.2.1 r j = if r = i then (clr (cn s8 B) (0, 1, Tg s3 s8 B sg, fun _ => -1) N).2.1 else 0) ∧ Ann s3 s8 B N (fun j => if j = c then (clr (cn s8 B) (0, 1, Tg s3 s8 B sg, fun _ => -1) N).2.1 else - (clr (cn s8 B) (0, 1, Tg s3 s8 B sg, fun _ => -1) N).2.2.1 ((clr (cn s8 B) (0, 1, Tg s3 s8 B sg, fun _ => -1) N).2.2.2 j).toNat c)
theorem Tg_CI {s3 s8 s7 : zZ} {ks : List Int} (R : ND s3 s8 ks s7) {B : Nat} (hB : s7 0 25 = B) {sg : Int} (hs : sg = 1 ∨ sg = -1) (N : Nat) : ∀ q, q ≤ N → CI (cn s8 B) N q (fun j r => Tg s3 s8 B sg r j) 200 (clr (cn s8 B) (0, 1, Tg s3 s8 B sg, fun _ => -1) q) := clr_CI (by decide) (Nat.le_refl _) (fun j _ => Tg_nv R hB hs j)
theorem opn {s3 s8 s7 : zZ} {ks : List Int} (R : ND s3 s8 ks s7) {B N : Nat} (hB : s7 0 25 = B) (hN : N ≤ 8) (hk : (XN s3 s8 B N).1 + 1 = N) {sg : Int} (hs : sg = 1 ∨ sg = -1) : ∃ c, OP s3 s8 B N sg c := by
  have C := Tg_CI R hB hs N N (Nat.le_refl _)
  obtain ⟨⟨z0, za, s0, s1, s2⟩, x, x1, x2⟩ := ker R hB hN hk
  have kv := fun c hc hL => kvec (c := c) hs C hc hL
  have lt := fun c => clr_lt (cn s8 B) (T0 := Tg s3 s8 B sg) (c := c) N
  have C' := C
  unfold OP
  generalize clr (cn s8 B) (0, 1, Tg s3 s8 B sg, fun _ => -1) N = st at *
  obtain ⟨cc, u, z, pc, Bi, P⟩ := C
  have inj := Pvt_inj P
  obtain ⟨P1, P2, P3⟩ := P
  have D0 := Bi.2.1
  have ex : ∃ c, c < N ∧ st.2.2.2 c = -1 := by
    rcases P2 s0 s1 with h | ⟨i, i1, i2⟩
    · exact ⟨s0, s1, h.1⟩
    · refine Classical.byContradiction (fun no => ?_)
      have all : ∀ j, j < N → ∃ i, i < st.1 ∧ j = pc i := fun j hj => by
        rcases P2 j hj with h | h
        · exact absurd ⟨j, hj, h.1⟩ no
        · exact h
      obtain ⟨F, F1, w, w0, F2⟩ := bI_fi Bi i1
      have fz : F (fun _ => 0) = 0 := by
        have := F1 0 (fun _ => 0) (fun _ _ => 0) 1 (fun _ => 0) (fun s _ => by rfl)
        rw [Int.one_mul] at this
        exact this
      have f := F1 N z0 (fun j r => Tg s3 s8 B sg r j) 1 (fun _ => 0) (fun s hs' => by
        obtain ⟨b, b1, b2, b3⟩ := cn_surj s8 B s hs'
        have a := za b b1 b2
        rw [tot_congr (w := fun j => sg * (z0 j * mA s3 s8 b j)) N (fun j _ => by
          try dsimp only
          rw [← b3, Tg_at b1 b2, Int.mul_left_comm]), tot_mulc, a]
        omega)
      rw [fz, Int.mul_zero] at f
      have g : tot (fun j => st.2.1 * (z0 j * F ((fun j r => Tg s3 s8 B sg r j) j))) N = z0 s0 * (st.2.1 * w) := by
        rw [tot_one (i := s0) N s1 (fun l hl hn => ?_)]
        · rw [Int.mul_left_comm, F2 s0 s1, i2, (P1 i i1).2.2.2 i (by have := Bi.1; omega), if_pos rfl]
        · obtain ⟨l', l1, l2⟩ := all l hl
          have := F2 l hl
          rw [Int.mul_left_comm, this, l2, (P1 l' l1).2.2.2 i (by have := Bi.1; omega), if_neg (fun e => hn (by rw [l2, ← e, i2])), Int.zero_mul, Int.mul_zero]
      rw [tot_mulc, ← f, Int.mul_zero] at g
      exact mul_ne s2 (mul_ne D0 w0) g.symm
  obtain ⟨c, c1, c2⟩ := ex
  have one : ∀ j, j < N → j ≠ c → st.2.2.2 j ≠ -1 := by
    intro j hj hn hL
    have kv' : ∀ c, c < N → st.2.2.2 c = -1 → ∃ v : Nat → Int, Ann s3 s8 B N v ∧ v c = st.2.1 ∧ ∀ j, j ≠ c → st.2.2.2 j = -1 → v j = 0 := fun c hc hL => ⟨_, (kv c hc hL).2, if_pos rfl, fun j hj h => by (try dsimp only); rw [if_neg hj, if_pos h]⟩
    obtain ⟨v1, a1, b1, d1⟩ := kv' c c1 c2
    obtain ⟨v2, a2, b2, d2⟩ := kv' j hj hL
    have k1 := (x2 v2 a2).2 v1 a1 c c1
    rw [d2 c (fun e => hn e.symm) c2, b1, Int.mul_zero] at k1
    have z2 := (x2 v2 a2).1 ((Int.mul_eq_zero.mp k1.symm).resolve_right D0) j hj
    rw [b2] at z2
    exact D0 z2
  refine ⟨c, c1, c2, (lt c).2 c1 c2, fun j hj hn => ?_, fun b hb h0 => ?_⟩
  · rcases P2 j hj with h | ⟨i, i1, i2⟩
    · exact absurd h.1 (one j hj hn)
    · have p := P1 i i1
      refine ⟨i, by rw [i2]; exact p.2.1, i1, fun r hr => ?_⟩
      rw [i2]
      exact p.2.2.2 r hr
  · have a := (kv c c1 c2).2 b hb h0
    rw [← a]
    refine tot_congr N (fun j hj => ?_)
    try dsimp only
    by_cases e : j = c
    · rw [if_pos e, if_pos e]
    · rw [if_neg e, if_neg e, if_neg (one j hj e)]
