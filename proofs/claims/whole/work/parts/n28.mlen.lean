/-! the lengths table -/
def Tg (s3 s8 : zZ) (B : Nat) (sg : Int) (r j : Nat) : Int := tot (fun b => if s8 b 4 = 0 ∧ r = cn s8 b then sg * mA s3 s8 b j else 0) B
theorem Tg_at {s3 s8 : zZ} {B b j : Nat} {sg : Int} (hb : b < B) (g : s8 b 4 = 0) : Tg s3 s8 B sg (cn s8 b) j = sg * mA s3 s8 b j := by
  unfold Tg
  rw [tot_one (i := b) B hb (fun l hl hn => if_neg (fun h => hn (cn_inj s8 h.1 g h.2.symm))), if_pos ⟨g, rfl⟩]
theorem mA_5 {s3 s8 s7 : zZ} {ks : List Int} (R : ND s3 s8 ks s7) {b : Nat} (hb : (b : Int) < s7 0 25) (r : Nat) : (-5 ≤ mA s3 s8 b r ∧ mA s3 s8 b r ≤ 5) ∧ (mA s3 s8 b r ≠ 0 → fq s3 s8 b 1 = ((r / 2 : Nat) : Int) ∨ fq s3 s8 b 2 = ((r / 2 : Nat) : Int)) := by
  have dr := dfw_rng R hb (r % 2)
  obtain ⟨r1, r2, r3, r4, r5, r6, r7, r8, _⟩ := R
  have B := r8 b hb
  have J1 := r5 (s8 b 1).toNat (by omega)
  have J2 := r5 (s8 b 2).toNat (by omega)
  have N := (r6 (s8 b 1).toNat (s8 b 2).toNat (by omega) (by omega) (by omega)).1
  unfold mA
  by_cases q1 : fq s3 s8 b 1 = ((r / 2 : Nat) : Int)
  · by_cases q2 : fq s3 s8 b 2 = ((r / 2 : Nat) : Int)
    · exfalso
      unfold fq at q1 q2
      have := N (by rw [q1, q2])
      omega
    · rw [if_pos q1, if_neg q2]
      exact ⟨by omega, fun _ => Or.inl q1⟩
  · by_cases q2 : fq s3 s8 b 2 = ((r / 2 : Nat) : Int)
    · rw [if_neg q1, if_pos q2]
      exact ⟨by omega, fun _ => Or.inr q2⟩
    · rw [if_neg q1, if_neg q2]
      exact ⟨by omega, fun h => absurd rfl h⟩
theorem tn_one : ∀ n : Nat, tn (fun _ => 1) n = n := by
  intro n
  induction n with
  | zero => rfl
  | succ n ih =>
    show tn (fun _ => 1) n + 1 = n + 1
    rw [ih]
theorem tn_tot {e : Nat → Nat} {v : Nat → Int} : ∀ n : Nat, (∀ i, i < n → v i ≤ 25 * (e i : Int)) → tot v n ≤ 25 * ((tn e n : Nat) : Int) := by
  intro n
  induction n with
  | zero => intro _; exact Int.le_refl _
  | succ n ih =>
    intro h
    have h1 := ih (fun i hi => h i (by omega))
    have h2 := h n (by omega)
    show tot v n + v n ≤ 25 * ((tn e n + e n : Nat) : Int)
    omega
theorem touch8 {s3 s8 s7 : zZ} {ks : List Int} (R : ND s3 s8 ks s7) {B : Nat} (hB : s7 0 25 = B) (f : Nat) : tn (fun b => if (decide (fq s3 s8 b 1 = (f : Int)) || decide (fq s3 s8 b 2 = (f : Int))) = true then (fun _ => 1) ((fun b => if fq s3 s8 b 1 = (f : Int) then (s8 b 2).toNat else (s8 b 1).toNat) b) else 0) B ≤ 8 := by
  obtain ⟨r1, r2, r3, r4, r5, r6, r7, r8, r9, _⟩ := R
  have h := inj_sum (code := fun b => if fq s3 s8 b 1 = (f : Int) then (s8 b 2).toNat else (s8 b 1).toNat) (ph := fun b => decide (fq s3 s8 b 1 = (f : Int)) || decide (fq s3 s8 b 2 = (f : Int))) (N := 8) B (fun _ => 1) (fun b hb _ => by
    have X := r8 b (by omega)
    by_cases q : fq s3 s8 b 1 = (f : Int)
    · rw [if_pos q]; omega
    · rw [if_neg q]; omega) (fun b d hb hd p q e => by
    have X := r8 b (by omega)
    have Y := r8 d (by omega)
    have u : ∀ x y : Nat, (x : Int) < s7 0 20 → (y : Int) < s7 0 20 → s3 4 x = (f : Int) → s3 4 y = (f : Int) → x = y := by
      intro x y hx hy hf hg
      by_cases w : x = y
      · exact w
      · have := (r6 x y hx hy w).1 (by rw [hf, hg])
        omega
    by_cases w : b = d
    · exact w
    · exfalso
      have n := r9 b d (by omega) (by omega) w
      rw [Bool.or_eq_true, decide_eq_true_eq, decide_eq_true_eq] at p q
      unfold fq at p q
      unfold fq at e
      by_cases p1 : s3 4 (s8 b 1).toNat = (f : Int)
      · rw [if_pos p1] at e
        by_cases q1 : s3 4 (s8 d 1).toNat = (f : Int)
        · rw [if_pos q1] at e
          have := u (s8 b 1).toNat (s8 d 1).toNat (by omega) (by omega) p1 q1
          exact n.1 ⟨by omega, by omega⟩
        · rw [if_neg q1] at e
          have q2 := q.resolve_left q1
          have := u (s8 b 1).toNat (s8 d 2).toNat (by omega) (by omega) p1 q2
          exact n.2 ⟨by omega, by omega⟩
      · rw [if_neg p1] at e
        have p2 := p.resolve_left p1
        by_cases q1 : s3 4 (s8 d 1).toNat = (f : Int)
        · rw [if_pos q1] at e
          have := u (s8 b 2).toNat (s8 d 1).toNat (by omega) (by omega) p2 q1
          exact n.2 ⟨by omega, by omega⟩
        · rw [if_neg q1] at e
          have q2 := q.resolve_left q1
          have := u (s8 b 2).toNat (s8 d 2).toNat (by omega) (by omega) p2 q2
          exact n.1 ⟨by omega, by omega⟩)
  rw [tn_one] at h
  exact h
theorem Tg_5 {s3 s8 s7 : zZ} {ks : List Int} (R : ND s3 s8 ks s7) {B : Nat} (hB : s7 0 25 = B) {sg : Int} (hs : sg = 1 ∨ sg = -1) {r : Nat} (hr : r < cn s8 B) (j : Nat) : wi (Tg s3 s8 B sg r j) 5 := by
  obtain ⟨b, b1, b2, b3⟩ := cn_surj s8 B r hr
  rw [← b3, Tg_at b1 b2]
  have h := (mA_5 R (b := b) (by omega) j).1
  unfold wi
  rcases hs with rfl | rfl
  · omega
  · omega
theorem nv_is {v : Nat → Int} : ∀ n : Nat, nv n v = tot (fun r => v r * v r) n := by
  intro n
  induction n with
  | zero => rfl
  | succ n ih =>
    show nv n v + v n * v n = tot (fun r => v r * v r) n + v n * v n
    rw [ih]
theorem Tg_nv {s3 s8 s7 : zZ} {ks : List Int} (R : ND s3 s8 ks s7) {B : Nat} (hB : s7 0 25 = B) {sg : Int} (hs : sg = 1 ∨ sg = -1) (j : Nat) : nv (cn s8 B) (fun r => Tg s3 s8 B sg r j) ≤ 200 := by
  rw [nv_is, ← tot_cn s8 (g := fun b => mA s3 s8 b j * mA s3 s8 b j) (G := fun r => Tg s3 s8 B sg r j * Tg s3 s8 B sg r j) B (fun b hb h => by
    rw [Tg_at hb h]
    rcases hs with rfl | rfl
    · rw [Int.one_mul]
    · grind)]
  have h := tn_tot (v := fun b => if s8 b 4 = 0 then mA s3 s8 b j * mA s3 s8 b j else 0) (e := fun b => if (decide (fq s3 s8 b 1 = ((j / 2 : Nat) : Int)) || decide (fq s3 s8 b 2 = ((j / 2 : Nat) : Int))) = true then (fun _ => 1) ((fun b => if fq s3 s8 b 1 = ((j / 2 : Nat) : Int) then (s8 b 2).toNat else (s8 b 1).toNat) b) else 0) B (fun b hb => by
    dsimp only
    have m := mA_5 R (b := b) (by omega) j
    have sq := sq25 m.1
    by_cases q : mA s3 s8 b j = 0
    · rw [q, Int.zero_mul, ite_self]
      omega
    · rw [if_pos (show (decide (fq s3 s8 b 1 = ((j / 2 : Nat) : Int)) || decide (fq s3 s8 b 2 = ((j / 2 : Nat) : Int))) = true by rw [Bool.or_eq_true, decide_eq_true_eq, decide_eq_true_eq]; exact m.2 q)]
      by_cases g : s8 b 4 = 0
      · rw [if_pos g]; omega
      · rw [if_neg g]; omega)
  have t := touch8 R hB (j / 2)
  omega
theorem clr_mono (n : Nat) {T0 : Nat → Nat → Int} (a : Nat) : ∀ d : Nat, (clr n (0, 1, T0, fun _ => -1) a).1 ≤ (clr n (0, 1, T0, fun _ => -1) (a + d)).1 := by
  intro d
  induction d with
  | zero => exact Nat.le_refl _
  | succ d ih =>
    refine Nat.le_trans ih ?_
    show _ ≤ (clr1 n (a + d) (clr n (0, 1, T0, fun _ => -1) (a + d))).1
    unfold clr1
    split
    · exact Nat.le_succ _
    · exact Nat.le_refl _
theorem clr_lt (n : Nat) {T0 : Nat → Nat → Int} {c : Nat} : ∀ q : Nat, (clr n (0, 1, T0, fun _ => -1) q).1 ≤ q ∧ (c < q → (clr n (0, 1, T0, fun _ => -1) q).2.2.2 c = -1 → (clr n (0, 1, T0, fun _ => -1) q).1 + 1 ≤ q) := by
  intro q
  induction q with
  | zero => exact ⟨Nat.le_refl _, fun h => by omega⟩
  | succ q ih =>
    have e1 : clr n (0, 1, T0, fun _ => -1) (q + 1) = clr1 n q (clr n (0, 1, T0, fun _ => -1) q) := rfl
    rw [e1]
    generalize clr n (0, 1, T0, fun _ => -1) q = st at *
    unfold clr1
    split
    · dsimp only
      refine ⟨by omega, fun h1 h2 => ?_⟩
      by_cases e : c = q
      · rw [if_pos e] at h2
        omega
      · rw [if_neg e] at h2
        have := ih.2 (by omega) h2
        omega
    · refine ⟨by omega, fun h1 h2 => ?_⟩
      by_cases e : c = q
      · omega
      · have := ih.2 (by omega) h2
        omega
