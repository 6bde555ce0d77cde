/-! the net: how great its columns are -/
theorem half_tot {f : Int} : ∀ n : Nat, (f < 0 → tot (fun r => if f = ((r / 2 : Nat) : Int) then 1 else 0) n = 0) ∧ (0 ≤ f → ((n : Int) ≤ 2 * f → tot (fun r => if f = ((r / 2 : Nat) : Int) then 1 else 0) n = 0) ∧ ((n : Int) = 2 * f + 1 → tot (fun r => if f = ((r / 2 : Nat) : Int) then 1 else 0) n = 1) ∧ (2 * f + 2 ≤ (n : Int) → tot (fun r => if f = ((r / 2 : Nat) : Int) then 1 else 0) n = 2)) := by
  intro n
  induction n with
  | zero => exact ⟨fun _ => rfl, fun h => ⟨fun _ => rfl, fun q => by omega, fun q => by omega⟩⟩
  | succ n ih =>
    have e : tot (fun r => if f = ((r / 2 : Nat) : Int) then (1 : Int) else 0) (n + 1) = tot (fun r => if f = ((r / 2 : Nat) : Int) then (1 : Int) else 0) n + (if f = ((n / 2 : Nat) : Int) then 1 else 0) := rfl
    rw [e]
    generalize tot (fun r => if f = ((r / 2 : Nat) : Int) then (1 : Int) else 0) n = t at ih
    obtain ⟨i1, i2⟩ := ih
    by_cases q : f = ((n / 2 : Nat) : Int)
    · rw [if_pos q]
      have j := i2 (by omega)
      obtain ⟨j1, j2, j3⟩ := j
      refine ⟨fun h => by omega, fun _ => ⟨fun h => by omega, fun h => ?_, fun h => ?_⟩⟩
      · have := j1 (by omega); omega
      · have := j2 (by omega); omega
    · rw [if_neg q, Int.add_zero]
      refine ⟨i1, fun h0 => ?_⟩
      obtain ⟨j1, j2, j3⟩ := i2 h0
      refine ⟨fun h => j1 (by omega), fun h => ?_, fun h => ?_⟩
      · exfalso
        omega
      · exact j3 (by omega)
theorem half_le {f : Int} (n : Nat) : 0 ≤ tot (fun r => if f = ((r / 2 : Nat) : Int) then (1 : Int) else 0) n ∧ tot (fun r => if f = ((r / 2 : Nat) : Int) then (1 : Int) else 0) n ≤ 2 := by
  have h := half_tot (f := f) n
  generalize tot (fun r => if f = ((r / 2 : Nat) : Int) then (1 : Int) else 0) n = t at h
  rcases Int.lt_or_le f 0 with q | q
  · have := h.1 q; omega
  · obtain ⟨j1, j2, j3⟩ := h.2 q
    by_cases a : (n : Int) ≤ 2 * f
    · have := j1 a; omega
    · by_cases b : (n : Int) = 2 * f + 1
      · have := j2 b; omega
      · have := j3 (by omega); omega
theorem nv_tot {v w : Nat → Int} : ∀ n : Nat, (∀ r, r < n → v r * v r ≤ w r) → nv n v ≤ tot w n := by
  intro n
  induction n with
  | zero => intro _; exact Int.le_refl _
  | succ n ih =>
    intro h
    have a := ih (fun r hr => h r (by omega))
    have b := h n (by omega)
    show nv n v + v n * v n ≤ tot w n + w n
    omega
theorem nv_congr {v w : Nat → Int} : ∀ n : Nat, (∀ r, r < n → v r = w r) → nv n v = nv n w := by
  intro n
  induction n with
  | zero => intro _; rfl
  | succ n ih =>
    intro h
    show nv n v + v n * v n = nv n w + w n * w n
    rw [ih (fun r hr => h r (by omega)), h n (by omega)]
theorem sq25 {x : Int} (h : -5 ≤ x ∧ x ≤ 5) : x * x ≤ 25 := by
  have w := wi_mul2 (a := x) (b := x) (A := 5) (B := 5) ⟨h.1, h.2⟩ ⟨h.1, h.2⟩
  have := w.2
  omega
theorem mA_nv {s3 s8 s7 : zZ} {ks : List Int} (R : ND s3 s8 ks s7) {b : Nat} (hb : (b : Int) < s7 0 25) (n : Nat) : nv n (fun r => mA s3 s8 b r) ≤ 100 := by
  have dr := fun w => dfw_rng R hb w
  obtain ⟨r1, r2, r3, r4, r5, r6, r7, r8, _⟩ := R
  have B := r8 b hb
  have J1 := r5 (s8 b 1).toNat (by omega)
  have J2 := r5 (s8 b 2).toNat (by omega)
  have N := (r6 (s8 b 1).toNat (s8 b 2).toNat (by omega) (by omega) (by omega)).1
  have h1 := nv_tot (v := fun r => mA s3 s8 b r) (w := fun r => 25 * (if fq s3 s8 b 1 = ((r / 2 : Nat) : Int) then 1 else 0) + 25 * (if fq s3 s8 b 2 = ((r / 2 : Nat) : Int) then 1 else 0)) n (fun r _ => by
    show mA s3 s8 b r * mA s3 s8 b r ≤ 25 * (if fq s3 s8 b 1 = ((r / 2 : Nat) : Int) then 1 else 0) + 25 * (if fq s3 s8 b 2 = ((r / 2 : Nat) : Int) then 1 else 0)
    have sq := sq25 (dr (r % 2))
    unfold mA
    by_cases q1 : fq s3 s8 b 1 = ((r / 2 : Nat) : Int)
    · by_cases q2 : fq s3 s8 b 2 = ((r / 2 : Nat) : Int)
      · exfalso
        unfold fq at q1 q2
        have := N (by rw [q1, q2])
        omega
      · rw [if_pos q1, if_neg q2, if_pos q1, if_neg q2, Int.sub_zero]
        omega
    · by_cases q2 : fq s3 s8 b 2 = ((r / 2 : Nat) : Int)
      · rw [if_neg q1, if_pos q2, if_neg q1, if_pos q2, Int.zero_sub, Int.neg_mul_neg]
        omega
      · rw [if_neg q1, if_neg q2, if_neg q1, if_neg q2]
        decide)
  rw [tot_lin] at h1
  have a := half_le (f := fq s3 s8 b 1) n
  have c := half_le (f := fq s3 s8 b 2) n
  omega
theorem cn_surj (s8 : zZ) : ∀ B j : Nat, j < cn s8 B → ∃ b, b < B ∧ s8 b 4 = 0 ∧ cn s8 b = j := by
  intro B
  induction B with
  | zero => intro j h; exact absurd h (Nat.not_lt_zero _)
  | succ B ih =>
    intro j h
    have e : cn s8 (B + 1) = cn s8 B + (if s8 B 4 = 0 then 1 else 0) := rfl
    by_cases q : j < cn s8 B
    · obtain ⟨b, b1, b2⟩ := ih j q
      exact ⟨b, by omega, b2⟩
    · by_cases g : s8 B 4 = 0
      · rw [if_pos g] at e
        exact ⟨B, by omega, g, by omega⟩
      · rw [if_neg g] at e
        omega
theorem T0f_bar {s3 s8 : zZ} {B b r : Nat} (hb : b < B) (g : s8 b 4 = 0) : T0f s3 s8 B r (cn s8 b) = mA s3 s8 b r := by
  unfold T0f Tb
  have lt := cn_lt s8 hb g
  rw [if_neg (by omega), Int.add_zero, tot_one (i := b) B hb (fun l hl hn => if_neg (fun h => hn (cn_inj s8 h.1 g h.2.symm))), if_pos ⟨g, rfl⟩]
theorem T0f_case {s3 s8 : zZ} {B c r : Nat} : T0f s3 s8 B r (cn s8 B + c) = - s3 (7 + c) r := by
  unfold T0f Tb
  rw [if_pos (by omega), Nat.add_sub_cancel_left, tot_zero B (fun b hb => if_neg (fun h => by have := cn_lt s8 hb h.1; omega))]
  omega
theorem T0f_nv {s3 s8 s7 : zZ} {ks : List Int} (R : ND s3 s8 ks s7) {B : Nat} (hB : s7 0 25 = B) (n : Nat) (hn : n ≤ 8) : (∀ j, j < cn s8 B → nv n (fun r => T0f s3 s8 B r j) ≤ 100) ∧ ∀ j, j < cn s8 B + 6 → nv n (fun r => T0f s3 s8 B r j) ≤ 7200 := by
  have p1 : ∀ j, j < cn s8 B → nv n (fun r => T0f s3 s8 B r j) ≤ 100 := by
    intro j hj
    obtain ⟨b, b1, b2, b3⟩ := cn_surj s8 B j hj
    rw [← b3, nv_congr (w := fun r => mA s3 s8 b r) n (fun r _ => T0f_bar b1 b2)]
    exact mA_nv R (by omega) n
  refine ⟨p1, fun j hj => ?_⟩
  by_cases q : j < cn s8 B
  · have := p1 j q; omega
  · obtain ⟨c, rfl⟩ : ∃ c, j = cn s8 B + c := ⟨j - cn s8 B, by omega⟩
    have r10 := R.2.2.2.2.2.2.2.2.2.1
    rw [nv_congr (w := fun r => - s3 (7 + c) r) n (fun r _ => T0f_case)]
    have h := nv_tot (v := fun r => - s3 (7 + c) r) (w := fun _ => 900) n (fun r hr => by
      have L := r10 c r (by omega) (by omega)
      have w := wi_mul2 (a := - s3 (7 + c) r) (b := - s3 (7 + c) r) (A := 30) (B := 30) ⟨by omega, by omega⟩ ⟨by omega, by omega⟩
      have := w.2
      show - s3 (7 + c) r * - s3 (7 + c) r ≤ 900
      omega)
    have t := tot_le (v := fun _ => (900 : Int)) (c := 900) n (fun _ _ => Int.le_refl _)
    omega
