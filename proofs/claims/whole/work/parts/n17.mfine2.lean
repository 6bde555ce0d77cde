/-! the net: the finer bounds of the table -/
def frX (s3 : zZ) (N p f : Nat) : Int := tot (fun j => if s3 4 j = (f : Int) then s3 p j else 0) N
theorem frX_at {s3 s8 s7 : zZ} {ks : List Int} (R : ND s3 s8 ks s7) {N : Nat} (hN : s7 0 20 = N) {p j f : Nat} (hj : j < N) (hf : s3 4 j = f) : frX s3 N p f = s3 p j := by
  have r6 := R.2.2.2.2.2.1
  unfold frX
  rw [tot_one (i := j) N hj (fun l hl h => if_neg (fun q => by
    have := (r6 l j (by omega) (by omega) h).1 (by rw [q, hf])
    omega)), if_pos hf]
theorem frX_rng {s3 s8 s7 : zZ} {ks : List Int} (R : ND s3 s8 ks s7) {N : Nat} (hN : s7 0 20 = N) {p : Nat} (hp : p = 2 ∨ p = 3) (f : Nat) : 0 ≤ frX s3 N p f ∧ frX s3 N p f ≤ 5 := by
  have r5 := R.2.2.2.2.1
  by_cases h : ∃ j, j < N ∧ s3 4 j = (f : Int)
  · obtain ⟨j, h1, h2⟩ := h
    rw [frX_at R hN h1 h2]
    have := r5 j (by omega)
    rcases hp with rfl | rfl <;> omega
  · unfold frX
    rw [tot_zero N (fun j hj => if_neg (fun q => h ⟨j, hj, q⟩))]
    omega
def Qf (s3 : zZ) (N f g : Nat) : Nat := ((frX s3 N 2 f - frX s3 N 2 g) * (frX s3 N 2 f - frX s3 N 2 g) + (frX s3 N 3 f - frX s3 N 3 g) * (frX s3 N 3 f - frX s3 N 3 g)).toNat
theorem Qf_cast (s3 : zZ) (N f g : Nat) : ((Qf s3 N f g : Nat) : Int) = (frX s3 N 2 f - frX s3 N 2 g) * (frX s3 N 2 f - frX s3 N 2 g) + (frX s3 N 3 f - frX s3 N 3 g) * (frX s3 N 3 f - frX s3 N 3 g) := by
  unfold Qf
  exact Int.toNat_of_nonneg (Int.add_nonneg (zsqn _) (zsqn _))
theorem Qf_sum {s3 s8 s7 : zZ} {ks : List Int} (R : ND s3 s8 ks s7) {N : Nat} (hN : s7 0 20 = N) : tn (Wc (Qf s3 N)) 16 ≤ 200 := by
  rw [Wc_sum]
  have h1 := four (x := frX s3 N 2) (fun i => frX_rng R hN (Or.inl rfl) i)
  have h2 := four (x := frX s3 N 3) (fun i => frX_rng R hN (Or.inr rfl) i)
  have q1 := Qf_cast s3 N 0 1
  have q2 := Qf_cast s3 N 0 2
  have q3 := Qf_cast s3 N 0 3
  have q4 := Qf_cast s3 N 1 2
  have q5 := Qf_cast s3 N 1 3
  have q6 := Qf_cast s3 N 2 3
  omega
def wN (s3 s8 : zZ) (b : Nat) : Nat := (dfw s3 s8 b 0 * dfw s3 s8 b 0 + dfw s3 s8 b 1 * dfw s3 s8 b 1).toNat
def ffb (s3 s8 : zZ) (b : Nat) : Bool := decide (0 ≤ fq s3 s8 b 1 ∧ 0 ≤ fq s3 s8 b 2)
def yB (s3 s8 : zZ) (b : Nat) : Nat := if ffb s3 s8 b = true then 2 * wN s3 s8 b else 50
def eB (s3 s8 : zZ) (b : Nat) : Nat := if ffb s3 s8 b = true then wN s3 s8 b else 0
def cd (s3 s8 : zZ) (b : Nat) : Nat := if (fq s3 s8 b 1).toNat < (fq s3 s8 b 2).toNat then 4 * (fq s3 s8 b 1).toNat + (fq s3 s8 b 2).toNat else 4 * (fq s3 s8 b 2).toNat + (fq s3 s8 b 1).toNat
theorem wN_cast {s3 s8 s7 : zZ} {ks : List Int} (R : ND s3 s8 ks s7) {b : Nat} (hb : (b : Int) < s7 0 25) : ((wN s3 s8 b : Nat) : Int) = dfw s3 s8 b 0 * dfw s3 s8 b 0 + dfw s3 s8 b 1 * dfw s3 s8 b 1 ∧ wN s3 s8 b ≤ 50 := by
  have e : ((wN s3 s8 b : Nat) : Int) = dfw s3 s8 b 0 * dfw s3 s8 b 0 + dfw s3 s8 b 1 * dfw s3 s8 b 1 := Int.toNat_of_nonneg (Int.add_nonneg (zsqn _) (zsqn _))
  have h1 := sq25 (dfw_rng R hb 0)
  have h2 := sq25 (dfw_rng R hb 1)
  exact ⟨e, by omega⟩
theorem num50 : ∀ w : Nat, w < 51 → (2 * w) ^ 50 ≤ 50 ^ 50 * 2 ^ w := by decide +kernel
theorem yB_50 {s3 s8 s7 : zZ} {ks : List Int} (R : ND s3 s8 ks s7) {b : Nat} (hb : (b : Int) < s7 0 25) : yB s3 s8 b ^ 50 ≤ 50 ^ 50 * 2 ^ eB s3 s8 b := by
  have w := (wN_cast R hb).2
  unfold yB eB
  by_cases q : ffb s3 s8 b = true
  · rw [if_pos q, if_pos q]
    exact num50 _ (by omega)
  · rw [if_neg q, if_neg q, Nat.pow_zero, Nat.mul_one]
    exact Nat.le_refl _
theorem half_g {f : Int} {g : Nat → Int} : ∀ n : Nat, (f < 0 → tot (fun r => if f = ((r / 2 : Nat) : Int) then g (r % 2) else 0) n = 0) ∧ (0 ≤ f → ((n : Int) ≤ 2 * f → tot (fun r => if f = ((r / 2 : Nat) : Int) then g (r % 2) else 0) n = 0) ∧ ((n : Int) = 2 * f + 1 → tot (fun r => if f = ((r / 2 : Nat) : Int) then g (r % 2) else 0) n = g 0) ∧ (2 * f + 2 ≤ (n : Int) → tot (fun r => if f = ((r / 2 : Nat) : Int) then g (r % 2) else 0) n = g 0 + g 1)) := by
  intro n
  induction n with
  | zero => exact ⟨fun _ => rfl, fun _ => ⟨fun _ => rfl, fun h => by omega, fun h => by omega⟩⟩
  | succ n ih =>
    have e : tot (fun r => if f = ((r / 2 : Nat) : Int) then g (r % 2) else 0) (n + 1) = tot (fun r => if f = ((r / 2 : Nat) : Int) then g (r % 2) else 0) n + (if f = ((n / 2 : Nat) : Int) then g (n % 2) else 0) := rfl
    obtain ⟨i1, i2⟩ := ih
    refine ⟨fun h => ?_, fun h => ?_⟩
    · rw [e, i1 h, if_neg (by omega)]
      rfl
    · obtain ⟨j1, j2, j3⟩ := i2 h
      refine ⟨fun q => ?_, fun q => ?_, fun q => ?_⟩
      · rw [e, j1 (by omega), if_neg (by omega)]
        rfl
      · rw [e, j1 (by omega), if_pos (by omega), show n % 2 = 0 by omega]
        omega
      · by_cases w : (n : Int) = 2 * f + 1
        · rw [e, j2 w, if_pos (by omega), show n % 2 = 1 by omega]
        · rw [e, j3 (by omega), if_neg (by omega)]
          omega
theorem half_gl {f : Int} {g : Nat → Int} (g0 : 0 ≤ g 0) (g1 : 0 ≤ g 1) (n : Nat) : tot (fun r => if f = ((r / 2 : Nat) : Int) then g (r % 2) else 0) n ≤ (if 0 ≤ f then g 0 + g 1 else 0) := by
  obtain ⟨h1, h2⟩ := half_g (f := f) (g := g) n
  by_cases q : 0 ≤ f
  · rw [if_pos q]
    obtain ⟨a, b, c⟩ := h2 q
    rcases (show (n : Int) ≤ 2 * f ∨ (n : Int) = 2 * f + 1 ∨ 2 * f + 2 ≤ (n : Int) by omega) with w | w | w
    · have := a w; omega
    · have := b w; omega
    · have := c w; omega
  · rw [if_neg q, h1 (by omega)]
    exact Int.le_refl _
theorem mA_yB {s3 s8 s7 : zZ} {ks : List Int} (R : ND s3 s8 ks s7) {b : Nat} (hb : (b : Int) < s7 0 25) (n : Nat) : nv n (fun r => mA s3 s8 b r) ≤ yB s3 s8 b := by
  have w := wN_cast R hb
  obtain ⟨r1, r2, r3, r4, r5, r6, r7, r8, _⟩ := R
  have B := r8 b hb
  have J1 := r5 (s8 b 1).toNat (by omega)
  have J2 := r5 (s8 b 2).toNat (by omega)
  have N := (r6 (s8 b 1).toNat (s8 b 2).toNat (by omega) (by omega) (by omega)).1
  have h1 := nv_tot (v := fun r => mA s3 s8 b r) (w := fun r => 1 * (if fq s3 s8 b 1 = ((r / 2 : Nat) : Int) then (fun w => dfw s3 s8 b w * dfw s3 s8 b w) (r % 2) else 0) + 1 * (if fq s3 s8 b 2 = ((r / 2 : Nat) : Int) then (fun w => dfw s3 s8 b w * dfw s3 s8 b w) (r % 2) else 0)) n (fun r _ => by
    show mA s3 s8 b r * mA s3 s8 b r ≤ 1 * (if fq s3 s8 b 1 = ((r / 2 : Nat) : Int) then dfw s3 s8 b (r % 2) * dfw s3 s8 b (r % 2) else 0) + 1 * (if fq s3 s8 b 2 = ((r / 2 : Nat) : Int) then dfw s3 s8 b (r % 2) * dfw s3 s8 b (r % 2) else 0)
    unfold mA
    by_cases q1 : fq s3 s8 b 1 = ((r / 2 : Nat) : Int)
    · by_cases q2 : fq s3 s8 b 2 = ((r / 2 : Nat) : Int)
      · exfalso
        unfold fq at q1 q2
        have := N (by rw [q1, q2])
        omega
      · rw [if_pos q1, if_neg q2, if_pos q1, if_neg q2, Int.sub_zero]
        omega
    · by_cases q2 : fq s3 s8 b 2 = ((r / 2 : Nat) : Int)
      · rw [if_neg q1, if_pos q2, if_neg q1, if_pos q2, Int.zero_sub, Int.neg_mul_neg]
        omega
      · rw [if_neg q1, if_neg q2, if_neg q1, if_neg q2]
        decide)
  rw [tot_lin] at h1
  have a := half_gl (f := fq s3 s8 b 1) (g := fun w => dfw s3 s8 b w * dfw s3 s8 b w) (zsqn _) (zsqn _) n
  have c := half_gl (f := fq s3 s8 b 2) (g := fun w => dfw s3 s8 b w * dfw s3 s8 b w) (zsqn _) (zsqn _) n
  dsimp only at a c h1
  unfold yB ffb
  by_cases q1 : 0 ≤ fq s3 s8 b 1
  · by_cases q2 : 0 ≤ fq s3 s8 b 2
    · rw [if_pos q1] at a
      rw [if_pos q2] at c
      rw [if_pos (decide_eq_true ⟨q1, q2⟩)]
      omega
    · rw [if_pos q1] at a
      rw [if_neg q2] at c
      rw [if_neg (fun h => q2 (of_decide_eq_true h).2)]
      omega
  · rw [if_neg (fun h => q1 (of_decide_eq_true h).1)]
    rw [if_neg q1] at a
    by_cases q2 : 0 ≤ fq s3 s8 b 2
    · rw [if_pos q2] at c
      omega
    · rw [if_neg q2] at c
      omega
theorem cd_fact {s3 s8 s7 : zZ} {ks : List Int} (R : ND s3 s8 ks s7) {b : Nat} (hb : (b : Int) < s7 0 25) (h : ffb s3 s8 b = true) : ∃ f g : Nat, fq s3 s8 b 1 = f ∧ fq s3 s8 b 2 = g ∧ f < 4 ∧ g < 4 ∧ f ≠ g ∧ cd s3 s8 b = if f < g then 4 * f + g else 4 * g + f := by
  obtain ⟨q1, q2⟩ := of_decide_eq_true h
  obtain ⟨r1, r2, r3, r4, r5, r6, r7, r8, _⟩ := R
  have B := r8 b hb
  have J1 := r5 (s8 b 1).toNat (by omega)
  have J2 := r5 (s8 b 2).toNat (by omega)
  have N := (r6 (s8 b 1).toNat (s8 b 2).toNat (by omega) (by omega) (by omega)).1
  have e1 : fq s3 s8 b 1 = s3 4 (s8 b 1).toNat := rfl
  have e2 : fq s3 s8 b 2 = s3 4 (s8 b 2).toNat := rfl
  refine ⟨(fq s3 s8 b 1).toNat, (fq s3 s8 b 2).toNat, by omega, by omega, by omega, by omega, fun e => ?_, rfl⟩
  have := N (by omega)
  omega
theorem eB_cd {s3 s8 s7 : zZ} {ks : List Int} (R : ND s3 s8 ks s7) {N : Nat} (hN : s7 0 20 = N) {b : Nat} (hb : (b : Int) < s7 0 25) : eB s3 s8 b = if ffb s3 s8 b = true then Wc (Qf s3 N) (cd s3 s8 b) else 0 := by
  unfold eB
  by_cases q : ffb s3 s8 b = true
  · rw [if_pos q, if_pos q]
    obtain ⟨f, g, h1, h2, h3, h4, h5, h6⟩ := cd_fact R hb q
    have B := R.2.2.2.2.2.2.2.1 b hb
    have x1 : ∀ p, frX s3 N p f = s3 p (s8 b 1).toNat := fun p => frX_at R hN (by omega) h1
    have x2 : ∀ p, frX s3 N p g = s3 p (s8 b 2).toNat := fun p => frX_at R hN (by omega) h2
    have w := (wN_cast R hb).1
    have d0 : dfw s3 s8 b 0 = frX s3 N 2 g - frX s3 N 2 f := by
      rw [x1, x2]
      rfl
    have d1 : dfw s3 s8 b 1 = frX s3 N 3 g - frX s3 N 3 f := by
      rw [x1, x2]
      rfl
    rw [d0, d1] at w
    rw [h6]
    unfold Wc
    by_cases l : f < g
    · rw [if_pos l, if_pos (by omega), show (4 * f + g) / 4 = f by omega, show (4 * f + g) % 4 = g by omega]
      have c := Qf_cast s3 N f g
      have e : (frX s3 N 2 f - frX s3 N 2 g) * (frX s3 N 2 f - frX s3 N 2 g) + (frX s3 N 3 f - frX s3 N 3 g) * (frX s3 N 3 f - frX s3 N 3 g) = (frX s3 N 2 g - frX s3 N 2 f) * (frX s3 N 2 g - frX s3 N 2 f) + (frX s3 N 3 g - frX s3 N 3 f) * (frX s3 N 3 g - frX s3 N 3 f) := by grind
      rw [e, ← w] at c
      exact (Int.ofNat.inj c).symm
    · rw [if_neg l, if_pos (by omega), show (4 * g + f) / 4 = g by omega, show (4 * g + f) % 4 = f by omega]
      have c := Qf_cast s3 N g f
      rw [← w] at c
      exact (Int.ofNat.inj c).symm
  · rw [if_neg q, if_neg q]
theorem cd_inj {s3 s8 s7 : zZ} {ks : List Int} (R : ND s3 s8 ks s7) {b d : Nat} (hb : (b : Int) < s7 0 25) (hd : (d : Int) < s7 0 25) (p : ffb s3 s8 b = true) (q : ffb s3 s8 d = true) (e : cd s3 s8 b = cd s3 s8 d) : b = d := by
  obtain ⟨f, g, h1, h2, h3, h4, h5, h6⟩ := cd_fact R hb p
  obtain ⟨f', g', h1', h2', h3', h4', h5', h6'⟩ := cd_fact R hd q
  obtain ⟨r1, r2, r3, r4, r5, r6, r7, r8, r9, _⟩ := R
  have X := r8 b hb
  have Y := r8 d hd
  have u : ∀ x y : Nat, (x : Int) < s7 0 20 → (y : Int) < s7 0 20 → ∀ f : Nat, s3 4 x = f → s3 4 y = f → x = y := by
    intro x y hx hy f hf hg
    by_cases w : x = y
    · exact w
    · have := (r6 x y hx hy w).1 (by rw [hf, hg])
      omega
  have E : (f = f' ∧ g = g') ∨ (f = g' ∧ g = f') := by
    rw [h6, h6'] at e
    by_cases l : f < g
    · rw [if_pos l] at e
      by_cases l' : f' < g'
      · rw [if_pos l'] at e; omega
      · rw [if_neg l'] at e; omega
    · rw [if_neg l] at e
      by_cases l' : f' < g'
      · rw [if_pos l'] at e; omega
      · rw [if_neg l'] at e; omega
  by_cases w : b = d
  · exact w
  · exfalso
    have n := r9 b d hb hd w
    rcases E with ⟨e1, e2⟩ | ⟨e1, e2⟩
    · have k1 := u (s8 b 1).toNat (s8 d 1).toNat (by omega) (by omega) f h1 (by rw [e1]; exact h1')
      have k2 := u (s8 b 2).toNat (s8 d 2).toNat (by omega) (by omega) g h2 (by rw [e2]; exact h2')
      exact n.1 ⟨by omega, by omega⟩
    · have k1 := u (s8 b 1).toNat (s8 d 2).toNat (by omega) (by omega) f h1 (by rw [e1]; exact h2')
      have k2 := u (s8 b 2).toNat (s8 d 1).toNat (by omega) (by omega) g h2 (by rw [e2]; exact h1')
      exact n.2 ⟨by omega, by omega⟩
theorem fam_e {s3 s8 s7 : zZ} {ks : List Int} (R : ND s3 s8 ks s7) {B m : Nat} (hB : s7 0 25 = B) {q : Nat → Nat} (hq : ∀ i, i < m → q i < B) (inj : ∀ i l, i < m → l < m → q i = q l → i = l) : tn (fun i => eB s3 s8 (q i)) m ≤ 200 := by
  have r1 := R.1
  obtain ⟨N, hN⟩ : ∃ N : Nat, s7 0 20 = N := ⟨(s7 0 20).toNat, by omega⟩
  rw [tn_congr (f := fun i => if ffb s3 s8 (q i) = true then Wc (Qf s3 N) (cd s3 s8 (q i)) else 0) m (fun i hi => eB_cd R hN (by have := hq i hi; omega))]
  refine Nat.le_trans (inj_sum (code := fun i => cd s3 s8 (q i)) (ph := fun i => ffb s3 s8 (q i)) (N := 16) m (Wc (Qf s3 N)) (fun i hi h => ?_) (fun i l hi hl h1 h2 e => ?_)) (Qf_sum R hN)
  · obtain ⟨f, g, h1, h2, h3, h4, h5, h6⟩ := cd_fact R (b := q i) (by have := hq i hi; omega) h
    rw [h6]
    split <;> omega
  · exact inj i l hi hl (cd_inj R (by have := hq i hi; omega) (by have := hq l hl; omega) h1 h2 e)
theorem fam_m {s3 s8 s7 : zZ} {ks : List Int} (R : ND s3 s8 ks s7) {B m : Nat} (hB : s7 0 25 = B) {q : Nat → Nat} (hq : ∀ i, i < m → q i < B) (inj : ∀ i l, i < m → l < m → q i = q l → i = l) : pn (fun i => yB s3 s8 (q i)) m ≤ 50 ^ m * 16 := by
  have h := pn_le (y := fun i => yB s3 s8 (q i)) (z := fun _ => 50) (e := fun i => eB s3 s8 (q i)) (m := m) (fun i hi => yB_50 R (by have := hq i hi; omega)) (fam_e R hB hq inj)
  rw [pn_50] at h
  exact h
theorem fam_8 {s3 s8 s7 : zZ} {ks : List Int} (R : ND s3 s8 ks s7) {B m : Nat} (hB : s7 0 25 = B) {q : Nat → Nat} (hq : ∀ i, i < m → q i < B) (inj : ∀ i l, i < m → l < m → q i = q l → i = l) (hm : m ≤ 8) : pn (fun i => yB s3 s8 (q i)) m ≤ 625000000000000 := by
  have h := fam_m R hB hq inj
  have h2 : 50 ^ m ≤ 50 ^ 8 := Nat.pow_le_pow_right (by decide) hm
  have h3 : (50 : Nat) ^ 8 = 39062500000000 := by decide
  omega
theorem fam_7 {s3 s8 s7 : zZ} {ks : List Int} (R : ND s3 s8 ks s7) {B m : Nat} (hB : s7 0 25 = B) {q : Nat → Nat} (hq : ∀ i, i < m → q i < B) (inj : ∀ i l, i < m → l < m → q i = q l → i = l) (hm : m ≤ 7) : pn (fun i => yB s3 s8 (q i)) m ≤ 12500000000000 := by
  have h := fam_m R hB hq inj
  have h2 : 50 ^ m ≤ 50 ^ 7 := Nat.pow_le_pow_right (by decide) hm
  have h3 : (50 : Nat) ^ 7 = 781250000000 := by decide
  omega
theorem fam_1 {s3 s8 s7 : zZ} {ks : List Int} (R : ND s3 s8 ks s7) {B m : Nat} (hB : s7 0 25 = B) {q : Nat → Nat} (hq : ∀ i, i < m → q i < B) (inj : ∀ i l, i < m → l < m → q i = q l → i = l) (hm : m ≤ 8) {i : Nat} (hi : i < m) : pn (fun l => if l = i then 1 else yB s3 s8 (q l)) m ≤ 12500000000000 := by
  have h := pn_le (y := fun l => if l = i then 1 else yB s3 s8 (q l)) (z := fun l => if l = i then 1 else 50) (e := fun i => eB s3 s8 (q i)) (m := m) (fun l hl => by
    by_cases e : l = i
    · rw [if_pos e, if_pos e, Nat.one_pow, Nat.one_mul]
      exact Nat.one_le_two_pow
    · rw [if_neg e, if_neg e]
      exact yB_50 R (by have := hq l hl; omega)) (fam_e R hB hq inj)
  have h2 := pn_501 hi hm
  have h3 : (50 : Nat) ^ 7 = 781250000000 := by decide
  omega
