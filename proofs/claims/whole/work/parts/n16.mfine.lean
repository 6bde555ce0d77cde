/-! the net: the finer bounds, of four free points in a square -/
theorem bI_bd3 {m k J : Nat} {a c : Nat → Nat → Int} {D : Int} {T : Nat → Nat → Int} {K : Int} {u z : Nat → Nat} (B : bI m k J a c D T K u z) : ∀ j, j < J → ∀ A : Int, nv m (a j) ≤ A → ∀ r, k ≤ r → r < m → ∀ x : Nat → Int, (∀ l, l < k → nv m (c l) ≤ x l) → T r j * T r j ≤ A * prd x k := by
  obtain ⟨b1, b2, O, b3, W, Wi, b4, b5, b6, b7, b8⟩ := B
  intro j hj A hA r h1 h2 x hx
  obtain ⟨e, e1, e2⟩ := key_r O b4 h1 h2
  have e3 := pm_of e1 b2 b5 (e2 (a j) (fun i => T i j) (fun r => T r j) D (b3 j hj))
  have h3 := ipw_at m (wd m (a j) W) _ (mk_lt (fun s => decide (z s < k) || decide (s = u r)) m)
  have h4 := wd_nsq2 hA (b8.1 x hx) (Int.le_trans (nv_nn m (a j)) hA)
  rw [sq_pm e3] at h3
  omega
def pn (y : Nat → Nat) : Nat → Nat
  | 0 => 1
  | k + 1 => y k * pn y k
def tn (e : Nat → Nat) : Nat → Nat
  | 0 => 0
  | k + 1 => tn e k + e k
theorem prd_pn (y : Nat → Nat) : ∀ k : Nat, prd (fun i => (y i : Int)) k = ((pn y k : Nat) : Int) := by
  intro k
  induction k with
  | zero => rfl
  | succ k ih =>
    show (y k : Int) * prd (fun i => (y i : Int)) k = ((y k * pn y k : Nat) : Int)
    rw [ih, Int.natCast_mul]
theorem pn50 {y z e : Nat → Nat} : ∀ m : Nat, (∀ i, i < m → y i ^ 50 ≤ z i ^ 50 * 2 ^ e i) → pn y m ^ 50 ≤ pn z m ^ 50 * 2 ^ tn e m := by
  intro m
  induction m with
  | zero => intro _; show (1 : Nat) ^ 50 ≤ 1 ^ 50 * 2 ^ 0; decide
  | succ m ih =>
    intro h
    show (y m * pn y m) ^ 50 ≤ (z m * pn z m) ^ 50 * 2 ^ (tn e m + e m)
    rw [Nat.mul_pow, Nat.mul_pow, Nat.pow_add]
    have h1 := Nat.mul_le_mul (h m (by omega)) (ih (fun i hi => h i (by omega)))
    generalize y m ^ 50 = a at *
    generalize pn y m ^ 50 = b at *
    generalize z m ^ 50 = c at *
    generalize pn z m ^ 50 = d at *
    generalize 2 ^ e m = x at *
    generalize 2 ^ tn e m = w at *
    have e2 : c * x * (d * w) = c * d * (w * x) := by grind
    omega
theorem n16p : (16 : Nat) ^ 50 = 2 ^ 200 := by decide +kernel
theorem pn_le {y z e : Nat → Nat} {m : Nat} (h : ∀ i, i < m → y i ^ 50 ≤ z i ^ 50 * 2 ^ e i) (ht : tn e m ≤ 200) : pn y m ≤ pn z m * 16 := by
  have h1 := pn50 m h
  rcases Nat.lt_or_ge (pn z m * 16) (pn y m) with q | q
  · exfalso
    have h2 := Nat.pow_lt_pow_left q (show 50 ≠ 0 by decide)
    rw [Nat.mul_pow, n16p] at h2
    have h3 : (2 : Nat) ^ tn e m ≤ 2 ^ 200 := Nat.pow_le_pow_right (by decide) ht
    have h4 := Nat.mul_le_mul_left (pn z m ^ 50) h3
    exact absurd (Nat.lt_of_lt_of_le h2 (Nat.le_trans h1 h4)) (Nat.lt_irrefl _)
  · exact q
theorem pn_50 : ∀ m : Nat, pn (fun _ => 50) m = 50 ^ m := by
  intro m
  induction m with
  | zero => rfl
  | succ m ih =>
    show 50 * pn (fun _ => 50) m = 50 ^ (m + 1)
    rw [ih, Nat.pow_succ, Nat.mul_comm]
theorem pn_congr {y z : Nat → Nat} : ∀ m : Nat, (∀ i, i < m → y i = z i) → pn y m = pn z m := by
  intro m
  induction m with
  | zero => intro _; rfl
  | succ m ih =>
    intro h
    show y m * pn y m = z m * pn z m
    rw [h m (by omega), ih (fun i hi => h i (by omega))]
theorem pn_upd {y : Nat → Nat} {i c : Nat} : ∀ m : Nat, i < m → pn (fun l => if l = i then c else y l) m = c * pn (fun l => if l = i then 1 else y l) m := by
  intro m
  induction m with
  | zero => intro h; omega
  | succ m ih =>
    intro h
    show (if m = i then c else y m) * pn (fun l => if l = i then c else y l) m = c * ((if m = i then 1 else y m) * pn (fun l => if l = i then 1 else y l) m)
    by_cases q : m = i
    · rw [if_pos q, if_pos q, Nat.one_mul, pn_congr (y := fun l => if l = i then c else y l) (z := y) m (fun l hl => if_neg (by omega)), pn_congr (y := fun l => if l = i then 1 else y l) (z := y) m (fun l hl => if_neg (by omega))]
    · rw [if_neg q, if_neg q, ih (by omega)]
      exact Nat.mul_left_comm _ _ _
theorem pn_501 {i m : Nat} (h : i < m) (h8 : m ≤ 8) : pn (fun l => if l = i then 1 else 50) m ≤ 50 ^ 7 := by
  have e := pn_upd (y := fun _ => 50) (c := 50) m h
  rw [pn_congr (y := fun l => if l = i then 50 else 50) (z := fun _ => 50) m (fun l _ => ite_self _), pn_50] at e
  have h2 : 50 ^ m ≤ 50 ^ 8 := Nat.pow_le_pow_right (by decide) h8
  have h3 : (50 : Nat) ^ 8 = 50 * 50 ^ 7 := by decide
  omega
theorem tn_congr {e f : Nat → Nat} : ∀ m : Nat, (∀ i, i < m → e i = f i) → tn e m = tn f m := by
  intro m
  induction m with
  | zero => intro _; rfl
  | succ m ih =>
    intro h
    show tn e m + e m = tn f m + f m
    rw [h m (by omega), ih (fun i hi => h i (by omega))]
theorem tn_rem {w : Nat → Nat} {s : Nat} : ∀ n : Nat, s < n → tn (fun t => if t = s then 0 else w t) n + w s = tn w n := by
  intro n
  induction n with
  | zero => intro h; omega
  | succ n ih =>
    intro h
    show tn (fun t => if t = s then 0 else w t) n + (if n = s then 0 else w n) + w s = tn w n + w n
    by_cases q : n = s
    · rw [if_pos q, tn_congr (e := fun t => if t = s then 0 else w t) (f := w) n (fun t ht => if_neg (by omega)), q]
      omega
    · rw [if_neg q]
      have := ih (by omega)
      omega
theorem inj_sum {code : Nat → Nat} {ph : Nat → Bool} {N : Nat} : ∀ (m : Nat) (w : Nat → Nat), (∀ i, i < m → ph i = true → code i < N) → (∀ i l, i < m → l < m → ph i = true → ph l = true → code i = code l → i = l) → tn (fun i => if ph i = true then w (code i) else 0) m ≤ tn w N := by
  intro m
  induction m with
  | zero => intro w _ _; exact Nat.zero_le _
  | succ m ih =>
    intro w h1 h2
    show tn (fun i => if ph i = true then w (code i) else 0) m + (if ph m = true then w (code m) else 0) ≤ tn w N
    by_cases q : ph m = true
    · rw [if_pos q]
      have h := ih (fun t => if t = code m then 0 else w t) (fun i hi => h1 i (by omega)) (fun i l hi hl => h2 i l (by omega) (by omega))
      have r := tn_rem (w := w) N (h1 m (by omega) q)
      rw [tn_congr (e := fun i => if ph i = true then (fun t => if t = code m then 0 else w t) (code i) else 0) (f := fun i => if ph i = true then w (code i) else 0) m (fun i hi => by
        dsimp only
        by_cases p : ph i = true
        · rw [if_pos p, if_pos p, if_neg (fun e => by have := h2 i m (by omega) (by omega) p q e; omega)]
        · rw [if_neg p, if_neg p])] at h
      omega
    · rw [if_neg q]
      exact ih w (fun i hi => h1 i (by omega)) (fun i l hi hl => h2 i l (by omega) (by omega))
def Wc (Q : Nat → Nat → Nat) (s : Nat) : Nat := if s / 4 < s % 4 then Q (s / 4) (s % 4) else 0
theorem Wc_sum (Q : Nat → Nat → Nat) : tn (Wc Q) 16 = Q 0 1 + Q 0 2 + Q 0 3 + Q 1 2 + Q 1 3 + Q 2 3 := by
  simp [tn, Wc]
theorem four {x : Nat → Int} (h : ∀ i, 0 ≤ x i ∧ x i ≤ 5) : (x 0 - x 1) * (x 0 - x 1) + (x 0 - x 2) * (x 0 - x 2) + (x 0 - x 3) * (x 0 - x 3) + (x 1 - x 2) * (x 1 - x 2) + (x 1 - x 3) * (x 1 - x 3) + (x 2 - x 3) * (x 2 - x 3) ≤ 100 := by
  have p : ∀ i, x i * x i ≤ 5 * x i := fun i => Int.mul_le_mul_of_nonneg_right (h i).2 (h i).1
  have s := zsqn (x 0 + x 1 + x 2 + x 3 - 10)
  have e : (x 0 - x 1) * (x 0 - x 1) + (x 0 - x 2) * (x 0 - x 2) + (x 0 - x 3) * (x 0 - x 3) + (x 1 - x 2) * (x 1 - x 2) + (x 1 - x 3) * (x 1 - x 3) + (x 2 - x 3) * (x 2 - x 3) + (x 0 + x 1 + x 2 + x 3 - 10) * (x 0 + x 1 + x 2 + x 3 - 10) = 4 * (x 0 * x 0 + x 1 * x 1 + x 2 * x 2 + x 3 * x 3) - 20 * (x 0 + x 1 + x 2 + x 3) + 100 := by grind
  have p0 := p 0
  have p1 := p 1
  have p2 := p 2
  have p3 := p 3
  omega
