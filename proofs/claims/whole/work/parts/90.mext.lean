/-! outer products, on sets of rows as numbers -/
def wd : Nat → (Nat → Int) → (Nat → Int) → Nat → Int
  | 0, _, _, _ => 0
  | n + 1, v, w, S => if S < 2 ^ n then wd n v w S else v n * w (S - 2 ^ n) - wd n v (fun t => w (t + 2 ^ n)) (S - 2 ^ n)
def ctr : Nat → (Nat → Int) → (Nat → Int) → Nat → Int
  | 0, _, _, _ => 0
  | n + 1, v, w, S => if S < 2 ^ n then ctr n v w S + v n * w (S + 2 ^ n) else - ctr n v (fun t => w (t + 2 ^ n)) (S - 2 ^ n)
def ipw : Nat → (Nat → Int) → (Nat → Int) → Int
  | 0, w, u => w 0 * u 0
  | n + 1, w, u => ipw n w u + ipw n (fun t => w (t + 2 ^ n)) (fun t => u (t + 2 ^ n))
def nv : Nat → (Nat → Int) → Int
  | 0, _ => 0
  | n + 1, v => nv n v + v n * v n
theorem wd_lo {n : Nat} {v w : Nat → Int} {S : Nat} (h : S < 2 ^ n) : wd (n + 1) v w S = wd n v w S := if_pos h
theorem wd_hi {n : Nat} {v w : Nat → Int} {S : Nat} : wd (n + 1) v w (S + 2 ^ n) = v n * w S - wd n v (fun t => w (t + 2 ^ n)) S := by
  show (if S + 2 ^ n < 2 ^ n then _ else _) = _
  rw [if_neg (by omega), Nat.add_sub_cancel]
theorem ctr_lo {n : Nat} {v w : Nat → Int} {S : Nat} (h : S < 2 ^ n) : ctr (n + 1) v w S = ctr n v w S + v n * w (S + 2 ^ n) := if_pos h
theorem ctr_hi {n : Nat} {v w : Nat → Int} {S : Nat} : ctr (n + 1) v w (S + 2 ^ n) = - ctr n v (fun t => w (t + 2 ^ n)) S := by
  show (if S + 2 ^ n < 2 ^ n then _ else _) = _
  rw [if_neg (by omega), Nat.add_sub_cancel]
theorem split2 {n S : Nat} (h : S < 2 ^ (n + 1)) : S < 2 ^ n ∨ ∃ t, t < 2 ^ n ∧ S = t + 2 ^ n := by
  rw [Nat.pow_succ] at h
  by_cases q : S < 2 ^ n
  · exact Or.inl q
  · exact Or.inr ⟨S - 2 ^ n, by omega, by omega⟩
theorem wd_cw : ∀ (n : Nat) (v w w' : Nat → Int), (∀ t, t < 2 ^ n → w t = w' t) → ∀ S, S < 2 ^ n → wd n v w S = wd n v w' S := by
  intro n
  induction n with
  | zero => intro v w w' h S hS; rfl
  | succ n ih =>
    intro v w w' h S hS
    have hp : 2 ^ (n + 1) = 2 ^ n + 2 ^ n := by rw [Nat.pow_succ]; omega
    rcases split2 hS with q | ⟨t, q, rfl⟩
    · rw [wd_lo q, wd_lo q]
      exact ih v w w' (fun t ht => h t (by omega)) S q
    · rw [wd_hi, wd_hi, h t (by omega), ih v _ _ (fun t ht => h (t + 2 ^ n) (by omega)) t q]
theorem ctr_cw : ∀ (n : Nat) (v w w' : Nat → Int), (∀ t, t < 2 ^ n → w t = w' t) → ∀ S, S < 2 ^ n → ctr n v w S = ctr n v w' S := by
  intro n
  induction n with
  | zero => intro v w w' h S hS; rfl
  | succ n ih =>
    intro v w w' h S hS
    have hp : 2 ^ (n + 1) = 2 ^ n + 2 ^ n := by rw [Nat.pow_succ]; omega
    rcases split2 hS with q | ⟨t, q, rfl⟩
    · rw [ctr_lo q, ctr_lo q, h (S + 2 ^ n) (by omega), ih v w w' (fun t ht => h t (by omega)) S q]
    · rw [ctr_hi, ctr_hi, ih v _ _ (fun t ht => h (t + 2 ^ n) (by omega)) t q]
theorem wd_lin : ∀ (n : Nat) (v w u : Nat → Int) (a b : Int) (S : Nat), wd n v (fun t => a * w t + b * u t) S = a * wd n v w S + b * wd n v u S := by
  intro n
  induction n with
  | zero => intro v w u a b S; show (0 : Int) = a * 0 + b * 0; omega
  | succ n ih =>
    intro v w u a b S
    show (if S < 2 ^ n then wd n v (fun t => a * w t + b * u t) S else v n * (a * w (S - 2 ^ n) + b * u (S - 2 ^ n)) - wd n v (fun t => a * w (t + 2 ^ n) + b * u (t + 2 ^ n)) (S - 2 ^ n)) = a * (if S < 2 ^ n then wd n v w S else v n * w (S - 2 ^ n) - wd n v (fun t => w (t + 2 ^ n)) (S - 2 ^ n)) + b * (if S < 2 ^ n then wd n v u S else v n * u (S - 2 ^ n) - wd n v (fun t => u (t + 2 ^ n)) (S - 2 ^ n))
    split
    · exact ih v w u a b S
    · rw [ih v (fun t => w (t + 2 ^ n)) (fun t => u (t + 2 ^ n)) a b]
      grind
theorem ctr_lin : ∀ (n : Nat) (v w u : Nat → Int) (a b : Int) (S : Nat), ctr n v (fun t => a * w t + b * u t) S = a * ctr n v w S + b * ctr n v u S := by
  intro n
  induction n with
  | zero => intro v w u a b S; show (0 : Int) = a * 0 + b * 0; omega
  | succ n ih =>
    intro v w u a b S
    show (if S < 2 ^ n then ctr n v (fun t => a * w t + b * u t) S + v n * (a * w (S + 2 ^ n) + b * u (S + 2 ^ n)) else - ctr n v (fun t => a * w (t + 2 ^ n) + b * u (t + 2 ^ n)) (S - 2 ^ n)) = a * (if S < 2 ^ n then ctr n v w S + v n * w (S + 2 ^ n) else - ctr n v (fun t => w (t + 2 ^ n)) (S - 2 ^ n)) + b * (if S < 2 ^ n then ctr n v u S + v n * u (S + 2 ^ n) else - ctr n v (fun t => u (t + 2 ^ n)) (S - 2 ^ n))
    split
    · rw [ih v w u a b S]
      grind
    · rw [ih v (fun t => w (t + 2 ^ n)) (fun t => u (t + 2 ^ n)) a b]
      grind
theorem wd_linv : ∀ (n : Nat) (v u w : Nat → Int) (a b : Int) (S : Nat), wd n (fun r => a * v r + b * u r) w S = a * wd n v w S + b * wd n u w S := by
  intro n
  induction n with
  | zero => intro v u w a b S; show (0 : Int) = a * 0 + b * 0; omega
  | succ n ih =>
    intro v u w a b S
    show (if S < 2 ^ n then wd n (fun r => a * v r + b * u r) w S else (a * v n + b * u n) * w (S - 2 ^ n) - wd n (fun r => a * v r + b * u r) (fun t => w (t + 2 ^ n)) (S - 2 ^ n)) = a * (if S < 2 ^ n then wd n v w S else v n * w (S - 2 ^ n) - wd n v (fun t => w (t + 2 ^ n)) (S - 2 ^ n)) + b * (if S < 2 ^ n then wd n u w S else u n * w (S - 2 ^ n) - wd n u (fun t => w (t + 2 ^ n)) (S - 2 ^ n))
    split
    · exact ih v u w a b S
    · rw [ih v u _ a b]
      grind
theorem wd_cv : ∀ (n : Nat) (v u w : Nat → Int), (∀ r, r < n → v r = u r) → ∀ S, wd n v w S = wd n u w S := by
  intro n
  induction n with
  | zero => intro v u w h S; rfl
  | succ n ih =>
    intro v u w h S
    show (if S < 2 ^ n then wd n v w S else v n * w (S - 2 ^ n) - wd n v (fun t => w (t + 2 ^ n)) (S - 2 ^ n)) = (if S < 2 ^ n then wd n u w S else u n * w (S - 2 ^ n) - wd n u (fun t => w (t + 2 ^ n)) (S - 2 ^ n))
    rw [h n (by omega), ih v u w (fun r hr => h r (by omega)), ih v u (fun t => w (t + 2 ^ n)) (fun r hr => h r (by omega))]
theorem wd_anti : ∀ (n : Nat) (v u w : Nat → Int) (S : Nat), S < 2 ^ n → wd n v (wd n u w) S + wd n u (wd n v w) S = 0 := by
  intro n
  induction n with
  | zero => intro v u w S hS; rfl
  | succ n ih =>
    intro v u w S hS
    have lo : ∀ x y : Nat → Int, ∀ s, s < 2 ^ n → wd n x (wd (n + 1) y w) s = wd n x (wd n y w) s := fun x y s hs => wd_cw n x _ _ (fun t ht => wd_lo ht) s hs
    rcases split2 hS with q | ⟨t, q, rfl⟩
    · rw [wd_lo q, wd_lo q, lo v u S q, lo u v S q]
      exact ih v u w S q
    · have hi : ∀ x y : Nat → Int, wd n x (fun s => wd (n + 1) y w (s + 2 ^ n)) t = y n * wd n x w t - wd n x (wd n y (fun s => w (s + 2 ^ n))) t := by
        intro x y
        have e : (fun s => wd (n + 1) y w (s + 2 ^ n)) = fun s => y n * w s + (-1) * wd n y (fun s => w (s + 2 ^ n)) s := by
          funext s
          rw [wd_hi]
          omega
        rw [e, wd_lin]
        omega
      rw [wd_hi, wd_hi, hi v u, hi u v, wd_lo q, wd_lo q]
      have := ih v u (fun s => w (s + 2 ^ n)) t q
      grind
theorem wd_self (n : Nat) (v w : Nat → Int) (S : Nat) (h : S < 2 ^ n) : wd n v (wd n v w) S = 0 := by
  have := wd_anti n v v w S h
  omega
theorem wd_ctr : ∀ (n : Nat) (v w : Nat → Int) (S : Nat), S < 2 ^ n → wd n v (ctr n v w) S + ctr n v (wd n v w) S = nv n v * w S := by
  intro n
  induction n with
  | zero => intro v w S hS; show (0 : Int) + 0 = 0 * w S; omega
  | succ n ih =>
    intro v w S hS
    have hp : 2 ^ (n + 1) = 2 ^ n + 2 ^ n := by rw [Nat.pow_succ]; omega
    have en : nv (n + 1) v = nv n v + v n * v n := rfl
    rcases split2 hS with q | ⟨t, q, rfl⟩
    · have a1 : wd n v (ctr (n + 1) v w) S = wd n v (fun t => 1 * ctr n v w t + v n * (fun t => w (t + 2 ^ n)) t) S := wd_cw n v _ _ (fun t ht => by rw [ctr_lo ht, Int.one_mul]) S q
      have a2 : ctr n v (wd (n + 1) v w) S = ctr n v (wd n v w) S := ctr_cw n v _ _ (fun t ht => wd_lo ht) S q
      rw [wd_lo q, ctr_lo q, a1, a2, wd_lin, wd_hi, en]
      have := ih v w S q
      grind
    · have a1 : (fun s => ctr (n + 1) v w (s + 2 ^ n)) = fun s => (-1) * ctr n v (fun s => w (s + 2 ^ n)) s + 0 * ctr n v (fun s => w (s + 2 ^ n)) s := by
        funext s
        rw [ctr_hi]
        omega
      have a2 : (fun s => wd (n + 1) v w (s + 2 ^ n)) = fun s => v n * w s + (-1) * wd n v (fun s => w (s + 2 ^ n)) s := by
        funext s
        rw [wd_hi]
        omega
      rw [wd_hi, ctr_hi, a1, a2, wd_lin, ctr_lin, ctr_lo q, en]
      have := ih v (fun s => w (s + 2 ^ n)) t q
      grind
theorem ipw_lin : ∀ (n : Nat) (w u x : Nat → Int) (a b : Int), ipw n w (fun t => a * u t + b * x t) = a * ipw n w u + b * ipw n w x := by
  intro n
  induction n with
  | zero => intro w u x a b; show w 0 * (a * u 0 + b * x 0) = a * (w 0 * u 0) + b * (w 0 * x 0); grind
  | succ n ih =>
    intro w u x a b
    show ipw n w (fun t => a * u t + b * x t) + ipw n (fun t => w (t + 2 ^ n)) (fun t => a * u (t + 2 ^ n) + b * x (t + 2 ^ n)) = a * (ipw n w u + ipw n (fun t => w (t + 2 ^ n)) (fun t => u (t + 2 ^ n))) + b * (ipw n w x + ipw n (fun t => w (t + 2 ^ n)) (fun t => x (t + 2 ^ n)))
    rw [ih w u x a b, ih (fun t => w (t + 2 ^ n)) (fun t => u (t + 2 ^ n)) (fun t => x (t + 2 ^ n)) a b]
    grind
theorem ipw_comm : ∀ (n : Nat) (w u : Nat → Int), ipw n w u = ipw n u w := by
  intro n
  induction n with
  | zero => intro w u; exact Int.mul_comm _ _
  | succ n ih =>
    intro w u
    show ipw n w u + ipw n (fun t => w (t + 2 ^ n)) (fun t => u (t + 2 ^ n)) = ipw n u w + ipw n (fun t => u (t + 2 ^ n)) (fun t => w (t + 2 ^ n))
    rw [ih w u, ih (fun t => w (t + 2 ^ n))]
theorem ipw_c : ∀ (n : Nat) (w u u' : Nat → Int), (∀ t, t < 2 ^ n → u t = u' t) → ipw n w u = ipw n w u' := by
  intro n
  induction n with
  | zero => intro w u u' h; show w 0 * u 0 = w 0 * u' 0; rw [h 0 (by decide)]
  | succ n ih =>
    intro w u u' h
    have hp : 2 ^ (n + 1) = 2 ^ n + 2 ^ n := by rw [Nat.pow_succ]; omega
    show ipw n w u + ipw n (fun t => w (t + 2 ^ n)) (fun t => u (t + 2 ^ n)) = ipw n w u' + ipw n (fun t => w (t + 2 ^ n)) (fun t => u' (t + 2 ^ n))
    rw [ih w u u' (fun t ht => h t (by omega)), ih (fun t => w (t + 2 ^ n)) (fun t => u (t + 2 ^ n)) (fun t => u' (t + 2 ^ n)) (fun t ht => h _ (by omega))]
theorem ipw_adj : ∀ (n : Nat) (v w u : Nat → Int), ipw n (wd n v w) u = ipw n w (ctr n v u) := by
  intro n
  induction n with
  | zero => intro v w u; show 0 * u 0 = w 0 * 0; omega
  | succ n ih =>
    intro v w u
    have a1 : ipw n (wd (n + 1) v w) u = ipw n (wd n v w) u := by
      rw [ipw_comm, ipw_comm n (wd n v w)]
      exact ipw_c n u _ _ (fun t ht => wd_lo ht)
    have a2 : ipw n (fun s => wd (n + 1) v w (s + 2 ^ n)) (fun t => u (t + 2 ^ n)) = v n * ipw n w (fun t => u (t + 2 ^ n)) + (-1) * ipw n (wd n v (fun s => w (s + 2 ^ n))) (fun t => u (t + 2 ^ n)) := by
      rw [ipw_comm, ipw_comm n w, ipw_comm n (wd n v (fun s => w (s + 2 ^ n))), ← ipw_lin]
      exact ipw_c n _ _ _ (fun t ht => by rw [wd_hi]; omega)
    have a3 : ipw n w (ctr (n + 1) v u) = 1 * ipw n w (ctr n v u) + v n * ipw n w (fun t => u (t + 2 ^ n)) := by
      rw [← ipw_lin]
      exact ipw_c n _ _ _ (fun t ht => by rw [ctr_lo ht]; omega)
    have a4 : ipw n (fun s => w (s + 2 ^ n)) (fun s => ctr (n + 1) v u (s + 2 ^ n)) = (-1) * ipw n (fun s => w (s + 2 ^ n)) (ctr n v (fun s => u (s + 2 ^ n))) + 0 * ipw n (fun s => w (s + 2 ^ n)) (ctr n v (fun s => u (s + 2 ^ n))) := by
      rw [← ipw_lin]
      exact ipw_c n _ _ _ (fun t ht => by rw [ctr_hi]; omega)
    show ipw n (wd (n + 1) v w) u + ipw n (fun s => wd (n + 1) v w (s + 2 ^ n)) (fun t => u (t + 2 ^ n)) = ipw n w (ctr (n + 1) v u) + ipw n (fun s => w (s + 2 ^ n)) (fun s => ctr (n + 1) v u (s + 2 ^ n))
    rw [a1, a2, a3, a4, ih v w u, ih v (fun s => w (s + 2 ^ n)) (fun s => u (s + 2 ^ n))]
    omega
theorem ipw_nn : ∀ (n : Nat) (w : Nat → Int), 0 ≤ ipw n w w := by
  intro n
  induction n with
  | zero => intro w; exact zsqn _
  | succ n ih =>
    intro w
    show 0 ≤ ipw n w w + ipw n (fun t => w (t + 2 ^ n)) (fun t => w (t + 2 ^ n))
    have := ih w
    have := ih (fun t => w (t + 2 ^ n))
    omega
theorem ipw_at : ∀ (n : Nat) (w : Nat → Int) (S : Nat), S < 2 ^ n → w S * w S ≤ ipw n w w := by
  intro n
  induction n with
  | zero =>
    intro w S hS
    have : S = 0 := by simpa using hS
    subst this
    exact Int.le_refl _
  | succ n ih =>
    intro w S hS
    show w S * w S ≤ ipw n w w + ipw n (fun t => w (t + 2 ^ n)) (fun t => w (t + 2 ^ n))
    have h1 := ipw_nn n w
    have h2 := ipw_nn n (fun t => w (t + 2 ^ n))
    rcases split2 hS with q | ⟨t, q, rfl⟩
    · have := ih w S q
      omega
    · have := ih (fun t => w (t + 2 ^ n)) t q
      omega
theorem wd_nsq (n : Nat) (v w : Nat → Int) : ipw n (wd n v w) (wd n v w) ≤ nv n v * ipw n w w := by
  have h1 := ipw_adj n v w (wd n v w)
  have h2 : ipw n w (ctr n v (wd n v w)) = nv n v * ipw n w w + (-1) * ipw n w (wd n v (ctr n v w)) := by
    rw [← ipw_lin]
    refine ipw_c n w _ _ (fun t ht => ?_)
    have := wd_ctr n v w t ht
    omega
  have h3 : ipw n w (wd n v (ctr n v w)) = ipw n (ctr n v w) (ctr n v w) := by
    rw [ipw_comm, ipw_adj]
  have h4 := ipw_nn n (ctr n v w)
  omega
theorem nv_nn (n : Nat) (v : Nat → Int) : 0 ≤ nv n v := by
  induction n with
  | zero => exact Int.le_refl _
  | succ n ih =>
    show 0 ≤ nv n v + v n * v n
    have := zsqn (v n)
    omega
theorem wd_nsq2 {n : Nat} {v w : Nat → Int} {A B : Int} (hv : nv n v ≤ A) (hw : ipw n w w ≤ B) (hA : 0 ≤ A) : ipw n (wd n v w) (wd n v w) ≤ A * B := by
  have h1 := wd_nsq n v w
  have h2 := Int.mul_le_mul hv hw (ipw_nn n w) hA
  omega
/-- columns without the first k rows do not touch the set of these -/
theorem wd_out : ∀ (n k : Nat) (v w : Nat → Int) (S : Nat), (∀ s, s < k → v s = 0) → S < 2 ^ k → S < 2 ^ n → wd n v w S = 0 := by
  intro n
  induction n with
  | zero => intro k v w S _ _ _; rfl
  | succ n ih =>
    intro k v w S hv hk hn
    rcases split2 hn with q | ⟨t, q, rfl⟩
    · rw [wd_lo q]
      exact ih k v w S hv hk q
    · have : n < k := by
        rcases Nat.lt_or_ge n k with h | h
        · exact h
        · have := Nat.pow_le_pow_right (show 0 < 2 by decide) h
          omega
      rw [wd_hi, hv n this, ih k v _ t hv (by omega) q]
      omega
theorem wd_top : ∀ (n k r : Nat) (v w : Nat → Int), (∀ s, s < k → v s = 0) → k ≤ r → r < n → wd n v w (2 ^ k - 1 + 2 ^ r) = v r * w (2 ^ k - 1) := by
  intro n
  induction n with
  | zero => intro k r v w _ _ h; omega
  | succ n ih =>
    intro k r v w hv hk hr
    have p1 : 1 ≤ 2 ^ k := Nat.one_le_two_pow
    have p2 := Nat.pow_le_pow_right (show 0 < 2 by decide) hk
    by_cases q : r = n
    · subst q
      rw [wd_hi, wd_out r k v _ (2 ^ k - 1) hv (by omega) (by omega)]
      omega
    · have p3 : 2 ^ (r + 1) ≤ 2 ^ n := Nat.pow_le_pow_right (by decide) (by omega)
      rw [Nat.pow_succ] at p3
      rw [wd_lo (by omega)]
      exact ih k r v w hv hk (by omega)
