/-! clearing a table without fractions: the pure side -/
theorem tot_lin {f h : Nat → Int} {a b : Int} : ∀ n : Nat, tot (fun i => a * f i + b * h i) n = a * tot f n + b * tot h n := by
  intro n
  induction n with
  | zero => show (0 : Int) = a * 0 + b * 0; omega
  | succ n ih =>
    show tot (fun i => a * f i + b * h i) n + (a * f n + b * h n) = a * (tot f n + f n) + b * (tot h n + h n)
    rw [ih]
    grind
theorem tot_zero {f : Nat → Int} : ∀ n : Nat, (∀ i, i < n → f i = 0) → tot f n = 0 := by
  intro n
  induction n with
  | zero => intro _; rfl
  | succ n ih =>
    intro h
    show tot f n + f n = 0
    rw [ih (fun i hi => h i (by omega)), h n (by omega)]
    rfl
theorem tot_one {f : Nat → Int} {i : Nat} : ∀ n : Nat, i < n → (∀ l, l < n → l ≠ i → f l = 0) → tot f n = f i := by
  intro n
  induction n with
  | zero => intro h; omega
  | succ n ih =>
    intro h k
    show tot f n + f n = f i
    by_cases q : i = n
    · subst q
      rw [tot_zero i (fun l hl => k l (by omega) (by omega))]
      omega
    · rw [ih (by omega) (fun l hl hn => k l (by omega) hn), k n (by omega) (by omega)]
      omega
theorem wd_tot {m : Nat} {x : Nat → Int} {c : Nat → Nat → Int} {t w : Nat → Int} {S : Nat} : ∀ k : Nat, wd m (fun r => tot (fun i => x i * c i r) k + t r) w S = tot (fun i => x i * wd m (c i) w S) k + wd m t w S := by
  intro k
  induction k with
  | zero =>
    show wd m (fun r => 0 + t r) w S = 0 + wd m t w S
    rw [Int.zero_add, show (fun r => 0 + t r) = t from funext (fun r => Int.zero_add _)]
  | succ k ih =>
    have e : (fun r => tot (fun i => x i * c i r) (k + 1) + t r) = fun r => x k * c k r + 1 * (fun r => tot (fun i => x i * c i r) k + t r) r := by
      funext r
      show tot (fun i => x i * c i r) k + x k * c k r + t r = _
      rw [Int.one_mul]
      show _ = x k * c k r + (tot (fun i => x i * c i r) k + t r)
      omega
    rw [e, wd_linv, ih]
    show _ = tot (fun i => x i * wd m (c i) w S) k + x k * wd m (c k) w S + wd m t w S
    omega
/-- outer products of the leading columns, and without one of them -/
def Wdg (m k : Nat) (c : Nat → Nat → Int) (W : Nat → Int) (Wi : Nat → Nat → Int) : Prop := (∀ i, i < k → ∀ S, S < 2 ^ m → wd m (c i) (Wi i) S = W S) ∧ (∀ i l, i < k → l < k → l ≠ i → ∀ S, S < 2 ^ m → wd m (c l) (Wi i) S = 0)
theorem Wdg_0 {m k : Nat} {c : Nat → Nat → Int} {W : Nat → Int} {Wi : Nat → Nat → Int} (h : Wdg m k c W Wi) {i : Nat} (hi : i < k) {S : Nat} (hS : S < 2 ^ m) : wd m (c i) W S = 0 := by
  rw [wd_cw m (c i) W (wd m (c i) (Wi i)) (fun t ht => (h.1 i hi t ht).symm) S hS]
  exact wd_self m (c i) (Wi i) S hS
theorem mask_lt {k m : Nat} (h : k ≤ m) : 2 ^ k - 1 < 2 ^ m := by
  have p1 : 1 ≤ 2 ^ k := Nat.one_le_two_pow
  have p2 := Nat.pow_le_pow_right (show 0 < 2 by decide) h
  omega
theorem mask_lt2 {k m r : Nat} (hk : k ≤ r) (h : r < m) : 2 ^ k - 1 + 2 ^ r < 2 ^ m := by
  have p1 : 1 ≤ 2 ^ k := Nat.one_le_two_pow
  have p2 := Nat.pow_le_pow_right (show 0 < 2 by decide) hk
  have p3 : 2 ^ (r + 1) ≤ 2 ^ m := Nat.pow_le_pow_right (by decide) (by omega)
  rw [Nat.pow_succ] at p3
  omega
theorem key_r {m k : Nat} (hk : k ≤ m) {c : Nat → Nat → Int} {W : Nat → Int} {Wi : Nat → Nat → Int} (H : Wdg m k c W Wi) {a x y : Nat → Int} {D : Int} (E : ∀ r, r < m → D * a r = tot (fun i => x i * c i r) k + (if k ≤ r then y r else 0)) {r : Nat} (h1 : k ≤ r) (h2 : r < m) : D * wd m a W (2 ^ k - 1 + 2 ^ r) = y r * W (2 ^ k - 1) := by
  have hS := mask_lt2 h1 h2
  have e1 : D * wd m a W (2 ^ k - 1 + 2 ^ r) = wd m (fun s => D * a s + 0 * a s) W (2 ^ k - 1 + 2 ^ r) := by rw [wd_linv]; omega
  have e2 : wd m (fun s => D * a s + 0 * a s) W (2 ^ k - 1 + 2 ^ r) = wd m (fun s => tot (fun i => x i * c i s) k + (fun s => if k ≤ s then y s else 0) s) W (2 ^ k - 1 + 2 ^ r) := wd_cv m _ _ W (fun s hs => by show D * a s + 0 * a s = tot (fun i => x i * c i s) k + (if k ≤ s then y s else 0); rw [E s hs]; omega) _
  rw [e1, e2, wd_tot, tot_zero k (fun i hi => by rw [Wdg_0 H hi hS, Int.mul_zero]), wd_top m k r _ W (fun s hs => if_neg (by omega)) h1 h2, if_pos h1]
  omega
theorem key_i {m k : Nat} (hk : k ≤ m) {c : Nat → Nat → Int} {W : Nat → Int} {Wi : Nat → Nat → Int} (H : Wdg m k c W Wi) {a x y : Nat → Int} {D : Int} (E : ∀ r, r < m → D * a r = tot (fun i => x i * c i r) k + (if k ≤ r then y r else 0)) {i : Nat} (h1 : i < k) : D * wd m a (Wi i) (2 ^ k - 1) = x i * W (2 ^ k - 1) := by
  have hS := mask_lt hk
  have p1 : 1 ≤ 2 ^ k := Nat.one_le_two_pow
  have e1 : D * wd m a (Wi i) (2 ^ k - 1) = wd m (fun s => D * a s + 0 * a s) (Wi i) (2 ^ k - 1) := by rw [wd_linv]; omega
  have e2 : wd m (fun s => D * a s + 0 * a s) (Wi i) (2 ^ k - 1) = wd m (fun s => tot (fun i => x i * c i s) k + (fun s => if k ≤ s then y s else 0) s) (Wi i) (2 ^ k - 1) := wd_cv m _ _ _ (fun s hs => by show D * a s + 0 * a s = tot (fun i => x i * c i s) k + (if k ≤ s then y s else 0); rw [E s hs]; omega) _
  rw [e1, e2, wd_tot, tot_one (i := i) k h1 (fun l hl hn => by rw [H.2 i l h1 hl hn _ hS, Int.mul_zero]), H.1 i h1 _ hS, wd_out m k _ _ _ (fun s hs => if_neg (by omega)) (by omega) hS]
  omega
/-- the state of a clearing: k columns lead, D is the scale, T the numbers; K bounds the squares of leading columns -/
def bI (m k J : Nat) (a c : Nat → Nat → Int) (D : Int) (T : Nat → Nat → Int) (K : Int) : Prop := k ≤ m ∧ D ≠ 0 ∧ (∀ j, j < J → ∀ r, r < m → D * a j r = tot (fun i => T i j * c i r) k + (if k ≤ r then T r j else 0)) ∧ ∃ (W : Nat → Int) (Wi : Nat → Nat → Int), Wdg m k c W Wi ∧ W (2 ^ k - 1) = D ∧ ipw m W W ≤ K ^ k ∧ ∀ i, i < k → ipw m (Wi i) (Wi i) ≤ K ^ (k - 1)
theorem ipw_one : ∀ m : Nat, ipw m (fun t => if t = 0 then 1 else 0) (fun t => if t = 0 then 1 else 0) = 1 := by
  intro m
  induction m with
  | zero => rfl
  | succ m ih =>
    show ipw m _ _ + ipw m (fun t => if t + 2 ^ m = 0 then 1 else 0) (fun t => if t + 2 ^ m = 0 then 1 else 0) = 1
    have e : (fun t => if t + 2 ^ m = 0 then (1 : Int) else 0) = fun t => 0 * (fun _ => (0 : Int)) t + 0 * (fun _ => (0 : Int)) t := by
      funext t
      have : 1 ≤ 2 ^ m := Nat.one_le_two_pow
      rw [if_neg (by omega)]
      rfl
    rw [ih, e, ipw_lin]
    omega
theorem bI_0 {m J : Nat} {a c : Nat → Nat → Int} {T : Nat → Nat → Int} {K : Int} (h : ∀ j, j < J → ∀ r, r < m → T r j = a j r) : bI m 0 J a c 1 T K := by
  refine ⟨Nat.zero_le _, by decide, fun j hj r hr => ?_, fun t => if t = 0 then 1 else 0, fun _ _ => 0, ⟨fun i hi => by omega, fun i l hi => by omega⟩, rfl, ?_, fun i hi => by omega⟩
  · rw [if_pos (Nat.zero_le _), h j hj r hr]
    show 1 * a j r = 0 + a j r
    omega
  · rw [ipw_one, Int.pow_zero]
    exact Int.le_refl _
theorem bI_bd {m k J : Nat} {a c : Nat → Nat → Int} {D : Int} {T : Nat → Nat → Int} {K : Int} (B : bI m k J a c D T K) {j : Nat} (hj : j < J) {A : Int} (hA : nv m (a j) ≤ A) : D * D ≤ K ^ k ∧ (∀ r, k ≤ r → r < m → T r j * T r j ≤ A * K ^ k) ∧ (∀ i, i < k → T i j * T i j ≤ A * K ^ (k - 1)) := by
  obtain ⟨b1, b2, b3, W, Wi, b4, b5, b6, b7⟩ := B
  have hA0 : 0 ≤ A := Int.le_trans (nv_nn m (a j)) hA
  refine ⟨?_, fun r h1 h2 => ?_, fun i hi => ?_⟩
  · have := ipw_at m W (2 ^ k - 1) (mask_lt b1)
    rw [b5] at this
    omega
  · have e := key_r b1 b4 (b3 j hj) (r := r) h1 h2
    rw [b5, Int.mul_comm (T r j)] at e
    have e' := Int.eq_of_mul_eq_mul_left b2 e
    have h3 := ipw_at m (wd m (a j) W) _ (mask_lt2 h1 h2)
    have h4 := wd_nsq2 hA b6 hA0
    rw [e'] at h3
    omega
  · have e := key_i b1 b4 (b3 j hj) (i := i) hi
    rw [b5, Int.mul_comm (T i j)] at e
    have e' := Int.eq_of_mul_eq_mul_left b2 e
    have h3 := ipw_at m (wd m (a j) (Wi i)) _ (mask_lt b1)
    have h4 := wd_nsq2 hA (b7 i hi) hA0
    rw [e'] at h3
    omega
theorem cancel_lead {l D M X : Int} (hl : l ≠ 0) (e : l * D * M = X * l) : D * M = X := by
  refine Int.eq_of_mul_eq_mul_left hl ?_
  rw [← Int.mul_assoc, e, Int.mul_comm]
theorem bI_step {m k J : Nat} {a c : Nat → Nat → Int} {D : Int} {T : Nat → Nat → Int} {K : Int} (hK : 0 ≤ K) (B : bI m k J a c D T K) {p : Nat} (hp : p < J) (hk : k < m) (hl : T k p ≠ 0) (hA : nv m (a p) ≤ K) : (∀ i j, i < m → i ≠ k → j < J → D ∣ (T k p * T i j - T i p * T k j)) ∧ bI m (k + 1) J a (fun i => if i = k then a p else c i) (T k p) (fun i j => if i = k then T k j else (T k p * T i j - T i p * T k j).tdiv D) K := by
  obtain ⟨b1, b2, b3, W, Wi, b4, b5, b6, b7⟩ := B
  have hW' : Wdg m (k + 1) (fun i => if i = k then a p else c i) (wd m (a p) W) (fun i => if i = k then W else fun t => (-1) * wd m (a p) (Wi i) t + 0 * wd m (a p) (Wi i) t) := by
    refine ⟨fun i hi S hS => ?_, fun i l hi hl2 hn S hS => ?_⟩
    · by_cases q : i = k
      · simp only [if_pos q]
      · simp only [if_neg q]
        rw [wd_lin]
        have h1 := wd_anti m (c i) (a p) (Wi i) S hS
        rw [wd_cw m (a p) W (wd m (c i) (Wi i)) (fun t ht => (b4.1 i (by omega) t ht).symm) S hS]
        omega
    · by_cases q : i = k
      · simp only [if_pos q]
        rw [if_neg (by omega)]
        exact Wdg_0 b4 (by omega) hS
      · simp only [if_neg q]
        rw [wd_lin]
        by_cases q2 : l = k
        · rw [if_pos q2, wd_self m (a p) (Wi i) S hS]
          omega
        · rw [if_neg q2]
          have h1 := wd_anti m (c l) (a p) (Wi i) S hS
          have h2 : wd m (a p) (wd m (c l) (Wi i)) S = wd m (a p) (fun t => 0 * W t + 0 * W t) S := wd_cw m (a p) _ _ (fun t ht => by rw [b4.2 i l (by omega) (by omega) hn t ht]; omega) S hS
          rw [wd_lin] at h2
          omega
  have lead : wd m (a p) W (2 ^ (k + 1) - 1) = T k p := by
    have e := key_r b1 b4 (b3 p hp) (r := k) (Nat.le_refl _) hk
    rw [b5, Int.mul_comm (T k p)] at e
    have e' := Int.eq_of_mul_eq_mul_left b2 e
    have p1 : 1 ≤ 2 ^ k := Nat.one_le_two_pow
    rw [show 2 ^ (k + 1) - 1 = 2 ^ k - 1 + 2 ^ k by rw [Nat.pow_succ]; omega]
    exact e'
  have E' : ∀ j, j < J → ∀ r, r < m → (T k p * D) * a j r = tot (fun i => (if i = k then D * T k j else T k p * T i j - T i p * T k j) * (if i = k then a p else c i) r) (k + 1) + (if k + 1 ≤ r then T k p * T r j - T r p * T k j else 0) := by
    intro j hj r hr
    have h1 := b3 j hj r hr
    have h2 := b3 p hp r hr
    show _ = tot (fun i => (if i = k then D * T k j else T k p * T i j - T i p * T k j) * (if i = k then a p else c i) r) k + (if k = k then D * T k j else _) * (if k = k then a p else c k) r + _
    rw [if_pos rfl, if_pos rfl]
    have e1 : tot (fun i => (if i = k then D * T k j else T k p * T i j - T i p * T k j) * (if i = k then a p else c i) r) k = tot (fun i => T k p * (T i j * c i r) + (- T k j) * (T i p * c i r)) k := tot_congr k (fun i hi => by
      show (if i = k then D * T k j else T k p * T i j - T i p * T k j) * (if i = k then a p else c i) r = _
      rw [if_neg (by omega), if_neg (by omega)]
      grind)
    rw [e1, tot_lin]
    generalize tot (fun i => T i j * c i r) k = X at h1 ⊢
    generalize tot (fun i => T i p * c i r) k = Y at h2 ⊢
    by_cases q : k ≤ r
    · rw [if_pos q] at h1 h2
      by_cases q2 : k + 1 ≤ r
      · rw [if_pos q2]
        grind
      · rw [if_neg q2]
        have : r = k := by omega
        subst this
        grind
    · rw [if_neg q] at h1 h2
      rw [if_neg (by omega)]
      grind
  have ex : ∀ i j, i < m → i ≠ k → j < J → ∃ M, D * M = T k p * T i j - T i p * T k j := by
    intro i j hi hn hj
    by_cases q : i < k
    · have e := key_i (show k + 1 ≤ m by omega) hW' (x := fun i => if i = k then D * T k j else T k p * T i j - T i p * T k j) (y := fun r => T k p * T r j - T r p * T k j) (E' j hj) (i := i) (by omega)
      rw [lead] at e
      simp only [if_neg hn] at e
      exact ⟨_, cancel_lead hl e⟩
    · have e := key_r (show k + 1 ≤ m by omega) hW' (x := fun i => if i = k then D * T k j else T k p * T i j - T i p * T k j) (y := fun r => T k p * T r j - T r p * T k j) (E' j hj) (r := i) (by omega) hi
      rw [lead] at e
      exact ⟨_, cancel_lead hl e⟩
  have dv : ∀ i j, i < m → i ≠ k → j < J → D * (T k p * T i j - T i p * T k j).tdiv D = T k p * T i j - T i p * T k j := by
    intro i j hi hn hj
    obtain ⟨M, hM⟩ := ex i j hi hn hj
    rw [← hM, Int.mul_tdiv_cancel_left M b2]
  refine ⟨fun i j hi hn hj => by obtain ⟨M, hM⟩ := ex i j hi hn hj; exact ⟨M, hM.symm⟩, by omega, hl, fun j hj r hr => ?_, _, _, hW', lead, ?_, fun i hi => ?_⟩
  · have h := E' j hj r hr
    show T k p * a j r = tot (fun i => (if i = k then T k j else (T k p * T i j - T i p * T k j).tdiv D) * (if i = k then a p else c i) r) (k + 1) + (if k + 1 ≤ r then (if r = k then T k j else (T k p * T r j - T r p * T k j).tdiv D) else 0)
    refine Int.eq_of_mul_eq_mul_left b2 ?_
    rw [← Int.mul_assoc, Int.mul_comm D (T k p), h]
    have e1 : tot (fun i => (if i = k then D * T k j else T k p * T i j - T i p * T k j) * (if i = k then a p else c i) r) (k + 1) = tot (fun i => D * ((if i = k then T k j else (T k p * T i j - T i p * T k j).tdiv D) * (if i = k then a p else c i) r) + 0 * (0 : Int)) (k + 1) := tot_congr (k + 1) (fun i hi => by
      show (if i = k then D * T k j else T k p * T i j - T i p * T k j) * (if i = k then a p else c i) r = D * ((if i = k then T k j else (T k p * T i j - T i p * T k j).tdiv D) * (if i = k then a p else c i) r) + 0 * 0
      by_cases q : i = k
      · simp only [if_pos q]
        rw [Int.mul_assoc]
        omega
      · simp only [if_neg q]
        rw [← Int.mul_assoc, dv i j (by omega) q hj]
        omega)
    rw [e1, tot_lin (f := fun i => (if i = k then T k j else (T k p * T i j - T i p * T k j).tdiv D) * (if i = k then a p else c i) r) (h := fun _ => 0), Int.mul_add]
    by_cases q : k + 1 ≤ r
    · rw [if_pos q, if_pos q, if_neg (show ¬ (r = k) by omega), dv r j hr (by omega) hj]
      omega
    · rw [if_neg q, if_neg q]
      omega
  · rw [Int.pow_succ, Int.mul_comm]
    exact wd_nsq2 hA b6 hK
  · show ipw m (if i = k then W else fun t => (-1) * wd m (a p) (Wi i) t + 0 * wd m (a p) (Wi i) t) (if i = k then W else fun t => (-1) * wd m (a p) (Wi i) t + 0 * wd m (a p) (Wi i) t) ≤ K ^ (k + 1 - 1)
    rw [Nat.add_sub_cancel]
    by_cases q : i = k
    · rw [if_pos q]
      exact b6
    · rw [if_neg q, ipw_lin, ipw_comm, ipw_lin]
      have h := wd_nsq2 hA (b7 i (by omega)) hK
      have e : K ^ k = K * K ^ (k - 1) := by
        rw [Int.mul_comm, ← Int.pow_succ, show (k - 1).succ = k by omega]
      omega
