/-! clearing a table without fractions: the pure side -/
theorem tot_lin {f h : Nat → Int} {a b : Int} : ∀ n : Nat, tot (fun i => a * f i + b * h i) n = a * tot f n + b * tot h n := by
  intro n
  induction n with
  | zero => show (0 : Int) = a * 0 + b * 0; omega
  | succ n ih =>
    show tot (fun i => a * f i + b * h i) n + (a * f n + b * h n) = a * (tot f n + f n) + b * (tot h n + h n)
    rw [ih]
    grind
theorem tot_zero {f : Nat → Int} : ∀ n : Nat, (∀ i, i < n → f i = 0) → tot f n = 0 := by
  intro n
  induction n with
  | zero => intro _; rfl
  | succ n ih =>
    intro h
    show tot f n + f n = 0
    rw [ih (fun i hi => h i (by omega)), h n (by omega)]
    rfl
theorem tot_one {f : Nat → Int} {i : Nat} : ∀ n : Nat, i < n → (∀ l, l < n → l ≠ i → f l = 0) → tot f n = f i := by
  intro n
  induction n with
  | zero => intro h; omega
  | succ n ih =>
    intro h k
    show tot f n + f n = f i
    by_cases q : i = n
    · subst q
      rw [tot_zero i (fun l hl => k l (by omega) (by omega))]
      omega
    · rw [ih (by omega) (fun l hl hn => k l (by omega) hn), k n (by omega) (by omega)]
      omega
theorem wd_tot {m : Nat} {x : Nat → Int} {c : Nat → Nat → Int} {t w : Nat → Int} {S : Nat} : ∀ k : Nat, wd m (fun r => tot (fun i => x i * c i r) k + t r) w S = tot (fun i => x i * wd m (c i) w S) k + wd m t w S := by
  intro k
  induction k with
  | zero =>
    show wd m (fun r => 0 + t r) w S = 0 + wd m t w S
    rw [Int.zero_add, show (fun r => 0 + t r) = t from funext (fun r => Int.zero_add _)]
  | succ k ih =>
    have e : (fun r => tot (fun i => x i * c i r) (k + 1) + t r) = fun r => x k * c k r + 1 * (fun r => tot (fun i => x i * c i r) k + t r) r := by
      funext r
      show tot (fun i => x i * c i r) k + x k * c k r + t r = _
      rw [Int.one_mul]
      show _ = x k * c k r + (tot (fun i => x i * c i r) k + t r)
      omega
    rw [e, wd_linv, ih]
    show _ = tot (fun i => x i * wd m (c i) w S) k + x k * wd m (c k) w S + wd m t w S
    omega
/-- outer products of the leading columns, and without one of them -/
def Wdg (m k : Nat) (c : Nat → Nat → Int) (W : Nat → Int) (Wi : Nat → Nat → Int) : Prop := (∀ i, i < k → ∀ S, S < 2 ^ m → wd m (c i) (Wi i) S = W S) ∧ (∀ i l, i < k → l < k → l ≠ i → ∀ S, S < 2 ^ m → wd m (c l) (Wi i) S = 0)
theorem Wdg_0 {m k : Nat} {c : Nat → Nat → Int} {W : Nat → Int} {Wi : Nat → Nat → Int} (h : Wdg m k c W Wi) {i : Nat} (hi : i < k) {S : Nat} (hS : S < 2 ^ m) : wd m (c i) W S = 0 := by
  rw [wd_cw m (c i) W (wd m (c i) (Wi i)) (fun t ht => (h.1 i hi t ht).symm) S hS]
  exact wd_self m (c i) (Wi i) S hS
/-- sets of rows as numbers -/
def mk : Nat → (Nat → Bool) → Nat
  | 0, _ => 0
  | n + 1, P => if P n = true then mk n P + 2 ^ n else mk n P
theorem mk_lt (P : Nat → Bool) : ∀ n : Nat, mk n P < 2 ^ n := by
  intro n
  induction n with
  | zero => exact Nat.one_pos
  | succ n ih =>
    show (if P n = true then mk n P + 2 ^ n else mk n P) < 2 ^ (n + 1)
    rw [Nat.pow_succ]
    split <;> omega
theorem mk_congr {P Q : Nat → Bool} : ∀ n : Nat, (∀ s, s < n → P s = Q s) → mk n P = mk n Q := by
  intro n
  induction n with
  | zero => intro _; rfl
  | succ n ih =>
    intro h
    show (if P n = true then mk n P + 2 ^ n else mk n P) = (if Q n = true then mk n Q + 2 ^ n else mk n Q)
    rw [h n (by omega), ih (fun s hs => h s (by omega))]
theorem wd_out2 : ∀ (n : Nat) (P : Nat → Bool) (v w : Nat → Int), (∀ s, s < n → P s = true → v s = 0) → wd n v w (mk n P) = 0 := by
  intro n
  induction n with
  | zero => intro P v w _; rfl
  | succ n ih =>
    intro P v w h
    show wd (n + 1) v w (if P n = true then mk n P + 2 ^ n else mk n P) = 0
    by_cases q : P n = true
    · rw [if_pos q, wd_hi, h n (by omega) q, ih P v _ (fun s hs => h s (by omega))]
      omega
    · rw [if_neg q, wd_lo (mk_lt P n)]
      exact ih P v w (fun s hs => h s (by omega))
theorem wd_top2 : ∀ (n : Nat) (P : Nat → Bool) (r : Nat), r < n → P r = false → ∃ e : Int, (e = 1 ∨ e = -1) ∧ ∀ v w : Nat → Int, (∀ s, s < n → P s = true → v s = 0) → wd n v w (mk n (fun s => P s || decide (s = r))) = e * (v r * w (mk n P)) := by
  intro n
  induction n with
  | zero => intro P r h; omega
  | succ n ih =>
    intro P r hr hP
    by_cases q : r = n
    · subst q
      refine ⟨1, Or.inl rfl, fun v w h => ?_⟩
      show wd (r + 1) v w (if (P r || decide (r = r)) = true then mk r (fun s => P s || decide (s = r)) + 2 ^ r else mk r (fun s => P s || decide (s = r))) = 1 * (v r * w (if P r = true then mk r P + 2 ^ r else mk r P))
      rw [if_pos (by simp), if_neg (by rw [hP]; decide), mk_congr (Q := P) r (fun s hs => by simp; omega), wd_hi, wd_out2 r P v _ (fun s hs => h s (by omega))]
      omega
    · obtain ⟨e, e1, e2⟩ := ih P r (by omega) hP
      have un : (P n || decide (n = r)) = P n := by
        have : decide (n = r) = false := by simp; omega
        rw [this, Bool.or_false]
      by_cases qn : P n = true
      · refine ⟨-e, by omega, fun v w h => ?_⟩
        show wd (n + 1) v w (if (P n || decide (n = r)) = true then mk n (fun s => P s || decide (s = r)) + 2 ^ n else mk n (fun s => P s || decide (s = r))) = -e * (v r * w (if P n = true then mk n P + 2 ^ n else mk n P))
        rw [un, if_pos qn, if_pos qn, wd_hi, h n (by omega) qn, e2 v _ (fun s hs => h s (by omega))]
        grind
      · refine ⟨e, e1, fun v w h => ?_⟩
        show wd (n + 1) v w (if (P n || decide (n = r)) = true then mk n (fun s => P s || decide (s = r)) + 2 ^ n else mk n (fun s => P s || decide (s = r))) = e * (v r * w (if P n = true then mk n P + 2 ^ n else mk n P))
        rw [un, if_neg qn, if_neg qn, wd_lo (mk_lt _ n)]
        exact e2 v w (fun s hs => h s (by omega))
/-- the rows in another order: u to the first order, z back -/
def Ord (m : Nat) (u z : Nat → Nat) : Prop := (∀ r, r < m → u r < m ∧ z (u r) = r) ∧ ∀ s, s < m → z s < m ∧ u (z s) = s
def lsk (m k : Nat) (z : Nat → Nat) : Nat := mk m (fun s => decide (z s < k))
theorem lsk_lt (m k : Nat) (z : Nat → Nat) : lsk m k z < 2 ^ m := mk_lt _ m
theorem key_i {m k : Nat} {u z : Nat → Nat} (O : Ord m u z) {c : Nat → Nat → Int} {W : Nat → Int} {Wi : Nat → Nat → Int} (H : Wdg m k c W Wi) {a x y : Nat → Int} {D : Int} (E : ∀ r, r < m → D * a (u r) = tot (fun i => x i * c i (u r)) k + (if k ≤ r then y r else 0)) {i : Nat} (h1 : i < k) : D * wd m a (Wi i) (lsk m k z) = x i * W (lsk m k z) := by
  have hS := lsk_lt m k z
  have e1 : D * wd m a (Wi i) (lsk m k z) = wd m (fun s => D * a s + 0 * a s) (Wi i) (lsk m k z) := by rw [wd_linv]; omega
  have e2 : wd m (fun s => D * a s + 0 * a s) (Wi i) (lsk m k z) = wd m (fun s => tot (fun i => x i * c i s) k + (fun s => if k ≤ z s then y (z s) else 0) s) (Wi i) (lsk m k z) := wd_cv m _ _ _ (fun s hs => by
    show D * a s + 0 * a s = tot (fun i => x i * c i s) k + (if k ≤ z s then y (z s) else 0)
    have := E (z s) (O.2 s hs).1
    rw [(O.2 s hs).2] at this
    omega) _
  rw [e1, e2, wd_tot, tot_one (i := i) k h1 (fun l hl hn => by rw [H.2 i l h1 hl hn _ hS, Int.mul_zero]), H.1 i h1 _ hS]
  unfold lsk
  rw [wd_out2 m _ _ _ (fun s hs h => if_neg (by simp at h; omega))]
  omega
theorem key_r {m k : Nat} {u z : Nat → Nat} (O : Ord m u z) {c : Nat → Nat → Int} {W : Nat → Int} {Wi : Nat → Nat → Int} (H : Wdg m k c W Wi) {r : Nat} (h1 : k ≤ r) (h2 : r < m) : ∃ e : Int, (e = 1 ∨ e = -1) ∧ ∀ (a x y : Nat → Int) (D : Int), (∀ r, r < m → D * a (u r) = tot (fun i => x i * c i (u r)) k + (if k ≤ r then y r else 0)) → D * wd m a W (mk m (fun s => decide (z s < k) || decide (s = u r))) = e * (y r * W (lsk m k z)) := by
  obtain ⟨e, e1, e2⟩ := wd_top2 m (fun s => decide (z s < k)) (u r) (O.1 r h2).1 (by simp; rw [(O.1 r h2).2]; exact h1)
  refine ⟨e, e1, fun a x y D E => ?_⟩
  have hS := mk_lt (fun s => decide (z s < k) || decide (s = u r)) m
  generalize hM : mk m (fun s => decide (z s < k) || decide (s = u r)) = M at e2 hS
  have f1 : D * wd m a W M = wd m (fun s => D * a s + 0 * a s) W M := by rw [wd_linv]; omega
  have f2 : wd m (fun s => D * a s + 0 * a s) W M = wd m (fun s => tot (fun i => x i * c i s) k + (fun s => if k ≤ z s then y (z s) else 0) s) W M := wd_cv m _ _ W (fun s hs => by
    show D * a s + 0 * a s = tot (fun i => x i * c i s) k + (if k ≤ z s then y (z s) else 0)
    have := E (z s) (O.2 s hs).1
    rw [(O.2 s hs).2] at this
    omega) _
  rw [f1, f2, wd_tot, tot_zero k (fun i hi => by rw [Wdg_0 H hi hS, Int.mul_zero]), e2 _ W (fun s hs h => if_neg (by simp at h; omega))]
  simp only [(O.1 r h2).2, if_pos h1]
  unfold lsk
  omega
def prd (x : Nat → Int) : Nat → Int
  | 0 => 1
  | k + 1 => x k * prd x k
/-- the outer products against the product of any bounds of their columns -/
def PB (m k : Nat) (c : Nat → Nat → Int) (W : Nat → Int) (Wi : Nat → Nat → Int) : Prop := (∀ x : Nat → Int, (∀ i, i < k → nv m (c i) ≤ x i) → ipw m W W ≤ prd x k) ∧ ∀ i, i < k → ∀ x : Nat → Int, (∀ l, l < k → l ≠ i → nv m (c l) ≤ x l) → 1 ≤ x i → ipw m (Wi i) (Wi i) ≤ prd x k
/-- the state of a clearing: k columns lead, D is the scale, T the numbers; K bounds the squares of leading columns -/
def bI (m k J : Nat) (a c : Nat → Nat → Int) (D : Int) (T : Nat → Nat → Int) (K : Int) (u z : Nat → Nat) : Prop := k ≤ m ∧ D ≠ 0 ∧ Ord m u z ∧ (∀ j, j < J → ∀ r, r < m → D * a j (u r) = tot (fun i => T i j * c i (u r)) k + (if k ≤ r then T r j else 0)) ∧ ∃ (W : Nat → Int) (Wi : Nat → Nat → Int), Wdg m k c W Wi ∧ (W (lsk m k z) = D ∨ W (lsk m k z) = -D) ∧ ipw m W W ≤ K ^ k ∧ (∀ i, i < k → ipw m (Wi i) (Wi i) ≤ K ^ (k - 1)) ∧ PB m k c W Wi
theorem ipw_one : ∀ m : Nat, ipw m (fun t => if t = 0 then 1 else 0) (fun t => if t = 0 then 1 else 0) = 1 := by
  intro m
  induction m with
  | zero => rfl
  | succ m ih =>
    show ipw m _ _ + ipw m (fun t => if t + 2 ^ m = 0 then 1 else 0) (fun t => if t + 2 ^ m = 0 then 1 else 0) = 1
    have e : (fun t => if t + 2 ^ m = 0 then (1 : Int) else 0) = fun t => 0 * (fun _ => (0 : Int)) t + 0 * (fun _ => (0 : Int)) t := by
      funext t
      have : 1 ≤ 2 ^ m := Nat.one_le_two_pow
      rw [if_neg (by omega)]
      rfl
    rw [ih, e, ipw_lin]
    omega
theorem mk_none : ∀ m : Nat, mk m (fun _ => false) = 0 := by
  intro m
  induction m with
  | zero => rfl
  | succ m ih => show (if false = true then _ else mk m (fun _ => false)) = 0; rw [if_neg (by decide)]; exact ih
theorem bI_0 {m J : Nat} {a c : Nat → Nat → Int} {T : Nat → Nat → Int} {K : Int} (h : ∀ j, j < J → ∀ r, r < m → T r j = a j r) : bI m 0 J a c 1 T K id id := by
  refine ⟨Nat.zero_le _, by decide, ⟨fun r hr => ⟨hr, rfl⟩, fun r hr => ⟨hr, rfl⟩⟩, fun j hj r hr => ?_, fun t => if t = 0 then 1 else 0, fun _ _ => 0, ⟨fun i hi => by omega, fun i l hi => by omega⟩, Or.inl ?_, ?_, fun i hi => by omega, fun x _ => ?_, fun i hi => by omega⟩
  · rw [if_pos (Nat.zero_le _), h j hj r hr]
    show 1 * a j r = 0 + a j r
    omega
  · unfold lsk
    rw [mk_congr (Q := fun _ => false) m (fun s hs => by simp), mk_none]
    rfl
  · rw [ipw_one, Int.pow_zero]
    exact Int.le_refl _
  · rw [ipw_one]
    exact Int.le_refl _
theorem sq_pm {x y : Int} (h : x = y ∨ x = -y) : x * x = y * y := by
  rcases h with rfl | rfl
  · rfl
  · rw [Int.neg_mul, Int.mul_neg, Int.neg_neg]
theorem pm_of {e D x y w : Int} (he : e = 1 ∨ e = -1) (hD : D ≠ 0) (hw : w = D ∨ w = -D) (h : D * x = e * (y * w)) : x = y ∨ x = -y := by
  rcases he with rfl | rfl <;> rcases hw with rfl | rfl
  · exact Or.inl (Int.eq_of_mul_eq_mul_left hD (by rw [h]; grind))
  · exact Or.inr (Int.eq_of_mul_eq_mul_left hD (by rw [h]; grind))
  · exact Or.inr (Int.eq_of_mul_eq_mul_left hD (by rw [h]; grind))
  · exact Or.inl (Int.eq_of_mul_eq_mul_left hD (by rw [h]; grind))
theorem bI_bd {m k J : Nat} {a c : Nat → Nat → Int} {D : Int} {T : Nat → Nat → Int} {K : Int} {u z : Nat → Nat} (B : bI m k J a c D T K u z) {j : Nat} (hj : j < J) {A : Int} (hA : nv m (a j) ≤ A) : D * D ≤ K ^ k ∧ (∀ r, k ≤ r → r < m → T r j * T r j ≤ A * K ^ k) ∧ (∀ i, i < k → T i j * T i j ≤ A * K ^ (k - 1)) := by
  obtain ⟨b1, b2, O, b3, W, Wi, b4, b5, b6, b7, b8⟩ := B
  have hA0 : 0 ≤ A := Int.le_trans (nv_nn m (a j)) hA
  refine ⟨?_, fun r h1 h2 => ?_, fun i hi => ?_⟩
  · have := ipw_at m W (lsk m k z) (lsk_lt _ _ _)
    rw [sq_pm b5] at this
    omega
  · obtain ⟨e, e1, e2⟩ := key_r O b4 h1 h2
    have e3 := pm_of e1 b2 b5 (e2 (a j) (fun i => T i j) (fun r => T r j) D (b3 j hj))
    have h3 := ipw_at m (wd m (a j) W) _ (mk_lt (fun s => decide (z s < k) || decide (s = u r)) m)
    have h4 := wd_nsq2 hA b6 hA0
    rw [sq_pm e3] at h3
    omega
  · have e := key_i O b4 (x := fun i => T i j) (y := fun r => T r j) (b3 j hj) (i := i) hi
    have e3 := pm_of (Or.inl rfl) b2 b5 (e.trans (Int.one_mul _).symm)
    have h3 := ipw_at m (wd m (a j) (Wi i)) _ (lsk_lt m k z)
    have h4 := wd_nsq2 hA (b7 i hi) hA0
    rw [sq_pm e3] at h3
    omega
theorem bI_swap {m k J : Nat} {a c : Nat → Nat → Int} {D : Int} {T : Nat → Nat → Int} {K : Int} {u z : Nat → Nat} (B : bI m k J a c D T K u z) {p q : Nat} (hp : k ≤ p ∧ p < m) (hq : k ≤ q ∧ q < m) : bI m k J a c D (fun r j => T (if r = p then q else if r = q then p else r) j) K (fun r => u (if r = p then q else if r = q then p else r)) (fun s => if z s = p then q else if z s = q then p else z s) := by
  obtain ⟨b1, b2, O, b3, W, Wi, b4, b5, b6, b7, b8⟩ := B
  have sw : ∀ r, r < m → (if r = p then q else if r = q then p else r) < m := by
    intro r hr
    repeat' split
    all_goals omega
  have ss : ∀ r, (if (if r = p then q else if r = q then p else r) = p then q else if (if r = p then q else if r = q then p else r) = q then p else (if r = p then q else if r = q then p else r)) = r := by
    intro r
    repeat' split
    all_goals omega
  refine ⟨b1, b2, ⟨fun r hr => ?_, fun s hs => ?_⟩, fun j hj r hr => ?_, W, Wi, b4, ?_, b6, b7, b8⟩
  · have h := O.1 _ (sw r hr)
    refine ⟨h.1, ?_⟩
    simp only [h.2]
    exact ss r
  · have h := O.2 s hs
    refine ⟨sw _ h.1, ?_⟩
    simp only [ss (z s)]
    exact h.2
  · have h := b3 j hj _ (sw r hr)
    simp only at h ⊢
    rw [h]
    have e1 : tot (fun i => T i j * c i (u (if r = p then q else if r = q then p else r))) k = tot (fun i => T (if i = p then q else if i = q then p else i) j * c i (u (if r = p then q else if r = q then p else r))) k := tot_congr k (fun i hi => by rw [if_neg (show ¬ (i = p) by omega), if_neg (show ¬ (i = q) by omega)])
    rw [e1]
    have e2 : (k ≤ (if r = p then q else if r = q then p else r)) = (k ≤ r) := by
      apply propext
      repeat' split
      all_goals omega
    simp only [e2]
  · have e : lsk m k (fun s => if z s = p then q else if z s = q then p else z s) = lsk m k z := by
      unfold lsk
      refine mk_congr m (fun s hs => ?_)
      have : ((if z s = p then q else if z s = q then p else z s) < k) = (z s < k) := by
        apply propext
        repeat' split
        all_goals omega
      simp only [this]
    rw [e]
    exact b5
theorem cancel_lead {l D M X e w : Int} (hl : l ≠ 0) (he : e = 1 ∨ e = -1) (hw : w = l ∨ w = -l) (h : l * D * M = e * (X * w)) : ∃ M', D * M' = X := by
  rcases he with rfl | rfl <;> rcases hw with rfl | rfl
  · exact ⟨M, Int.eq_of_mul_eq_mul_left hl (by rw [← Int.mul_assoc, h]; grind)⟩
  · exact ⟨-M, Int.eq_of_mul_eq_mul_left hl (by rw [Int.mul_neg, Int.mul_neg, ← Int.mul_assoc, h]; grind)⟩
  · exact ⟨-M, Int.eq_of_mul_eq_mul_left hl (by rw [Int.mul_neg, Int.mul_neg, ← Int.mul_assoc, h]; grind)⟩
  · exact ⟨M, Int.eq_of_mul_eq_mul_left hl (by rw [← Int.mul_assoc, h]; grind)⟩
theorem bI_step {m k J : Nat} {a c : Nat → Nat → Int} {D : Int} {T : Nat → Nat → Int} {K : Int} {u z : Nat → Nat} (hK : 0 ≤ K) (B : bI m k J a c D T K u z) {p : Nat} (hp : p < J) (hk : k < m) (hl : T k p ≠ 0) (hA : nv m (a p) ≤ K) : (∀ i j, i < m → i ≠ k → j < J → D ∣ (T k p * T i j - T i p * T k j)) ∧ bI m (k + 1) J a (fun i => if i = k then a p else c i) (T k p) (fun i j => if i = k then T k j else (T k p * T i j - T i p * T k j).tdiv D) K u z := by
  obtain ⟨b1, b2, O, b3, W, Wi, b4, b5, b6, b7, b8⟩ := B
  have hW' : Wdg m (k + 1) (fun i => if i = k then a p else c i) (wd m (a p) W) (fun i => if i = k then W else fun t => (-1) * wd m (a p) (Wi i) t + 0 * wd m (a p) (Wi i) t) := by
    refine ⟨fun i hi S hS => ?_, fun i l hi hl2 hn S hS => ?_⟩
    · by_cases q : i = k
      · simp only [if_pos q]
      · simp only [if_neg q]
        rw [wd_lin]
        have h1 := wd_anti m (c i) (a p) (Wi i) S hS
        rw [wd_cw m (a p) W (wd m (c i) (Wi i)) (fun t ht => (b4.1 i (by omega) t ht).symm) S hS]
        omega
    · by_cases q : i = k
      · simp only [if_pos q]
        rw [if_neg (by omega)]
        exact Wdg_0 b4 (by omega) hS
      · simp only [if_neg q]
        rw [wd_lin]
        by_cases q2 : l = k
        · rw [if_pos q2, wd_self m (a p) (Wi i) S hS]
          omega
        · rw [if_neg q2]
          have h1 := wd_anti m (c l) (a p) (Wi i) S hS
          have h2 : wd m (a p) (wd m (c l) (Wi i)) S = wd m (a p) (fun t => 0 * W t + 0 * W t) S := wd_cw m (a p) _ _ (fun t ht => by rw [b4.2 i l (by omega) (by omega) hn t ht]; omega) S hS
          rw [wd_lin] at h2
          omega
  have lk : lsk m (k + 1) z = mk m (fun s => decide (z s < k) || decide (s = u k)) := by
    unfold lsk
    refine mk_congr m (fun s hs => ?_)
    have h := O.2 s hs
    have e : (z s < k + 1) = (z s < k ∨ s = u k) := by
      apply propext
      constructor
      · intro q
        by_cases q2 : z s < k
        · exact Or.inl q2
        · refine Or.inr ?_
          have : z s = k := by omega
          rw [← this]
          exact h.2.symm
      · intro q
        rcases q with q | q
        · omega
        · rw [q, (O.1 k hk).2]
          omega
    simp only [e]
    simp
  have lead : wd m (a p) W (lsk m (k + 1) z) = T k p ∨ wd m (a p) W (lsk m (k + 1) z) = - T k p := by
    obtain ⟨e, e1, e2⟩ := key_r O b4 (r := k) (Nat.le_refl _) hk
    rw [lk]
    exact pm_of e1 b2 b5 (e2 (a p) (fun i => T i p) (fun r => T r p) D (b3 p hp))
  have E' : ∀ j, j < J → ∀ r, r < m → (T k p * D) * a j (u r) = tot (fun i => (if i = k then D * T k j else T k p * T i j - T i p * T k j) * (if i = k then a p else c i) (u r)) (k + 1) + (if k + 1 ≤ r then T k p * T r j - T r p * T k j else 0) := by
    intro j hj r hr
    have h1 := b3 j hj r hr
    have h2 := b3 p hp r hr
    show _ = tot (fun i => (if i = k then D * T k j else T k p * T i j - T i p * T k j) * (if i = k then a p else c i) (u r)) k + (if k = k then D * T k j else _) * (if k = k then a p else c k) (u r) + _
    rw [if_pos rfl, if_pos rfl]
    have e1 : tot (fun i => (if i = k then D * T k j else T k p * T i j - T i p * T k j) * (if i = k then a p else c i) (u r)) k = tot (fun i => T k p * (T i j * c i (u r)) + (- T k j) * (T i p * c i (u r))) k := tot_congr k (fun i hi => by
      show (if i = k then D * T k j else T k p * T i j - T i p * T k j) * (if i = k then a p else c i) (u r) = _
      rw [if_neg (by omega), if_neg (by omega)]
      grind)
    rw [e1, tot_lin]
    generalize tot (fun i => T i j * c i (u r)) k = X at h1 ⊢
    generalize tot (fun i => T i p * c i (u r)) k = Y at h2 ⊢
    by_cases q : k ≤ r
    · rw [if_pos q] at h1 h2
      by_cases q2 : k + 1 ≤ r
      · rw [if_pos q2]
        grind
      · rw [if_neg q2]
        have : r = k := by omega
        subst this
        grind
    · rw [if_neg q] at h1 h2
      rw [if_neg (by omega)]
      grind
  have ex : ∀ i j, i < m → i ≠ k → j < J → ∃ M, D * M = T k p * T i j - T i p * T k j := by
    intro i j hi hn hj
    by_cases q : i < k
    · have e := key_i O hW' (x := fun i => if i = k then D * T k j else T k p * T i j - T i p * T k j) (y := fun r => T k p * T r j - T r p * T k j) (E' j hj) (i := i) (by omega)
      simp only [if_neg hn] at e
      exact cancel_lead hl (Or.inl rfl) lead (e.trans (Int.one_mul _).symm)
    · obtain ⟨e, e1, e2⟩ := key_r O hW' (r := i) (by omega) hi
      exact cancel_lead hl e1 lead (e2 (a j) (fun i => if i = k then D * T k j else T k p * T i j - T i p * T k j) (fun r => T k p * T r j - T r p * T k j) (T k p * D) (E' j hj))
  have dv : ∀ i j, i < m → i ≠ k → j < J → D * (T k p * T i j - T i p * T k j).tdiv D = T k p * T i j - T i p * T k j := by
    intro i j hi hn hj
    obtain ⟨M, hM⟩ := ex i j hi hn hj
    rw [← hM, Int.mul_tdiv_cancel_left M b2]
  refine ⟨fun i j hi hn hj => by obtain ⟨M, hM⟩ := ex i j hi hn hj; exact ⟨M, hM.symm⟩, by omega, hl, O, fun j hj r hr => ?_, _, _, hW', lead, ?_, fun i hi => ?_, fun x hx => ?_, fun i hi x hx hx1 => ?_⟩
  · have h := E' j hj r hr
    show T k p * a j (u r) = tot (fun i => (if i = k then T k j else (T k p * T i j - T i p * T k j).tdiv D) * (if i = k then a p else c i) (u r)) (k + 1) + (if k + 1 ≤ r then (if r = k then T k j else (T k p * T r j - T r p * T k j).tdiv D) else 0)
    refine Int.eq_of_mul_eq_mul_left b2 ?_
    rw [← Int.mul_assoc, Int.mul_comm D (T k p), h]
    have e1 : tot (fun i => (if i = k then D * T k j else T k p * T i j - T i p * T k j) * (if i = k then a p else c i) (u r)) (k + 1) = tot (fun i => D * ((if i = k then T k j else (T k p * T i j - T i p * T k j).tdiv D) * (if i = k then a p else c i) (u r)) + 0 * (0 : Int)) (k + 1) := tot_congr (k + 1) (fun i hi => by
      show (if i = k then D * T k j else T k p * T i j - T i p * T k j) * (if i = k then a p else c i) (u r) = D * ((if i = k then T k j else (T k p * T i j - T i p * T k j).tdiv D) * (if i = k then a p else c i) (u r)) + 0 * 0
      by_cases q : i = k
      · simp only [if_pos q]
        rw [Int.mul_assoc]
        omega
      · simp only [if_neg q]
        rw [← Int.mul_assoc, dv i j (by omega) q hj]
        omega)
    rw [e1, tot_lin (f := fun i => (if i = k then T k j else (T k p * T i j - T i p * T k j).tdiv D) * (if i = k then a p else c i) (u r)) (h := fun _ => 0), Int.mul_add]
    by_cases q : k + 1 ≤ r
    · rw [if_pos q, if_pos q, if_neg (show ¬ (r = k) by omega), dv r j hr (by omega) hj]
      omega
    · rw [if_neg q, if_neg q]
      omega
  · rw [Int.pow_succ, Int.mul_comm]
    exact wd_nsq2 hA b6 hK
  · show ipw m (if i = k then W else fun t => (-1) * wd m (a p) (Wi i) t + 0 * wd m (a p) (Wi i) t) (if i = k then W else fun t => (-1) * wd m (a p) (Wi i) t + 0 * wd m (a p) (Wi i) t) ≤ K ^ (k + 1 - 1)
    rw [Nat.add_sub_cancel]
    by_cases q : i = k
    · rw [if_pos q]
      exact b6
    · rw [if_neg q, ipw_lin, ipw_comm, ipw_lin]
      have h := wd_nsq2 hA (b7 i (by omega)) hK
      have e : K ^ k = K * K ^ (k - 1) := by
        rw [Int.mul_comm, ← Int.pow_succ, show (k - 1).succ = k by omega]
      omega
  · have h1 := hx k (by omega)
    simp only [if_pos] at h1
    exact wd_nsq2 h1 (b8.1 x (fun i hi => by have h := hx i (by omega); simp only [if_neg (show ¬ (i = k) by omega)] at h; exact h)) (Int.le_trans (nv_nn m (a p)) h1)
  · show ipw m (if i = k then W else fun t => (-1) * wd m (a p) (Wi i) t + 0 * wd m (a p) (Wi i) t) (if i = k then W else fun t => (-1) * wd m (a p) (Wi i) t + 0 * wd m (a p) (Wi i) t) ≤ x k * prd x k
    by_cases q : i = k
    · rw [if_pos q]
      have h := b8.1 x (fun l hl => by have h := hx l (by omega) (by omega); simp only [if_neg (show ¬ (l = k) by omega)] at h; exact h)
      have h0 := ipw_nn m W
      rw [q] at hx1
      have h2 := Int.mul_le_mul_of_nonneg_right hx1 (Int.le_trans h0 h)
      omega
    · rw [if_neg q, ipw_lin, ipw_comm, ipw_lin]
      have h1 := hx k (by omega) (by omega)
      simp only [if_pos] at h1
      have h := wd_nsq2 h1 (b8.2 i (by omega) x (fun l hl hn => by have h := hx l (by omega) hn; simp only [if_neg (show ¬ (l = k) by omega)] at h; exact h) hx1) (Int.le_trans (nv_nn m (a p)) h1)
      omega
theorem bI_bd2 {m k J : Nat} {a c : Nat → Nat → Int} {D : Int} {T : Nat → Nat → Int} {K : Int} {u z : Nat → Nat} (B : bI m k J a c D T K u z) : (∀ x : Nat → Int, (∀ i, i < k → nv m (c i) ≤ x i) → D * D ≤ prd x k) ∧ ∀ j, j < J → ∀ A : Int, nv m (a j) ≤ A → ∀ i, i < k → ∀ x : Nat → Int, (∀ l, l < k → l ≠ i → nv m (c l) ≤ x l) → 1 ≤ x i → T i j * T i j ≤ A * prd x k := by
  obtain ⟨b1, b2, O, b3, W, Wi, b4, b5, b6, b7, b8⟩ := B
  refine ⟨fun x hx => ?_, fun j hj A hA i hi x hx hx1 => ?_⟩
  · have := ipw_at m W (lsk m k z) (lsk_lt _ _ _)
    rw [sq_pm b5] at this
    have := b8.1 x hx
    omega
  · have e := key_i O b4 (x := fun i => T i j) (y := fun r => T r j) (b3 j hj) (i := i) hi
    have e3 := pm_of (Or.inl rfl) b2 b5 (e.trans (Int.one_mul _).symm)
    have h3 := ipw_at m (wd m (a j) (Wi i)) _ (lsk_lt m k z)
    have h4 := wd_nsq2 hA (b8.2 i hi x hx hx1) (Int.le_trans (nv_nn m (a j)) hA)
    rw [sq_pm e3] at h3
    omega
