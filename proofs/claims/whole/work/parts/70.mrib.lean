/-! the rib: the pure side -/
def bnd (j y : Int) : Int := if y = j then -2 else if y = j - 1 then 1 else if y = j + 1 then 1 else 0
theorem e_bend {j y : Int} (hj : zr (j - 1) ∧ zr (j + 1)) (hy : zr y) : d_X12_bend j y = some (bnd j y) := by
  unfold d_X12_bend bnd
  repeat' split
  all_goals first | rfl | (exfalso; omega)
theorem bnd_rng (j y : Int) : -2 ≤ bnd j y ∧ bnd j y ≤ 1 := by
  unfold bnd
  repeat' split
  all_goals omega
def Bs (u : Nat → Int) : Nat → Nat → Nat → Int
  | 0, _, _ => 0
  | j + 1, r, c => Bs u j r c + u (j + 1) * bnd ((j + 1 : Nat) : Int) ((r + 1 : Nat) : Int) * bnd ((j + 1 : Nat) : Int) ((c + 1 : Nat) : Int)
def stp (l y : Int) : Int := if y = l then -1 else if y = l + 1 then 1 else 0
def Ss : Nat → Nat → Nat → Int
  | 0, _, _ => 0
  | l + 1, r, c => Ss l r c + 1 * stp (l : Int) ((r + 1 : Nat) : Int) * stp (l : Int) ((c + 1 : Nat) : Int)
def Sf (r c : Nat) : Int := if r = c then 2 else if r + 1 = c then -1 else if c + 1 = r then -1 else 0
theorem Ss_eq : ∀ n : Nat, n < 5 → ∀ r : Nat, r < n → ∀ c : Nat, c < n → Ss (n + 1) r c = Sf r c := by decide
def sgn (set c : Nat) : Int := if zpc 12 (set / 2 ^ (c + 1)) % 2 = 0 then 1 else -1
def tmr (B S : Nat → Int) (m : Nat → Nat → Int) (set k c : Nat) : Int := if set / 2 ^ c % 2 = 1 then sgn set c * B c * m (set - 2 ^ c) k - (if k = 0 then 0 else sgn set c * S c * m (set - 2 ^ c) (k - 1)) else 0
def psm (B S : Nat → Int) (m : Nat → Nat → Int) (set k : Nat) : Nat → Int
  | 0 => 0
  | c + 1 => psm B S m set k c + tmr B S m set k c
def mnF (B S : Nat → Nat → Int) : Nat → Nat → Nat → Int
  | 0, _, k => if k = 0 then 1 else 0
  | r + 1, set, k => psm (B r) (S r) (mnF B S r) set k 4
theorem psm_zero {B S : Nat → Int} {m : Nat → Nat → Int} {set k : Nat} (h : ∀ t, m t k = 0) (h2 : ∀ t, m t (k - 1) = 0) : ∀ c, psm B S m set k c = 0 := by
  intro c
  induction c with
  | zero => rfl
  | succ c ih =>
    show psm B S m set k c + tmr B S m set k c = 0
    rw [ih]
    unfold tmr
    rw [h, h2, Int.mul_zero, Int.mul_zero, ite_self]
    simp
theorem mnF_deg (B S : Nat → Nat → Int) : ∀ (r set k : Nat), r < k → mnF B S r set k = 0 := by
  intro r
  induction r with
  | zero => intro set k h; show (if k = 0 then 1 else 0) = (0 : Int); rw [if_neg (by omega)]
  | succ r ih =>
    intro set k h
    show psm (B r) (S r) (mnF B S r) set k 4 = 0
    exact psm_zero (fun t => ih t k (by omega)) (fun t => ih t (k - 1) (by omega)) 4
/-! bounds -/
def bdn : Nat → Nat → Nat
  | 0, k => if k = 0 then 1 else 0
  | r + 1, k => 320 * bdn r k + 4 * (if k = 0 then 0 else bdn r (k - 1))
def asum (B : Nat → Int) : Nat → Nat
  | 0 => 0
  | c + 1 => asum B c + (B c).natAbs
theorem sgn_abs (set c : Nat) : (sgn set c).natAbs = 1 := by
  unfold sgn
  split <;> rfl
theorem psm_bd {B S : Nat → Int} {m : Nat → Nat → Int} {set k M M' : Nat} (h : ∀ t, (m t k).natAbs ≤ M) (h2 : k ≠ 0 → ∀ t, (m t (k - 1)).natAbs ≤ M') : ∀ c, (psm B S m set k c).natAbs ≤ asum B c * M + asum S c * M' := by
  intro c
  induction c with
  | zero => exact Nat.zero_le _
  | succ c ih =>
    show (psm B S m set k c + tmr B S m set k c).natAbs ≤ (asum B c + (B c).natAbs) * M + (asum S c + (S c).natAbs) * M'
    have t : (tmr B S m set k c).natAbs ≤ (B c).natAbs * M + (S c).natAbs * M' := by
      unfold tmr
      split
      · have a1 : (sgn set c * B c * m (set - 2 ^ c) k).natAbs ≤ (B c).natAbs * M := by
          rw [Int.natAbs_mul, Int.natAbs_mul, sgn_abs, Nat.one_mul]
          exact Nat.mul_le_mul_left _ (h _)
        by_cases k0 : k = 0
        · rw [if_pos k0, Int.sub_zero]
          omega
        · rw [if_neg k0]
          have a2 : (sgn set c * S c * m (set - 2 ^ c) (k - 1)).natAbs ≤ (S c).natAbs * M' := by
            rw [Int.natAbs_mul, Int.natAbs_mul, sgn_abs, Nat.one_mul]
            exact Nat.mul_le_mul_left _ (h2 k0 _)
          omega
      · exact Nat.zero_le _
    rw [Nat.add_mul, Nat.add_mul]
    omega
theorem mnF_bd {B S : Nat → Nat → Int} (hB : ∀ r, r < 4 → asum (B r) 4 ≤ 320) (hS : ∀ r, r < 4 → asum (S r) 4 ≤ 4) : ∀ (r : Nat), r ≤ 4 → ∀ (set k : Nat), (mnF B S r set k).natAbs ≤ bdn r k := by
  intro r
  induction r with
  | zero =>
    intro _ set k
    show (if k = 0 then (1 : Int) else 0).natAbs ≤ if k = 0 then 1 else 0
    split <;> decide
  | succ r ih =>
    intro hr set k
    show (psm (B r) (S r) (mnF B S r) set k 4).natAbs ≤ 320 * bdn r k + 4 * (if k = 0 then 0 else bdn r (k - 1))
    have h := psm_bd (B := B r) (S := S r) (m := mnF B S r) (set := set) (k := k) (M := bdn r k) (M' := if k = 0 then 0 else bdn r (k - 1)) (fun t => ih (by omega) t k) (fun k0 t => by rw [if_neg k0]; exact ih (by omega) t (k - 1)) 4
    have h1 := Nat.mul_le_mul_right (bdn r k) (hB r (by omega))
    have h2 := Nat.mul_le_mul_right (if k = 0 then 0 else bdn r (k - 1)) (hS r (by omega))
    omega
theorem Sf_sum : ∀ r : Nat, r < 4 → asum (Sf r) 4 ≤ 4 := by decide
theorem Bs_sum {u : Nat → Int} (h : ∀ j, 1 ≤ j → j ≤ 4 → 0 ≤ u j ∧ u j ≤ 20) : ∀ n : Nat, n ≤ 4 → ∀ r : Nat, r < 4 → asum (Bs u n r) 4 ≤ 320 := by
  intro n hn r hr
  have u1 := h 1 (by omega) (by omega)
  have u2 := h 2 (by omega) (by omega)
  have u3 := h 3 (by omega) (by omega)
  have u4 := h 4 (by omega) (by omega)
  have hn' : n = 0 ∨ n = 1 ∨ n = 2 ∨ n = 3 ∨ n = 4 := by omega
  have hr' : r = 0 ∨ r = 1 ∨ r = 2 ∨ r = 3 := by omega
  rcases hn' with rfl | rfl | rfl | rfl | rfl <;> rcases hr' with rfl | rfl | rfl | rfl
  all_goals
    simp only [asum, Bs, bnd]
    simp
    try omega
