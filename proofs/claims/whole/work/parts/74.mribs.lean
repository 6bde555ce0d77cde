/-! the rib: moved polynomials, the pure side -/
def psa (a : Int) (v : Nat → Int) : Nat → Nat → Int
  | 0, i => v i
  | f + 1, i => v i + a * psa a v f (i + 1)
def psv (a : Int) (n : Nat) (p : Nat → Int) : Nat → Nat → Int
  | 0, i => p i
  | d + 1, i => if d ≤ i ∧ i < n then psa a (psv a n p d) (n - i) i else psv a n p d i
def hst (a b x : Int) (v : Nat → Int) (i : Nat) : Int := v i * a - (if i = 0 then 0 else v (i - 1) * b) + (if i = 0 then x else 0)
def hsv (a b : Int) (n : Nat) (p : Nat → Int) : Nat → Nat → Int
  | 0 => fun _ => 0
  | m + 1 => hst a b (p (n - m)) (hsv a b n p m)
theorem hs_10 (a b : Int) (p : Nat → Int) : hsv a b 1 p 2 0 = (-b) ^ 0 * psv a 1 p 1 0 := by
  simp [hsv, hst, psv, psa]
  try grind
theorem mv_10 (a d : Int) (p : Nat → Int) : (-1) ^ 0 * psv a 1 p 1 0 = psv d 1 (fun j => (-1) ^ j * psv (a + d) 1 p 1 j) 1 0 := by
  simp [psv, psa]
  try grind
theorem hs_11 (a b : Int) (p : Nat → Int) : hsv a b 1 p 2 1 = (-b) ^ 1 * psv a 1 p 1 1 := by
  simp [hsv, hst, psv, psa]
  try grind
theorem mv_11 (a d : Int) (p : Nat → Int) : (-1) ^ 1 * psv a 1 p 1 1 = psv d 1 (fun j => (-1) ^ j * psv (a + d) 1 p 1 j) 1 1 := by
  simp [psv, psa]
  try grind
theorem hs_20 (a b : Int) (p : Nat → Int) : hsv a b 2 p 3 0 = (-b) ^ 0 * psv a 2 p 2 0 := by
  simp [hsv, hst, psv, psa]
  try grind
theorem mv_20 (a d : Int) (p : Nat → Int) : (-1) ^ 0 * psv a 2 p 2 0 = psv d 2 (fun j => (-1) ^ j * psv (a + d) 2 p 2 j) 2 0 := by
  simp [psv, psa]
  try grind
theorem hs_21 (a b : Int) (p : Nat → Int) : hsv a b 2 p 3 1 = (-b) ^ 1 * psv a 2 p 2 1 := by
  simp [hsv, hst, psv, psa]
  try grind
theorem mv_21 (a d : Int) (p : Nat → Int) : (-1) ^ 1 * psv a 2 p 2 1 = psv d 2 (fun j => (-1) ^ j * psv (a + d) 2 p 2 j) 2 1 := by
  simp [psv, psa]
  try grind
theorem hs_22 (a b : Int) (p : Nat → Int) : hsv a b 2 p 3 2 = (-b) ^ 2 * psv a 2 p 2 2 := by
  simp [hsv, hst, psv, psa]
  try grind
theorem mv_22 (a d : Int) (p : Nat → Int) : (-1) ^ 2 * psv a 2 p 2 2 = psv d 2 (fun j => (-1) ^ j * psv (a + d) 2 p 2 j) 2 2 := by
  simp [psv, psa]
  try grind
theorem hs_30 (a b : Int) (p : Nat → Int) : hsv a b 3 p 4 0 = (-b) ^ 0 * psv a 3 p 3 0 := by
  simp [hsv, hst, psv, psa]
  try grind
theorem mv_30 (a d : Int) (p : Nat → Int) : (-1) ^ 0 * psv a 3 p 3 0 = psv d 3 (fun j => (-1) ^ j * psv (a + d) 3 p 3 j) 3 0 := by
  simp [psv, psa]
  try grind
theorem hs_31 (a b : Int) (p : Nat → Int) : hsv a b 3 p 4 1 = (-b) ^ 1 * psv a 3 p 3 1 := by
  simp [hsv, hst, psv, psa]
  try grind
theorem mv_31 (a d : Int) (p : Nat → Int) : (-1) ^ 1 * psv a 3 p 3 1 = psv d 3 (fun j => (-1) ^ j * psv (a + d) 3 p 3 j) 3 1 := by
  simp [psv, psa]
  try grind
theorem hs_32 (a b : Int) (p : Nat → Int) : hsv a b 3 p 4 2 = (-b) ^ 2 * psv a 3 p 3 2 := by
  simp [hsv, hst, psv, psa]
  try grind
theorem mv_32 (a d : Int) (p : Nat → Int) : (-1) ^ 2 * psv a 3 p 3 2 = psv d 3 (fun j => (-1) ^ j * psv (a + d) 3 p 3 j) 3 2 := by
  simp [psv, psa]
  try grind
theorem hs_33 (a b : Int) (p : Nat → Int) : hsv a b 3 p 4 3 = (-b) ^ 3 * psv a 3 p 3 3 := by
  simp [hsv, hst, psv, psa]
  try grind
theorem mv_33 (a d : Int) (p : Nat → Int) : (-1) ^ 3 * psv a 3 p 3 3 = psv d 3 (fun j => (-1) ^ j * psv (a + d) 3 p 3 j) 3 3 := by
  simp [psv, psa]
  try grind
theorem hs_40 (a b : Int) (p : Nat → Int) : hsv a b 4 p 5 0 = (-b) ^ 0 * psv a 4 p 4 0 := by
  simp [hsv, hst, psv, psa]
  try grind
theorem mv_40 (a d : Int) (p : Nat → Int) : (-1) ^ 0 * psv a 4 p 4 0 = psv d 4 (fun j => (-1) ^ j * psv (a + d) 4 p 4 j) 4 0 := by
  simp [psv, psa]
  try grind
theorem hs_41 (a b : Int) (p : Nat → Int) : hsv a b 4 p 5 1 = (-b) ^ 1 * psv a 4 p 4 1 := by
  simp [hsv, hst, psv, psa]
  try grind
theorem mv_41 (a d : Int) (p : Nat → Int) : (-1) ^ 1 * psv a 4 p 4 1 = psv d 4 (fun j => (-1) ^ j * psv (a + d) 4 p 4 j) 4 1 := by
  simp [psv, psa]
  try grind
theorem hs_42 (a b : Int) (p : Nat → Int) : hsv a b 4 p 5 2 = (-b) ^ 2 * psv a 4 p 4 2 := by
  simp [hsv, hst, psv, psa]
  try grind
theorem mv_42 (a d : Int) (p : Nat → Int) : (-1) ^ 2 * psv a 4 p 4 2 = psv d 4 (fun j => (-1) ^ j * psv (a + d) 4 p 4 j) 4 2 := by
  simp [psv, psa]
  try grind
theorem hs_43 (a b : Int) (p : Nat → Int) : hsv a b 4 p 5 3 = (-b) ^ 3 * psv a 4 p 4 3 := by
  simp [hsv, hst, psv, psa]
  try grind
theorem mv_43 (a d : Int) (p : Nat → Int) : (-1) ^ 3 * psv a 4 p 4 3 = psv d 4 (fun j => (-1) ^ j * psv (a + d) 4 p 4 j) 4 3 := by
  simp [psv, psa]
  try grind
theorem hs_44 (a b : Int) (p : Nat → Int) : hsv a b 4 p 5 4 = (-b) ^ 4 * psv a 4 p 4 4 := by
  simp [hsv, hst, psv, psa]
  try grind
theorem mv_44 (a d : Int) (p : Nat → Int) : (-1) ^ 4 * psv a 4 p 4 4 = psv d 4 (fun j => (-1) ^ j * psv (a + d) 4 p 4 j) 4 4 := by
  simp [psv, psa]
  try grind
theorem hs_all (a b : Int) (p : Nat → Int) {n k : Nat} (hn : 1 ≤ n ∧ n ≤ 4) (hk : k ≤ n) : hsv a b n p (n + 1) k = (-b) ^ k * psv a n p n k := by
  have hn' : n = 1 ∨ n = 2 ∨ n = 3 ∨ n = 4 := by omega
  rcases hn' with rfl | rfl | rfl | rfl
  · have : k = 0 ∨ k = 1 := by omega
    rcases this with rfl | rfl
    · exact hs_10 a b p
    · exact hs_11 a b p
  · have : k = 0 ∨ k = 1 ∨ k = 2 := by omega
    rcases this with rfl | rfl | rfl
    · exact hs_20 a b p
    · exact hs_21 a b p
    · exact hs_22 a b p
  · have : k = 0 ∨ k = 1 ∨ k = 2 ∨ k = 3 := by omega
    rcases this with rfl | rfl | rfl | rfl
    · exact hs_30 a b p
    · exact hs_31 a b p
    · exact hs_32 a b p
    · exact hs_33 a b p
  · have : k = 0 ∨ k = 1 ∨ k = 2 ∨ k = 3 ∨ k = 4 := by omega
    rcases this with rfl | rfl | rfl | rfl | rfl
    · exact hs_40 a b p
    · exact hs_41 a b p
    · exact hs_42 a b p
    · exact hs_43 a b p
    · exact hs_44 a b p
theorem mv_all (a d : Int) (p : Nat → Int) {n k : Nat} (hn : 1 ≤ n ∧ n ≤ 4) (hk : k ≤ n) : (-1) ^ k * psv a n p n k = psv d n (fun j => (-1) ^ j * psv (a + d) n p n j) n k := by
  have hn' : n = 1 ∨ n = 2 ∨ n = 3 ∨ n = 4 := by omega
  rcases hn' with rfl | rfl | rfl | rfl
  · have : k = 0 ∨ k = 1 := by omega
    rcases this with rfl | rfl
    · exact mv_10 a d p
    · exact mv_11 a d p
  · have : k = 0 ∨ k = 1 ∨ k = 2 := by omega
    rcases this with rfl | rfl | rfl
    · exact mv_20 a d p
    · exact mv_21 a d p
    · exact mv_22 a d p
  · have : k = 0 ∨ k = 1 ∨ k = 2 ∨ k = 3 := by omega
    rcases this with rfl | rfl | rfl | rfl
    · exact mv_30 a d p
    · exact mv_31 a d p
    · exact mv_32 a d p
    · exact mv_33 a d p
  · have : k = 0 ∨ k = 1 ∨ k = 2 ∨ k = 3 ∨ k = 4 := by omega
    rcases this with rfl | rfl | rfl | rfl | rfl
    · exact mv_40 a d p
    · exact mv_41 a d p
    · exact mv_42 a d p
    · exact mv_43 a d p
    · exact mv_44 a d p
theorem psa_nn {a : Int} (ha : 0 ≤ a) {v : Nat → Int} {n : Nat} (hv : ∀ i, i ≤ n → 0 ≤ v i) : ∀ f i, f + i ≤ n → 0 ≤ psa a v f i := by
  intro f
  induction f with
  | zero => intro i hi; exact hv i (by omega)
  | succ f ih =>
    intro i hi
    show 0 ≤ v i + a * psa a v f (i + 1)
    have h1 := hv i (by omega)
    have h2 := Int.mul_nonneg ha (ih (i + 1) (by omega))
    omega
theorem psv_nn {a : Int} (ha : 0 ≤ a) {p : Nat → Int} {n : Nat} (hp : ∀ i, i ≤ n → 0 ≤ p i) : ∀ d i, i ≤ n → 0 ≤ psv a n p d i := by
  intro d
  induction d with
  | zero => intro i hi; exact hp i hi
  | succ d ih =>
    intro i hi
    show 0 ≤ if d ≤ i ∧ i < n then psa a (psv a n p d) (n - i) i else psv a n p d i
    split
    · exact psa_nn ha (fun i hi => ih i hi) (n - i) i (by omega)
    · exact ih i hi
theorem psa_neg {a : Int} {v : Nat → Int} : ∀ f i, psa a (fun j => - v j) f i = - psa a v f i := by
  intro f
  induction f with
  | zero => intro i; rfl
  | succ f ih =>
    intro i
    show - v i + a * psa a (fun j => - v j) f (i + 1) = - (v i + a * psa a v f (i + 1))
    rw [ih, Int.mul_neg]
    omega
theorem psv_neg {a : Int} {p : Nat → Int} {n : Nat} : ∀ d i, psv a n (fun j => - p j) d i = - psv a n p d i := by
  intro d
  induction d with
  | zero => intro i; rfl
  | succ d ih =>
    intro i
    show (if d ≤ i ∧ i < n then psa a (psv a n (fun j => - p j) d) (n - i) i else psv a n (fun j => - p j) d i) = - (if d ≤ i ∧ i < n then psa a (psv a n p d) (n - i) i else psv a n p d i)
    have e : psv a n (fun j => - p j) d = fun j => - psv a n p d j := funext ih
    rw [e, psa_neg]
    split <;> rfl
/-- within -/
abbrev wi (x X : Int) : Prop := -X ≤ x ∧ x ≤ X
theorem wi_mul {a A x X : Int} (ha : 0 ≤ a ∧ a ≤ A) (hx : wi x X) : wi (a * x) (A * X) := by
  have hX : 0 ≤ X := by have := hx.1; have := hx.2; omega
  have h1 : a * x ≤ a * X := Int.mul_le_mul_of_nonneg_left hx.2 ha.1
  have h2 : a * (-X) ≤ a * x := Int.mul_le_mul_of_nonneg_left hx.1 ha.1
  have h3 : a * X ≤ A * X := Int.mul_le_mul_of_nonneg_right ha.2 hX
  rw [Int.mul_neg] at h2
  exact ⟨by omega, by omega⟩
theorem psa_wi {a A : Int} (ha : 0 ≤ a ∧ a ≤ A) {v V : Nat → Int} {n : Nat} (hv : ∀ i, i ≤ n → wi (v i) (V i)) : ∀ f i, f + i ≤ n → wi (psa a v f i) (psa A V f i) := by
  intro f
  induction f with
  | zero => intro i hi; exact hv i (by omega)
  | succ f ih =>
    intro i hi
    show wi (v i + a * psa a v f (i + 1)) (V i + A * psa A V f (i + 1))
    have h1 := hv i (by omega)
    have h2 := wi_mul ha (ih (i + 1) (by omega))
    exact ⟨by omega, by omega⟩
theorem psv_wi {a A : Int} (ha : 0 ≤ a ∧ a ≤ A) {p V : Nat → Int} {n : Nat} (hp : ∀ i, i ≤ n → wi (p i) (V i)) : ∀ d i, i ≤ n → wi (psv a n p d i) (psv A n V d i) := by
  intro d
  induction d with
  | zero => intro i hi; exact hp i hi
  | succ d ih =>
    intro i hi
    show wi (if d ≤ i ∧ i < n then psa a (psv a n p d) (n - i) i else psv a n p d i) (if d ≤ i ∧ i < n then psa A (psv A n V d) (n - i) i else psv A n V d i)
    split
    · exact psa_wi ha (fun i hi => ih i hi) (n - i) i (by omega)
    · exact ih i hi
theorem psv_num : ∀ n : Nat, n < 5 → ∀ k : Nat, k < 5 → psv 999 n (fun j => (bdn n j : Nat) * 99 ^ (n - j)) n k * 99 ^ k ≤ 9000000000000000000 := by decide +kernel
