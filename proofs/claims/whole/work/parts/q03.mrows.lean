/-! the law: its rows, from a place on -/
theorem xrow_skip {l2 : List xRow} {P pc : Nat} (hp : P ≤ pc) : ∀ l1 : List xRow, l1.all (fun q => decide (q.1 < P)) = true → xrow (l1 ++ l2) pc = xrow l2 pc
  | [], _ => rfl
  | q :: l, h => by
    rw [List.all_cons, Bool.and_eq_true, decide_eq_true_eq] at h
    show (if q.1 = pc then some q.2 else xrow (l ++ l2) pc) = _
    rw [if_neg (by omega), xrow_skip hp l h.2]
def xNP (rows : List xRow) (P : Nat) : Nat → xS → Option xS
  | 0, s => some s
  | k + 1, s => if P ≤ s.1 then (match x1 rows s.1 s.2.1 s.2.2.1 s.2.2.2 with
    | some (.inl s') => xNP rows P k s'
    | _ => none) else none
theorem x1S {R rows : List xRow} {P pc : Nat} (hE : ∀ q, P ≤ q → xrow R q = xrow rows q) (h : P ≤ pc) (lv : xL) (st : List Value) (hp : xH) : x1 R pc lv st hp = x1 rows pc lv st hp := by
  unfold x1
  rw [hE pc h]
theorem xNP_run {R rows : List xRow} {P : Nat} (hE : ∀ q, P ≤ q → xrow R q = xrow rows q) : ∀ (k : Nat) {s s' : xS}, xNP rows P k s = some s' → xN R k s = some s'
  | 0, s, s', h => h
  | k + 1, (pc, lv, st, hp), s', h => by
    unfold xNP at h
    dsimp only at h
    by_cases q : P ≤ pc
    · rw [if_pos q] at h
      unfold xN
      rw [x1S hE q]
      split at h
      next s1 h1 =>
        rw [h1]
        exact xNP_run hE k h
      next => cases h
    · rw [if_neg q] at h
      cases h
def rS27 : List xRow := rL_law_27
def rS26 : List xRow := rL_law_26 ++ rS27
def rS25 : List xRow := rL_law_25 ++ rS26
def rS24 : List xRow := rL_law_24 ++ rS25
def rS23 : List xRow := rL_law_23 ++ rS24
def rS22 : List xRow := rL_law_22 ++ rS23
def rS21 : List xRow := rL_law_21 ++ rS22
def rS20 : List xRow := rL_law_20 ++ rS21
def rS19 : List xRow := rL_law_19 ++ rS20
def rS18 : List xRow := rL_law_18 ++ rS19
def rS17 : List xRow := rL_law_17 ++ rS18
def rS16 : List xRow := rL_law_16 ++ rS17
def rS15 : List xRow := rL_law_15 ++ rS16
def rS14 : List xRow := rL_law_14 ++ rS15
def rS13 : List xRow := rL_law_13 ++ rS14
def rS12 : List xRow := rL_law_12 ++ rS13
def rS11 : List xRow := rL_law_11 ++ rS12
def rS10 : List xRow := rL_law_10 ++ rS11
def rS9 : List xRow := rL_law_9 ++ rS10
def rS8 : List xRow := rL_law_8 ++ rS9
def rS7 : List xRow := rL_law_7 ++ rS8
def rS6 : List xRow := rL_law_6 ++ rS7
def rS5 : List xRow := rL_law_5 ++ rS6
def rS4 : List xRow := rL_law_4 ++ rS5
def rS3 : List xRow := rL_law_3 ++ rS4
def rS2 : List xRow := rL_law_2 ++ rS3
def rS1 : List xRow := rL_law_1 ++ rS2
def rS0 : List xRow := rL_law_0 ++ rS1
theorem hS0 : ∀ q, 0 ≤ q → xrow ML_law.2.2.2.2 q = xrow rS0 q := fun _ _ => rfl
theorem hS1 : ∀ q, 222 ≤ q → xrow ML_law.2.2.2.2 q = xrow rS1 q := fun q h => (hS0 q (by omega)).trans (xrow_skip h rL_law_0 rfl)
theorem hS2 : ∀ q, 268 ≤ q → xrow ML_law.2.2.2.2 q = xrow rS2 q := fun q h => (hS1 q (by omega)).trans (xrow_skip h rL_law_1 rfl)
theorem hS3 : ∀ q, 318 ≤ q → xrow ML_law.2.2.2.2 q = xrow rS3 q := fun q h => (hS2 q (by omega)).trans (xrow_skip h rL_law_2 rfl)
theorem hS4 : ∀ q, 366 ≤ q → xrow ML_law.2.2.2.2 q = xrow rS4 q := fun q h => (hS3 q (by omega)).trans (xrow_skip h rL_law_3 rfl)
theorem hS5 : ∀ q, 418 ≤ q → xrow ML_law.2.2.2.2 q = xrow rS5 q := fun q h => (hS4 q (by omega)).trans (xrow_skip h rL_law_4 rfl)
theorem hS6 : ∀ q, 470 ≤ q → xrow ML_law.2.2.2.2 q = xrow rS6 q := fun q h => (hS5 q (by omega)).trans (xrow_skip h rL_law_5 rfl)
theorem hS7 : ∀ q, 518 ≤ q → xrow ML_law.2.2.2.2 q = xrow rS7 q := fun q h => (hS6 q (by omega)).trans (xrow_skip h rL_law_6 rfl)
theorem hS8 : ∀ q, 568 ≤ q → xrow ML_law.2.2.2.2 q = xrow rS8 q := fun q h => (hS7 q (by omega)).trans (xrow_skip h rL_law_7 rfl)
theorem hS9 : ∀ q, 622 ≤ q → xrow ML_law.2.2.2.2 q = xrow rS9 q := fun q h => (hS8 q (by omega)).trans (xrow_skip h rL_law_8 rfl)
theorem hS10 : ∀ q, 664 ≤ q → xrow ML_law.2.2.2.2 q = xrow rS10 q := fun q h => (hS9 q (by omega)).trans (xrow_skip h rL_law_9 rfl)
theorem hS11 : ∀ q, 722 ≤ q → xrow ML_law.2.2.2.2 q = xrow rS11 q := fun q h => (hS10 q (by omega)).trans (xrow_skip h rL_law_10 rfl)
theorem hS12 : ∀ q, 768 ≤ q → xrow ML_law.2.2.2.2 q = xrow rS12 q := fun q h => (hS11 q (by omega)).trans (xrow_skip h rL_law_11 rfl)
theorem hS13 : ∀ q, 816 ≤ q → xrow ML_law.2.2.2.2 q = xrow rS13 q := fun q h => (hS12 q (by omega)).trans (xrow_skip h rL_law_12 rfl)
theorem hS14 : ∀ q, 866 ≤ q → xrow ML_law.2.2.2.2 q = xrow rS14 q := fun q h => (hS13 q (by omega)).trans (xrow_skip h rL_law_13 rfl)
theorem hS15 : ∀ q, 914 ≤ q → xrow ML_law.2.2.2.2 q = xrow rS15 q := fun q h => (hS14 q (by omega)).trans (xrow_skip h rL_law_14 rfl)
theorem hS16 : ∀ q, 964 ≤ q → xrow ML_law.2.2.2.2 q = xrow rS16 q := fun q h => (hS15 q (by omega)).trans (xrow_skip h rL_law_15 rfl)
theorem hS17 : ∀ q, 1012 ≤ q → xrow ML_law.2.2.2.2 q = xrow rS17 q := fun q h => (hS16 q (by omega)).trans (xrow_skip h rL_law_16 rfl)
theorem hS18 : ∀ q, 1062 ≤ q → xrow ML_law.2.2.2.2 q = xrow rS18 q := fun q h => (hS17 q (by omega)).trans (xrow_skip h rL_law_17 rfl)
theorem hS19 : ∀ q, 1116 ≤ q → xrow ML_law.2.2.2.2 q = xrow rS19 q := fun q h => (hS18 q (by omega)).trans (xrow_skip h rL_law_18 rfl)
theorem hS20 : ∀ q, 1164 ≤ q → xrow ML_law.2.2.2.2 q = xrow rS20 q := fun q h => (hS19 q (by omega)).trans (xrow_skip h rL_law_19 rfl)
theorem hS21 : ∀ q, 1216 ≤ q → xrow ML_law.2.2.2.2 q = xrow rS21 q := fun q h => (hS20 q (by omega)).trans (xrow_skip h rL_law_20 rfl)
theorem hS22 : ∀ q, 1262 ≤ q → xrow ML_law.2.2.2.2 q = xrow rS22 q := fun q h => (hS21 q (by omega)).trans (xrow_skip h rL_law_21 rfl)
theorem hS23 : ∀ q, 1312 ≤ q → xrow ML_law.2.2.2.2 q = xrow rS23 q := fun q h => (hS22 q (by omega)).trans (xrow_skip h rL_law_22 rfl)
theorem hS24 : ∀ q, 1358 ≤ q → xrow ML_law.2.2.2.2 q = xrow rS24 q := fun q h => (hS23 q (by omega)).trans (xrow_skip h rL_law_23 rfl)
theorem hS25 : ∀ q, 1410 ≤ q → xrow ML_law.2.2.2.2 q = xrow rS25 q := fun q h => (hS24 q (by omega)).trans (xrow_skip h rL_law_24 rfl)
theorem hS26 : ∀ q, 1458 ≤ q → xrow ML_law.2.2.2.2 q = xrow rS26 q := fun q h => (hS25 q (by omega)).trans (xrow_skip h rL_law_25 rfl)
theorem hS27 : ∀ q, 1524 ≤ q → xrow ML_law.2.2.2.2 q = xrow rS27 q := fun q h => (hS26 q (by omega)).trans (xrow_skip h rL_law_26 rfl)
