/-! the net: a run of the reference, beside the class's table -/
def Bdn (B : Nat) (j : Nat) : Int := if j < B then 100000000 else 6000000000
theorem Tv_bd {s3 s8 s7 : zZ} {ks : List Int} (R : ND s3 s8 ks s7) {B : Nat} (hB : s7 0 25 = B) {v : Nat → Int} (hv : ∀ i, i < 8 → -180 ≤ v i ∧ v i ≤ 180) {but : Int} {n : Nat} (hn : n ≤ 8) : ∀ q, q ≤ B → ∀ r j, r < n → j < B + 1 → wi ((clr n (0, 1, Tv s3 s8 B v but, fun _ => -1) q).2.2.1 r j) (Bdn B j) := by
  intro q hq r j hr hj
  have nvs := Tv_nv R hB hv (but := but) hn
  have C := clr_CI (n := n) (J := B + 1) (ld := B) (T0 := Tv s3 s8 B v but) (K := 100) (by decide) (by omega) nvs.1 q hq
  have k8 : (clr n (0, 1, Tv s3 s8 B v but, fun _ => -1) q).1 ≤ 8 := Nat.le_trans (clr_le n _ (Nat.zero_le _) q) hn
  unfold wi Bdn
  by_cases g : j < B
  · have h := CI_bd1 (by decide) C k8 hj (nvs.1 j g) hr
    rw [if_pos g]
    have := sq_bd (M := 1000000000) (by decide) (Int.le_trans h (by decide))
    have C2 := CI_bd1 (by decide) C k8 hj (nvs.1 j g) hr
    sorry
  · have e : j = B := by omega
    subst e
    have h := CI_bd1 (by decide) C k8 hj nvs.2 hr
    rw [if_neg g]
    exact sq_bd (M := 6000000000) (by decide) (Int.le_trans h (by decide))
