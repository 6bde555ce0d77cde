/-! the net: the stored table -/
theorem cn_congr {s8 t : zZ} (h : ∀ d, t d 4 = s8 d 4) : ∀ b, cn t b = cn s8 b := by
  intro b
  induction b with
  | zero => rfl
  | succ b ih =>
    show cn t b + (if t b 4 = 0 then 1 else 0) = cn s8 b + (if s8 b 4 = 0 then 1 else 0)
    rw [ih, h b]
theorem mA_congr {s3 t3 s8 t : zZ} (h2 : t3 2 = s3 2) (h3 : t3 3 = s3 3) (h4 : t3 4 = s3 4) (h : ∀ d i, i ≠ 5 → t d i = s8 d i) : mA t3 t = mA s3 s8 := by
  funext b r
  unfold mA fq dfw
  rw [h2, h3, h4, h b 1 (by decide), h b 2 (by decide)]
theorem T0f_congr {s3 t3 s8 t : zZ} (h3 : ∀ q, 1 ≤ q → q < 13 → t3 q = s3 q) (h : ∀ d i, i ≠ 5 → t d i = s8 d i) (B r j : Nat) (hj : j < cn s8 B + 6) : T0f t3 t B r j = T0f s3 s8 B r j := by
  have c := cn_congr (fun d => h d 4 (by decide)) (t := t) (s8 := s8)
  unfold T0f Tb
  rw [c B, mA_congr (h3 2 (by omega) (by omega)) (h3 3 (by omega) (by omega)) (h3 4 (by omega) (by omega)) h]
  have e : tot (fun b => if t b 4 = 0 ∧ j = cn t b then mA s3 s8 b r else 0) B = tot (fun b => if s8 b 4 = 0 ∧ j = cn s8 b then mA s3 s8 b r else 0) B := tot_congr B (fun b _ => by rw [c b, h b 4 (by decide)])
  rw [e]
  by_cases q : cn s8 B ≤ j
  · rw [if_pos q, if_pos q, h3 (7 + (j - cn s8 B)) (by omega) (by omega)]
  · rw [if_neg q, if_neg q]
/-- what the class keeps while nothing has changed -/
def NC (s3 s8 s7 : zZ) : Prop := s3 0 10 = 0 → s3 0 11 = ((cn s8 (s7 0 25).toNat : Nat) : Int) ∧ (∀ d : Nat, (d : Int) < s7 0 25 → s8 d 5 = if s8 d 4 = 0 then ((cn s8 d : Nat) : Int) else -1) ∧ TSf s3 (2 * (s7 0 21).toNat) (cn s8 (s7 0 25).toNat + 6) (clr (2 * (s7 0 21).toNat) (0, 1, T0f s3 s8 (s7 0 25).toNat, fun _ => -1) (cn s8 (s7 0 25).toNat)).1 (clr (2 * (s7 0 21).toNat) (0, 1, T0f s3 s8 (s7 0 25).toNat, fun _ => -1) (cn s8 (s7 0 25).toNat)).2.1 (clr (2 * (s7 0 21).toNat) (0, 1, T0f s3 s8 (s7 0 25).toNat, fun _ => -1) (cn s8 (s7 0 25).toNat)).2.2.1 (clr (2 * (s7 0 21).toNat) (0, 1, T0f s3 s8 (s7 0 25).toNat, fun _ => -1) (cn s8 (s7 0 25).toNat)).2.2.2
theorem num3 : ∀ k : Nat, k < 8 → (100 : Int) ^ k * (7200 * 100 ^ (k + 1)) ≤ 9223372036854775807 * 9223372036854775807 := by decide +kernel
theorem T0f_ok {s3 s8 s7 : zZ} {ks : List Int} (R : ND s3 s8 ks s7) {B n : Nat} (hB : s7 0 25 = B) (hn : n ≤ 8) : ∀ q, q < cn s8 B → Okc n (cn s8 B + 6) q (clr n (0, 1, T0f s3 s8 B, fun _ => -1) q) := by
  have v := T0f_nv R hB n hn
  have kx : ∀ q, q ≤ cn s8 B → (clr n (0, 1, T0f s3 s8 B, fun _ => -1) q).1 ≤ 8 := fun q _ => Nat.le_trans (clr_le n _ (Nat.zero_le _) q) hn
  exact clr_ok (K := 100) (A := 7200) (kx := 8) (by decide) (by omega) v.1 v.2 kx (by decide +kernel) (by decide +kernel) (fun k hk => num3 k (by omega))
theorem clr_congr {n J : Nat} {T T' : Nat → Nat → Int} (h : ∀ r j, r < n → j < J → T r j = T' r j) {k0 : Nat} (hk0 : k0 ≤ n) {D0 : Int} {L0 : Nat → Int} : ∀ q, q ≤ J → (clr n (k0, D0, T, L0) q).1 = (clr n (k0, D0, T', L0) q).1 ∧ (clr n (k0, D0, T, L0) q).2.1 = (clr n (k0, D0, T', L0) q).2.1 ∧ (∀ r j, r < n → j < J → (clr n (k0, D0, T, L0) q).2.2.1 r j = (clr n (k0, D0, T', L0) q).2.2.1 r j) ∧ (clr n (k0, D0, T, L0) q).2.2.2 = (clr n (k0, D0, T', L0) q).2.2.2 := by
  intro q
  induction q with
  | zero => intro _; exact ⟨rfl, rfl, h, rfl⟩
  | succ q ih =>
    intro hq
    obtain ⟨i1, i2, i3, i4⟩ := ih (by omega)
    have kn : (clr n (k0, D0, T', L0) q).1 ≤ n := clr_le n _ hk0 q
    have e1 : clr n (k0, D0, T, L0) (q + 1) = clr1 n q (clr n (k0, D0, T, L0) q) := rfl
    have e2 : clr n (k0, D0, T', L0) (q + 1) = clr1 n q (clr n (k0, D0, T', L0) q) := rfl
    rw [e1, e2]
    generalize clr n (k0, D0, T, L0) q = s at *
    generalize clr n (k0, D0, T', L0) q = t at *
    obtain ⟨k, D, A, L⟩ := s
    obtain ⟨k', D', A', L'⟩ := t
    dsimp only at *
    subst i1 i2 i4
    unfold clr1
    dsimp only
    rw [fpw_congr (T' := A') (c' := q) (n := n) (fun r hr => i3 r q hr (by omega)) (n - k) k (by omega)]
    have fr := fpw_rng A' q (n - k) k
    generalize fpw A' q (n - k) k = w at *
    by_cases wn : w < n
    · rw [if_pos wn, if_pos wn]
      have sl : ∀ r, r < n → (if r = k then w else if r = w then k else r) < n := by
        intro r hr
        repeat' split
        all_goals omega
      have sw : ∀ r j, r < n → j < J → swT k w A r j = swT k w A' r j := fun r j hr hj => i3 _ j (sl r hr) hj
      refine ⟨rfl, sw k q (by omega) (by omega), fun r j hr hj => ?_, rfl⟩
      show elm k q D (swT k w A) r j = elm k q D (swT k w A') r j
      unfold elm
      rw [sw k j (by omega) hj, sw k q (by omega) (by omega), sw r j hr hj, sw r q hr (by omega)]
    · rw [if_neg wn, if_neg wn]
      exact ⟨rfl, rfl, i3, rfl⟩
