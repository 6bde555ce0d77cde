/-! what a cleared table says -/
theorem tot_piv {k B : Nat} {pc : Nat → Nat} (hp : ∀ i, i < k → pc i < B) (hi : ∀ i l, i < k → l < k → pc i = pc l → i = l) (y : Nat → Int) : ∃ x : Nat → Int, (∀ j, (∀ i, i < k → j ≠ pc i) → x j = 0) ∧ (∀ i, i < k → x (pc i) = y i) ∧ ∀ g : Nat → Int, tot (fun i => y i * g (pc i)) k = tot (fun j => x j * g j) B := by
  induction k with
  | zero => exact ⟨fun _ => 0, fun _ _ => rfl, fun i h => by omega, fun g => (tot_zero B (fun j _ => Int.zero_mul _)).symm⟩
  | succ k ih =>
    obtain ⟨x, x1, x2, x3⟩ := ih (fun i h => hp i (by omega)) (fun i l h1 h2 => hi i l (by omega) (by omega))
    have xk : x (pc k) = 0 := x1 (pc k) (fun i h e => by have := hi k i (by omega) (by omega) e; omega)
    refine ⟨fun j => if j = pc k then y k else x j, fun j h => ?_, fun i h => ?_, fun g => ?_⟩
    · show (if j = pc k then y k else x j) = 0
      rw [if_neg (h k (by omega))]
      exact x1 j (fun i hi2 => h i (by omega))
    · show (if pc i = pc k then y k else x (pc i)) = y i
      by_cases e : i = k
      · rw [e, if_pos rfl]
      · rw [if_neg (fun q => e (hi i k h (by omega) q))]
        exact x2 i (by omega)
    · show tot (fun i => y i * g (pc i)) k + y k * g (pc k) = _
      rw [x3 g]
      refine (tot_put (v := fun j => x j * g j) (w := fun j => (if j = pc k then y k else x j) * g j) (i := pc k) (x := y k * g (pc k)) B (hp k (by omega)) ?_ (fun j hj => ?_)).symm
      · show (if pc k = pc k then y k else x (pc k)) * g (pc k) = x (pc k) * g (pc k) + y k * g (pc k)
        rw [if_pos rfl, xk]
        omega
      · show (if j = pc k then y k else x j) * g j = x j * g j
        rw [if_neg hj]
theorem Pvt_inj {n k q : Nat} {D : Int} {T : Nat → Nat → Int} {L : Nat → Int} {a c : Nat → Nat → Int} {pc : Nat → Nat} (P : Pvt n k q D T L a c pc) : ∀ i l, i < k → l < k → pc i = pc l → i = l := by
  intro i l h1 h2 e
  have a1 := (P.1 i h1).2.1
  have a2 := (P.1 l h2).2.1
  rw [e] at a1
  omega
theorem bI_E {m k J : Nat} {a c : Nat → Nat → Int} {D : Int} {T : Nat → Nat → Int} {K : Int} {u z : Nat → Nat} (B : bI m k J a c D T K u z) {j : Nat} (hj : j < J) (h0 : ∀ r, k ≤ r → r < m → T r j = 0) {s : Nat} (hs : s < m) : D * a j s = tot (fun i => T i j * c i s) k := by
  obtain ⟨b1, b2, O, b3, _⟩ := B
  have h := b3 j hj (z s) (O.2 s hs).1
  rw [(O.2 s hs).2] at h
  rw [h]
  by_cases q : k ≤ z s
  · rw [if_pos q, h0 (z s) q (O.2 s hs).1]
    omega
  · rw [if_neg q]
    omega
/-- a functional that is 0 on all columns but one, from a leading row -/
theorem bI_fi {m k J : Nat} {a c : Nat → Nat → Int} {D : Int} {T : Nat → Nat → Int} {K : Int} {u z : Nat → Nat} (B : bI m k J a c D T K u z) {i : Nat} (hi : i < k) : ∃ F : (Nat → Int) → Int, (∀ (B2 : Nat) (x : Nat → Int) (g : Nat → Nat → Int) (N : Int) (v : Nat → Int), (∀ s, s < m → N * v s = tot (fun j => x j * g j s) B2) → N * F v = tot (fun j => x j * F (g j)) B2) ∧ ∃ w : Int, w ≠ 0 ∧ ∀ j, j < J → D * F (a j) = T i j * w := by
  obtain ⟨b1, b2, O, b3, W, Wi, b4, b5, _⟩ := B
  refine ⟨fun v => wd m v (Wi i) (lsk m k z), fun B2 x g N v h => ?_, W (lsk m k z), by omega, fun j hj => key_i O b4 (x := fun i => T i j) (y := fun r => T r j) (b3 j hj) hi⟩
  have e1 : N * wd m v (Wi i) (lsk m k z) = wd m (fun s => N * v s + 0 * v s) (Wi i) (lsk m k z) := by rw [wd_linv]; omega
  have e2 : wd m (fun s => N * v s + 0 * v s) (Wi i) (lsk m k z) = wd m (fun s => tot (fun j => x j * g j s) B2 + (fun _ => (0 : Int)) s) (Wi i) (lsk m k z) := wd_cv m _ _ _ (fun s hs => by
    show N * v s + 0 * v s = tot (fun j => x j * g j s) B2 + 0
    rw [h s hs]
    omega) _
  have f3 : wd m (fun _ => (0 : Int)) (Wi i) (lsk m k z) = 0 := wd_out2 m _ _ _ (fun s _ _ => rfl)
  show N * wd m v (Wi i) (lsk m k z) = tot (fun j => x j * wd m (g j) (Wi i) (lsk m k z)) B2
  rw [e1, e2, wd_tot, f3]
  omega
theorem bI_fr {m k J : Nat} {a c : Nat → Nat → Int} {D : Int} {T : Nat → Nat → Int} {K : Int} {u z : Nat → Nat} (B : bI m k J a c D T K u z) {r : Nat} (h1 : k ≤ r) (h2 : r < m) : ∃ F : (Nat → Int) → Int, (∀ (B2 : Nat) (x : Nat → Int) (g : Nat → Nat → Int) (N : Int) (v : Nat → Int), (∀ s, s < m → N * v s = tot (fun j => x j * g j s) B2) → N * F v = tot (fun j => x j * F (g j)) B2) ∧ ∃ w : Int, w ≠ 0 ∧ ∀ j, j < J → D * F (a j) = T r j * w := by
  obtain ⟨b1, b2, O, b3, W, Wi, b4, b5, _⟩ := B
  obtain ⟨e, e1, e2⟩ := key_r O b4 h1 h2
  refine ⟨fun v => wd m v W (mk m (fun s => decide (z s < k) || decide (s = u r))), fun B2 x g N v h => ?_, e * W (lsk m k z), mul_ne (by omega) (by omega), fun j hj => ?_⟩
  · generalize mk m (fun s => decide (z s < k) || decide (s = u r)) = M
    have f1 : N * wd m v W M = wd m (fun s => N * v s + 0 * v s) W M := by rw [wd_linv]; omega
    have f2 : wd m (fun s => N * v s + 0 * v s) W M = wd m (fun s => tot (fun j => x j * g j s) B2 + (fun _ => (0 : Int)) s) W M := wd_cv m _ _ _ (fun s hs => by
      show N * v s + 0 * v s = tot (fun j => x j * g j s) B2 + 0
      rw [h s hs]
      omega) _
    have f3 : wd m (fun _ => (0 : Int)) W M = 0 := by
      have := wd_linv m (fun _ => (0 : Int)) (fun _ => (0 : Int)) W 0 0 M
      rw [show (fun r => 0 * (fun _ => (0 : Int)) r + 0 * (fun _ => (0 : Int)) r) = fun _ => (0 : Int) from rfl] at this
      omega
    show N * wd m v W M = tot (fun j => x j * wd m (g j) W M) B2
    rw [f1, f2, wd_tot, f3]
    omega
  · have := e2 (a j) (fun i => T i j) (fun r => T r j) D (b3 j hj)
    rw [this]
    grind
/-- solved by columns but those left out -/
def Slv (n B : Nat) (a : Nat → Nat → Int) (v : Nat → Int) (no : Nat → Prop) : Prop := ∃ (N : Int) (x : Nat → Int), N ≠ 0 ∧ (∀ j, no j → x j = 0) ∧ ∀ s, s < n → N * v s = tot (fun j => x j * a j s) B
theorem sem_1 {n J ld : Nat} {a : Nat → Nat → Int} {K : Int} {st : Nat × Int × (Nat → Nat → Int) × (Nat → Int)} (C : CI n J ld a K st) {h : Nat} (hh : h < J) (h0 : ∀ r, st.1 ≤ r → r < n → st.2.2.1 r h = 0) : Slv n ld a (a h) (fun j => st.2.2.2 j = -1) := by
  obtain ⟨c, u, z, pc, B, P⟩ := C
  obtain ⟨x, x1, x2, x3⟩ := tot_piv (B := ld) (fun i hi => (P.1 i hi).1) (Pvt_inj P) (fun i => st.2.2.1 i h)
  refine ⟨st.2.1, x, B.2.1, fun j hj => x1 j (fun i hi e => ?_), fun s hs => ?_⟩
  · have := (P.1 i hi).2.1
    rw [← e] at this
    have hj2 : st.2.2.2 j = -1 := hj
    omega
  · rw [bI_E B hh h0 hs, ← x3 (fun j => a j s)]
    exact tot_congr _ (fun i hi => by rw [(P.1 i hi).2.2.1])
theorem sem_2 {n J ld : Nat} {a : Nat → Nat → Int} {K : Int} {st : Nat × Int × (Nat → Nat → Int) × (Nat → Int)} (hJ : ld ≤ J) (C : CI n J ld a K st) {h : Nat} (hh : h < J) (S : Slv n ld a (a h) (fun _ => False)) {r : Nat} (h1 : st.1 ≤ r) (h2 : r < n) : st.2.2.1 r h = 0 := by
  obtain ⟨c, u, z, pc, B, P⟩ := C
  obtain ⟨N, x, n0, _, e⟩ := S
  obtain ⟨F, F1, w, w0, F2⟩ := bI_fr B h1 h2
  have D0 := B.2.1
  have f := F1 ld x a N (a h) e
  rw [tot_zero ld (fun j hj => ?_)] at f
  · have fh : F (a h) = 0 := (Int.mul_eq_zero.mp f).resolve_left n0
    have := F2 h hh
    rw [fh, Int.mul_zero] at this
    exact (Int.mul_eq_zero.mp this.symm).resolve_right w0
  · have tz : st.2.2.1 r j = 0 := by
      rcases P.2.1 j hj with q | ⟨i, i1, i2⟩
      · exact q.2 r h1 h2
      · rw [i2, (P.1 i i1).2.2.2 r h2, if_neg (by omega)]
    have := F2 j (by omega)
    rw [tz, Int.zero_mul] at this
    rw [(Int.mul_eq_zero.mp this).resolve_left D0, Int.mul_zero]
theorem sem_need {n J ld : Nat} {a : Nat → Nat → Int} {K : Int} {st : Nat × Int × (Nat → Nat → Int) × (Nat → Int)} (hJ : ld ≤ J) (C : CI n J ld a K st) {h : Nat} (hh : h < J) (h0 : ∀ r, st.1 ≤ r → r < n → st.2.2.1 r h = 0) {b : Nat} (hb : b < ld) : (st.2.2.2 b = -1 → Slv n ld a (a h) (fun j => j = b)) ∧ ∀ i : Nat, st.2.2.2 b = i → (Slv n ld a (a h) (fun j => j = b) ↔ ¬ (st.2.2.1 i h ≠ 0 ∧ ∀ f, f < ld → st.2.2.2 f = -1 → st.2.2.1 i f = 0)) := by
  have S1 := sem_1 C hh h0
  obtain ⟨c, u, z, pc, B, P⟩ := C
  have D0 := B.2.1
  refine ⟨fun hL => ?_, fun i hi => ?_⟩
  · obtain ⟨N, x, n0, xz, e⟩ := S1
    exact ⟨N, x, n0, fun j hj => xz j (by rw [hj]; exact hL), e⟩
  · have hik : i < st.1 ∧ b = pc i := by
      rcases P.2.1 b hb with q | ⟨l, l1, l2⟩
      · have := q.1
        omega
      · have := (P.1 l l1).2.1
        rw [← l2, hi] at this
        have : i = l := by omega
        rw [this]
        exact ⟨l1, l2⟩
    obtain ⟨hik, hbp⟩ := hik
    constructor
    · intro S ⟨k1, k2⟩
      obtain ⟨N, x, n0, xb, e⟩ := S
      obtain ⟨F, F1, w, w0, F2⟩ := bI_fi B hik
      have f := F1 ld x a N (a h) e
      rw [tot_zero ld (fun j hj => ?_)] at f
      · have fh : F (a h) = 0 := (Int.mul_eq_zero.mp f).resolve_left n0
        have := F2 h hh
        rw [fh, Int.mul_zero] at this
        exact k1 ((Int.mul_eq_zero.mp this.symm).resolve_right w0)
      · by_cases jb : j = b
        · rw [xb j jb, Int.zero_mul]
        · have tz : st.2.2.1 i j = 0 := by
            rcases P.2.1 j hj with q | ⟨l, l1, l2⟩
            · exact k2 j hj q.1
            · have : i < n := Nat.lt_of_lt_of_le hik B.1
              rw [l2, (P.1 l l1).2.2.2 i this, if_neg (fun e => jb (by rw [l2, ← e, hbp]))]
          have := F2 j (by omega)
          rw [tz, Int.zero_mul] at this
          rw [(Int.mul_eq_zero.mp this).resolve_left D0, Int.mul_zero]
    · intro hn
      have Eh := fun s (hs : s < n) => bI_E B hh h0 hs
      by_cases t0 : st.2.2.1 i h = 0
      · obtain ⟨x, x1, x2, x3⟩ := tot_piv (B := ld) (fun i hi => (P.1 i hi).1) (Pvt_inj P) (fun i => st.2.2.1 i h)
        refine ⟨st.2.1, x, D0, fun j hj => by rw [hj, hbp, x2 i hik]; exact t0, fun s hs => ?_⟩
        rw [Eh s hs, ← x3 (fun j => a j s)]
        exact tot_congr _ (fun i hi => by rw [(P.1 i hi).2.2.1])
      · have ex : ∃ f, f < ld ∧ st.2.2.2 f = -1 ∧ st.2.2.1 i f ≠ 0 := by
          refine Classical.byContradiction (fun hx => hn ⟨t0, fun f f1 f2 => ?_⟩)
          exact Classical.byContradiction (fun q => hx ⟨f, f1, f2, q⟩)
        obtain ⟨f, f1, f2, f3⟩ := ex
        have fz : ∀ r, st.1 ≤ r → r < n → st.2.2.1 r f = 0 := by
          rcases P.2.1 f f1 with q | ⟨l, l1, l2⟩
          · exact q.2
          · have := (P.1 l l1).2.1
            rw [← l2, f2] at this
            omega
        have Ef := fun s (hs : s < n) => bI_E B (show f < J by omega) fz hs
        obtain ⟨x, x1, x2, x3⟩ := tot_piv (B := ld) (fun i hi => (P.1 i hi).1) (Pvt_inj P) (fun l => st.2.2.1 i f * st.2.2.1 l h - st.2.2.1 i h * st.2.2.1 l f)
        have fb : f ≠ b := by
          intro e
          rw [e, hi] at f2
          omega
        have xf : x f = 0 := x1 f (fun l l1 e => by
          have := (P.1 l l1).2.1
          rw [← e, f2] at this
          omega)
        refine ⟨st.2.2.1 i f * st.2.1, fun j => if j = f then st.2.2.1 i h * st.2.1 else x j, mul_ne f3 D0, fun j hj => ?_, fun s hs => ?_⟩
        · show (if j = f then _ else x j) = 0
          rw [if_neg (by rw [hj]; exact fb.symm), hj, hbp, x2 i hik]
          grind
        · have e1 := tot_put (v := fun j => x j * a j s) (w := fun j => (if j = f then st.2.2.1 i h * st.2.1 else x j) * a j s) (i := f) (x := st.2.2.1 i h * st.2.1 * a f s) ld f1 (by
            show (if f = f then st.2.2.1 i h * st.2.1 else x f) * a f s = x f * a f s + st.2.2.1 i h * st.2.1 * a f s
            rw [if_pos rfl, xf]
            omega) (fun j hj => by
            show (if j = f then _ else x j) * a j s = x j * a j s
            rw [if_neg hj])
          rw [e1, ← x3 (fun j => a j s)]
          have e2 := tot_lin (f := fun l => st.2.2.1 l h * c l s) (h := fun l => st.2.2.1 l f * c l s) (a := st.2.2.1 i f) (b := - st.2.2.1 i h) st.1
          have e3 : tot (fun l => (st.2.2.1 i f * st.2.2.1 l h - st.2.2.1 i h * st.2.2.1 l f) * a (pc l) s) st.1 = tot (fun l => st.2.2.1 i f * (st.2.2.1 l h * c l s) + - st.2.2.1 i h * (st.2.2.1 l f * c l s)) st.1 := tot_congr _ (fun l hl => by
            rw [(P.1 l hl).2.2.1]
            grind)
          have h1 := Eh s hs
          have h2 := Ef s hs
          rw [e3, e2, ← h1, ← h2]
          grind
