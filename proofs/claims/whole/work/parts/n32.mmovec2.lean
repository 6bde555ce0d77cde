/-! the class's move in least numbers -/
theorem e_sm8 {s : zZ} {N : Nat} (hN : N ≤ 8) {v : Nat → Int} (hv : ∀ j, j < N → s 43 j = v j ∧ wi (v j) 1000000000000) : ∀ (m k f : Nat), k + m = N → m + 1 ≤ f → ∃ z, d_X4_shortenMove_8 s N f ((gl v k : Nat) : Int) (fz v k) k = some (((gl v N : Nat) : Int), fz v N, z) := by
  intro m
  induction m with
  | zero =>
    intro k f hk hf
    obtain ⟨f, rfl⟩ : ∃ g, f = g + 1 := ⟨f - 1, by omega⟩
    unfold d_X4_shortenMove_8
    rw [if_pos (by omega), if_pos (by omega), show k = N by omega]
    exact ⟨_, rfl⟩
  | succ m ih =>
    intro k f hk hf
    obtain ⟨f, rfl⟩ : ∃ g, f = g + 1 := ⟨f - 1, by omega⟩
    obtain ⟨z, i⟩ := ih (k + 1) f (by omega) (by omega)
    have e3 : ((k : Int) + 1) = ((k + 1 : Nat) : Int) := by omega
    have h := hv k (by omega)
    have h2 := h.2
    unfold wi at h2
    have gb := gl_le (v := v) (M := 1000000000000) k (fun j hj => by have := (hv j (by omega)).2; unfold wi at this; omega)
    have fb : wi (fz v k) 1000000000000 := by
      have go : ∀ n : Nat, n ≤ N → wi (fz v n) 1000000000000 := by
        intro n
        induction n with
        | zero => intro _; show wi 0 1000000000000; exact ⟨by decide, by decide⟩
        | succ n ih2 =>
          intro hn
          show wi (if fz v n ≠ 0 then fz v n else v n) 1000000000000
          split
          · exact ih2 (by omega)
          · exact (hv n (by omega)).2
      exact go k (by omega)
    unfold wi at fb
    have eg : gl v (k + 1) = Int.gcd (gl v k : Nat) (v k) := rfl
    have ef : fz v (k + 1) = if fz v k ≠ 0 then fz v k else v k := rfl
    clear ih
    unfold d_X4_shortenMove_8
    rw [if_pos (by omega), if_neg (by omega), if_pos (by omega), Int.toNat_natCast, h.1, e_cd (by omega) (by omega), Option.bind_some, if_pos (by omega), e3, ← eg]
    by_cases q : fz v k ≠ 0
    · rw [if_pos q] at ef
      rw [if_pos q, ← ef]
      exact ⟨z, i⟩
    · rw [if_neg q] at ef
      rw [if_neg q, if_pos (by omega), ← ef]
      exact ⟨z, i⟩
theorem e_sm66 {N : Nat} (hN : N ≤ 8) {v : Nat → Int} {dv first : Int} (hd : dv ≠ 0) (hz : zrl dv) (hv : ∀ j, j < N → wi (v j) 1000000000000) : ∀ (m k f : Nat) (s : zZ), k + m = N → m + 1 ≤ f → (∀ j, j < k → s 43 j = (v j).tdiv dv) → (∀ j, k ≤ j → j < N → s 43 j = v j) → ∃ z s', d_X4_shortenMove_66 N dv first f k s = some (z, s') ∧ (∀ q, q ≠ 43 → s' q = s q) ∧ ∀ j, j < N → s' 43 j = (v j).tdiv dv := by
  intro m
  induction m with
  | zero =>
    intro k f s hk hf h1 h2
    obtain ⟨f, rfl⟩ : ∃ g, f = g + 1 := ⟨f - 1, by omega⟩
    unfold d_X4_shortenMove_66
    rw [if_pos (by omega), if_pos (by omega)]
    exact ⟨_, _, rfl, fun _ _ => rfl, fun j hj => h1 j (by omega)⟩
  | succ m ih =>
    intro k f s hk hf h1 h2
    obtain ⟨f, rfl⟩ : ∃ g, f = g + 1 := ⟨f - 1, by omega⟩
    have e3 : ((k : Int) + 1) = ((k + 1 : Nat) : Int) := by omega
    have b := hv k (by omega)
    unfold wi at b
    have u : ∀ j, upz s 43 k ((v k).tdiv dv) 43 j = if j = k then (v k).tdiv dv else s 43 j := fun j => by rw [upz_at, if_pos rfl]
    obtain ⟨z, s', a1, a2, a3⟩ := ih (k + 1) f (upz s 43 k ((v k).tdiv dv)) (by omega) (by omega) (fun j hj => by
      rw [u]
      by_cases e : j = k
      · rw [if_pos e, e]
      · rw [if_neg e]
        exact h1 j (by omega)) (fun j x y => by rw [u, if_neg (by omega)]; exact h2 j (by omega) y)
    clear ih
    unfold d_X4_shortenMove_66
    rw [if_pos (by omega), if_neg (by omega), if_pos hz, if_neg hd, if_pos (by omega), Int.toNat_natCast, h2 k (Nat.le_refl _) (by omega), if_pos ⟨by omega, hd, hz⟩, if_pos (by omega), e3]
    exact ⟨z, s', a1, fun q hq => by rw [a2 q hq, upz_ne _ _ _ _ hq], a3⟩
theorem e_shorten {s : zZ} {N : Nat} (hN : N ≤ 8) {v : Nat → Int} (hv : ∀ j, j < N → s 43 j = v j ∧ wi (v j) 1000000000000) (hn : ∃ j, j < N ∧ v j ≠ 0) : ∃ s', d_X4_shortenMove s N = some s' ∧ (∀ q, q ≠ 43 → s' q = s q) ∧ ∀ j, j < N → s' 43 j = (v j).tdiv (gS v N) := by
  obtain ⟨z, a⟩ := e_sm8 hN hv N 0 zF (by omega) (by unfold zF; omega)
  have a' : d_X4_shortenMove_8 s N zF 0 0 0 = some (((gl v N : Nat) : Int), fz v N, z) := a
  have gb := gl_le (v := v) (M := 1000000000000) N (fun j hj => by have := (hv j (by omega)).2; unfold wi at this; omega)
  have g0 := gl_nz hn
  have fb : wi (fz v N) 1000000000000 := by
    have go : ∀ n : Nat, n ≤ N → wi (fz v n) 1000000000000 := by
      intro n
      induction n with
      | zero => intro _; show wi 0 1000000000000; exact ⟨by decide, by decide⟩
      | succ n ih2 =>
        intro hn
        show wi (if fz v n ≠ 0 then fz v n else v n) 1000000000000
        split
        · exact ih2 (by omega)
        · exact (hv n (by omega)).2
    exact go N (Nat.le_refl _)
  unfold wi at fb
  unfold d_X4_shortenMove gS
  rw [a', Option.bind_some]
  dsimp only
  rw [if_pos (show zrl (fz v N) by omega)]
  by_cases q : 0 ≤ fz v N
  · obtain ⟨z2, s', b1, b2, b3⟩ := e_sm66 hN (v := v) (dv := ((gl v N : Nat) : Int)) (first := fz v N) (by omega) (by omega) (fun j hj => (hv j hj).2) N 0 zF s (by omega) (by unfold zF; omega) (fun j hj => by omega) (fun j _ hj => (hv j hj).1)
    rw [show ((0 : Nat) : Int) = 0 from rfl] at b1
    rw [if_pos q, b1, if_neg (by omega)]
    exact ⟨s', rfl, b2, b3⟩
  · obtain ⟨z2, s', b1, b2, b3⟩ := e_sm66 hN (v := v) (dv := - ((gl v N : Nat) : Int)) (first := fz v N) (by omega) (by omega) (fun j hj => (hv j hj).2) N 0 zF s (by omega) (by unfold zF; omega) (fun j hj => by omega) (fun j _ hj => (hv j hj).1)
    rw [show ((0 : Nat) : Int) = 0 from rfl] at b1
    rw [if_neg q, b1, if_pos (by omega)]
    exact ⟨s', rfl, b2, b3⟩
def vC (s3 s8 : zZ) (B N : Nat) (sg : Int) (c j : Nat) : Int := if j = c then (XG s3 s8 B N sg).2.1 else - (XG s3 s8 B N sg).2.2.1 ((XG s3 s8 B N sg).2.2.2 j).toNat c
theorem XG_rng {s3 s8 s7 : zZ} {ks : List Int} (R : ND s3 s8 ks s7) {B N : Nat} (hB : s7 0 25 = B) (hN : N ≤ 8) (h0 : 0 < N) {sg : Int} (hs : sg = 1 ∨ sg = -1) : (XG s3 s8 B N sg).2.1 ≠ 0 ∧ wi (XG s3 s8 B N sg).2.1 1600000000 ∧ (XG s3 s8 B N sg).1 ≤ cn s8 B ∧ ∀ r j, r < cn s8 B → j < N → wi ((XG s3 s8 B N sg).2.2.1 r j) 100000000000 := by
  have C := Tg_CI R hB hs N N (Nat.le_refl _)
  have k8 : (XG s3 s8 B N sg).1 ≤ 8 := Nat.le_trans (clr_lt (cn s8 B) (c := 0) N).1 hN
  have b := CI_bd (st := XG s3 s8 B N sg) (by decide) C k8 h0 (A := 200) (fun j _ => Tg_nv R hB hs j)
  refine ⟨?_, ?_, clr_le _ _ (Nat.zero_le _) _, fun r j hr hj => ?_⟩
  · obtain ⟨_, _, _, _, Bi, _⟩ := C
    exact Bi.2.1
  · exact sq_bd (M := 1600000000) (by decide) (Int.le_trans b.1 (by decide))
  · exact sq_bd (M := 100000000000) (by decide) (Int.le_trans (b.2 r j hr hj) (by decide))
theorem e_moveC {s3 s8 s7 : zZ} {ks : List Int} {B F : Nat} (K : NK s3 s8 ks s7 B F) (hF0 : 0 < F) (hk : (XN s3 s8 B (2 * F)).1 + 1 = 2 * F) : ∃ s' c, d_X4_findMove s3 s8 ks = some s' ∧ OP s3 s8 B (2 * F) (-1) c ∧ (∀ j, j < 2 * F → s' 43 j = (vC s3 s8 B (2 * F) (-1) c j).tdiv (gS (vC s3 s8 B (2 * F) (-1) c) (2 * F))) ∧ (∀ q, q < 24 → s' q = s3 q) ∧ s' 24 0 = 16 ∧ s' 24 1 = 8 ∧ PVg s' := by
  obtain ⟨R, hB, hF, h11, h5, H⟩ := K
  have r2 := R.2.1
  have r3 := R.2.2.1
  have r12 := R.2.2.2.2.2.2.2.2.2.2.2.1
  have cB := cn_le s8 B
  have N8 : 2 * F ≤ 8 := by omega
  obtain ⟨c, op⟩ := opn R hB N8 hk (sg := -1) (Or.inr rfl)
  have g := XG_rng R hB N8 (by omega) (sg := -1) (Or.inr rfl)
  obtain ⟨s1, a1, a2, a3⟩ := e_beging r12.1 r12.2.1 r12.2.2 (n := cn s8 B) (c := 2 * F) (by omega) N8
  obtain ⟨z2, s2, b1, b2, b3⟩ := e_fm21 R hB h5 (ways := ((2 * F : Nat) : Int)) B 0 zF s1 (by omega) (by unfold zF; omega) (fun q hq => a3 q (by omega)) (TSg_congr a2 (fun _ _ _ _ => rfl) (fun _ _ => rfl))
  rw [show ((0 : Nat) : Int) = 0 from rfl] at b1
  obtain ⟨s4, d1, d2, d3⟩ := e_clearg (by omega) N8 (Nat.le_refl _) (st0 := (0, 1, Tg s3 s8 B (-1), fun _ => -1)) (Tg_ok R hB N8 (Or.inr rfl)) b2
  have op' := op
  obtain ⟨o1, o2, o3, o4, o5⟩ := op'
  have L2 : ∀ j, j < 2 * F → j ≠ c → ∃ i : Nat, (clr (cn s8 B) (0, 1, Tg s3 s8 B (-1), fun _ => -1) (2 * F)).2.2.2 j = i ∧ i < (clr (cn s8 B) (0, 1, Tg s3 s8 B (-1), fun _ => -1) (2 * F)).1 := fun j hj hn => by
    obtain ⟨i, i1, i2, _⟩ := o4 j hj hn
    exact ⟨i, i1, i2⟩
  have p := e_fm140 (s8 := s8) (ks := ks) (ways := ((2 * F : Nat) : Int)) d2 o1 o2 L2 (2 * F - 1 - c) (2 * F - 1) zF (by omega) (by omega) (by unfold zF; omega)
  obtain ⟨z5, s5, f1, f2, f3⟩ := e_fm163 (s8 := s8) (ks := ks) o1 L2 (2 * F) 0 zF s4 (by omega) (by unfold zF; omega) d2 (fun x hx => by omega)
  rw [show ((0 : Nat) : Int) = 0 from rfl] at f1
  have vr : ∀ j, j < 2 * F → s5 43 j = vC s3 s8 B (2 * F) (-1) c j ∧ wi (vC s3 s8 B (2 * F) (-1) c j) 1000000000000 := by
    intro j hj
    refine ⟨f3 j hj, ?_⟩
    unfold vC
    by_cases e : j = c
    · rw [if_pos e]
      have := g.2.1
      unfold wi at *
      omega
    · rw [if_neg e]
      obtain ⟨i, i1, i2⟩ := L2 j hj e
      have i1' : (XG s3 s8 B (2 * F) (-1)).2.2.2 j = i := i1
      have i2' : i < (XG s3 s8 B (2 * F) (-1)).1 := i2
      rw [i1', Int.toNat_natCast]
      have := g.2.2.2 i c (by omega) o1
      unfold wi at *
      omega
  have nz : ∃ j, j < 2 * F ∧ vC s3 s8 B (2 * F) (-1) c j ≠ 0 := ⟨c, o1, by unfold vC; rw [if_pos rfl]; exact g.1⟩
  obtain ⟨s6, h1, h2, h3⟩ := e_shorten N8 vr nz
  have lo : ∀ q, q < 24 → s6 q = s3 q := fun q hq => by rw [h2 q (by omega), f2 q (by omega), d3 q (by omega), b3 q (by omega), a3 q (by omega)]
  have T6 := TSg_hi (s' := s6) (fun q x y => by rw [h2 q (by omega), f2 q (by omega)]) d2
  refine ⟨s6, c, ?_, op, h3, lo, T6.2.1, T6.2.2.1, T6.2.2.2.2.2.2.2.1⟩
  unfold d_X4_findMove
  rw [h11, show 2 * s3 0 5 = ((2 * F : Nat) : Int) by omega, a1, Option.bind_some, b1, Option.bind_some]
  dsimp only
  rw [d1, Option.bind_some, show ((2 * F : Nat) : Int) - 1 = ((2 * F - 1 : Nat) : Int) by omega, p, Option.bind_some, f1, Option.bind_some, h1, Option.bind_some]
