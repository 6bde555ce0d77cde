/-! what a constructor does -/
def i0 : zZ := fun _ _ => 0
theorem xg {N t g p : Nat} (h : ∀ i, i < N → xfr (t + i) = 1024 * g + (p + i)) : (fun i => if i < N then some (xfr (t + i)) else none) = fun i => if i < N then some (1024 * g + (p + i)) else none := by
  funext i
  by_cases q : i < N
  · rw [if_pos q, if_pos q, h i q]
  · rw [if_neg q, if_neg q]
theorem xpush_at {hp : xH} {t g : Nat} {r : List va_E} (ht : xtot hp = t) (hg : xreg t = g) (hr : hp[g]? = some r) (e : va_E) {hp1 : xH} (he : hp.set g (r ++ [e]) = hp1) : xpush hp e = hp1 := by
  subst ht
  subst hg
  rw [xpush_eq hr, he]
theorem xtot_app {hp : xH} {g : Nat} {r : List va_E} (hr : hp[g]? = some r) (hg : g < 9) (e : va_E) : xtot (hp.set g (r ++ [e])) = xtot hp + 1 := by
  rw [xtot_map, xtot_map, List.map_set, List.length_append]
  have := xsum_set (hp.map List.length) g r.length (by rw [List.getElem?_map, hr]; rfl)
  rw [if_pos hg] at this
  exact this
theorem xpushN_at {g : Nat} {e : va_E} (hg : g < 9) {hp : xH} {r : List va_E} (hr : hp[g]? = some r) {t : Nat} (ht : xtot hp = t) : ∀ n : Nat, (∀ k, k < n → xreg (t + k) = g) → xpushN hp e n = hp.set g (r ++ List.replicate n e) ∧ xtot (xpushN hp e n) = t + n := by
  intro n
  have len : g < hp.length := by
    rcases Nat.lt_or_ge g hp.length with q | q
    · exact q
    · rw [List.getElem?_eq_none q] at hr
      cases hr
  induction n with
  | zero =>
    intro _
    refine ⟨?_, ht⟩
    show hp = _
    rw [List.replicate_zero, List.append_nil]
    apply List.ext_getElem?
    intro i
    rw [List.getElem?_set]
    by_cases q : g = i
    · rw [if_pos q, if_pos (by omega), ← q, hr]
    · rw [if_neg q]
  | succ n ih =>
    intro h
    obtain ⟨i1, i2⟩ := ih (fun k hk => h k (by omega))
    have at' : (xpushN hp e n)[g]? = some (r ++ List.replicate n e) := by
      rw [i1, List.getElem?_set, if_pos rfl, if_pos len]
    have p : xpushN hp e (n + 1) = (xpushN hp e n).set g (r ++ List.replicate n e ++ [e]) := xpush_at i2 (h n (by omega)) at' e rfl
    constructor
    · rw [p, i1, List.set_set, List.append_assoc, ← List.replicate_succ']
    · rw [p, xtot_app at' hg, i2]
      omega
section QB
variable {M : xM} {d pc : Nat} {lv : xL} {st0 : List Value} {hp : xH} {r : Option Value} {hp' : xH} {nx a t g o : Nat} {ks : List (Nat × Nat)} {ws : List Nat} {v : Value} {rg : List va_E} {hp1 : xH}
theorem xB.newO (hM : xokM M = true) {f : Nat} {fs : List Value} (hrow : xrow M.2.2.2.2 pc = some (.new f, nx, a, ks, ws, v)) (ht : xtot hp = t) (h1 : t < 160) (hg : xreg t = g) (hr : hp[g]? = some rg) (hd : xdf a = fs) (he : hp.set g (rg ++ [.inr (a, fs)]) = hp1) (ho : xfr t = o) (K : xBody M d nx lv (.ref o :: st0) hp1 r hp') : xBody M d pc lv st0 hp r hp' := by
  refine xB.next hM (s := (nx, lv, .ref o :: st0, hp1)) ?_ K
  unfold x1
  rw [hrow]
  show (if xtot hp < 160 then xnx nx lv (.ref (xfr (xtot hp)) :: st0) (xpush hp (.inr (a, xdf a))) else none) = _
  rw [ht, if_pos h1, ho, hd, xpush_at ht hg hr _ he]
  rfl
theorem xB.newA (hM : xokM M = true) {ty : ClassFile.ArrayType} {n : Int32} {N : Nat} {e : va_E} (hrow : xrow M.2.2.2.2 pc = some (.newarray ty, nx, a, ks, ws, v)) (hn : n.toNatClampNeg = N) (hn0 : ¬ n < 0) (hN : N < 1024) (ht : xtot hp = t) (h1 : t < 160) (hg : xreg t = g) (hr : hp[g]? = some rg) (hd : (.inl (a, xz a N) : va_E) = e) (he : hp.set g (rg ++ [e]) = hp1) (ho : xfr t = o) (K : xBody M d nx lv (.ref o :: st0) hp1 r hp') : xBody M d pc lv (.int n :: st0) hp r hp' := by
  refine xB.next hM (s := (nx, lv, .ref o :: st0, hp1)) ?_ K
  unfold x1
  rw [hrow]
  show (if n < 0 ∨ 1024 ≤ n.toNatClampNeg ∨ 160 ≤ xtot hp then none else xnx nx lv (.ref (xfr (xtot hp)) :: st0) (xpush hp (.inl (a, xz a n.toNatClampNeg)))) = _
  rw [ht, hn, if_neg (fun q => by rcases q with q | q | q; exact hn0 q; omega; omega), ho, hd, xpush_at ht hg hr _ he]
  rfl
theorem xB.newQ (hM : xokM M = true) {ty : Nat} {n : Int32} {N : Nat} (hrow : xrow M.2.2.2.2 pc = some (.anewarray ty, nx, a, ks, ws, v)) (hn : n.toNatClampNeg = N) (hn0 : ¬ n < 0) (hN : N < 1024) (ht : xtot hp = t) (h1 : t < 160) (hg : xreg t = g) (hr : hp[g]? = some rg) (he : hp.set g (rg ++ [.inl (a, N, .inr (.inr (.inr (.inr (fun _ => none)))))]) = hp1) (ho : xfr t = o) (K : xBody M d nx lv (.ref o :: st0) hp1 r hp') : xBody M d pc lv (.int n :: st0) hp r hp' := by
  refine xB.next hM (s := (nx, lv, .ref o :: st0, hp1)) ?_ K
  unfold x1
  rw [hrow]
  show (if n < 0 ∨ 1024 ≤ n.toNatClampNeg ∨ 160 ≤ xtot hp then none else xnx nx lv (.ref (xfr (xtot hp)) :: st0) (xpush hp (.inl (a, n.toNatClampNeg, .inr (.inr (.inr (.inr (fun _ => none)))))))) = _
  rw [ht, hn, if_neg (fun q => by rcases q with q | q | q; exact hn0 q; omega; omega), ho, xpush_at ht hg hr _ he]
  rfl
theorem xB.newG (hM : xokM M = true) {ty : Nat} {dm : Nat} {n k : Int32} {N Kk p : Nat} {e : va_E} (hrow : xrow M.2.2.2.2 pc = some (.multianewarray ty dm, nx, a, ks, ws, v)) (hn : n.toNatClampNeg = N) (hn0 : ¬ n < 0) (hN : N < 1024) (hk : k.toNatClampNeg = Kk) (hk0 : ¬ k < 0) (hK : Kk < 1024) (ht : xtot hp = t) (h1 : t + N < 160) (hg9 : g < 9) (hg : xreg t = g) (hgs : ∀ i, i < N → xreg (t + 1 + i) = g) (hr : hp[g]? = some rg) (hd : (.inl (a - 3, xz (a - 3) Kk) : va_E) = e) (hx : ∀ i, i < N → xfr (t + 1 + i) = 1024 * g + (p + i)) (he : hp.set g (rg ++ [.inl (a, N, .inr (.inr (.inr (.inr (fun i => if i < N then some (1024 * g + (p + i)) else none)))))] ++ List.replicate N e) = hp1) (ho : xfr t = o) (K : xBody M d nx lv (.ref o :: st0) hp1 r hp') : xBody M d pc lv (.int k :: .int n :: st0) hp r hp' := by
  refine xB.next hM (s := (nx, lv, .ref o :: st0, hp1)) ?_ K
  unfold x1
  rw [hrow]
  show (if n < 0 ∨ 1024 ≤ n.toNatClampNeg ∨ k < 0 ∨ 1024 ≤ k.toNatClampNeg ∨ 160 ≤ xtot hp + n.toNatClampNeg then none else xnx nx lv (.ref (xfr (xtot hp)) :: st0) (xpushN (xpush hp (.inl (a, n.toNatClampNeg, .inr (.inr (.inr (.inr (fun i => if i < n.toNatClampNeg then some (xfr (xtot hp + 1 + i)) else none))))))) (.inl (a - 3, xz (a - 3) k.toNatClampNeg)) n.toNatClampNeg)) = _
  have len : g < hp.length := by
    rcases Nat.lt_or_ge g hp.length with q | q
    · exact q
    · rw [List.getElem?_eq_none q] at hr
      cases hr
  rw [ht, hn, hk, if_neg (fun q => by rcases q with q | q | q | q | q; exact hn0 q; omega; exact hk0 q; omega; omega), ho, hd, xg hx, xpush_at ht hg hr _ rfl]
  have at' : (hp.set g (rg ++ [.inl (a, N, .inr (.inr (.inr (.inr (fun i => if i < N then some (1024 * g + (p + i)) else none)))))]))[g]? = some (rg ++ [.inl (a, N, .inr (.inr (.inr (.inr (fun i => if i < N then some (1024 * g + (p + i)) else none)))))]) := by
    rw [List.getElem?_set, if_pos rfl, if_pos len]
  have q := (xpushN_at (e := e) hg9 at' (t := t + 1) (by rw [xtot_app hr hg9, ht]) N hgs).1
  rw [q, List.set_set, he]
  rfl
end QB
