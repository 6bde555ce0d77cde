/-! THE INTEGER LAYER: regions as functions to Int, rules of runs over Int -/
abbrev zZ : Type := Nat → Nat → Int
abbrev zD : Type := Nat × Nat × List (Nat × Nat)
def zI (a : Int) : Int32 := Int32.ofInt a
def zJ (a : Int) : Int64 := Int64.ofInt a
abbrev zr (a : Int) : Prop := -2147483648 ≤ a ∧ a ≤ 2147483647
abbrev zrl (a : Int) : Prop := -9223372036854775808 ≤ a ∧ a ≤ 9223372036854775807
def upz (s : zZ) (p i : Nat) (v : Int) : zZ := fun q => if q = p then (fun j => if j = i then v else s p j) else s q
def zfld (f : Nat → Int) : List (Nat × Nat) → Nat → List Value
  | [], _ => []
  | (0, _) :: l, k => .int (zI (f k)) :: zfld f l (k + 1)
  | (1, _) :: l, k => .long (zJ (f k)) :: zfld f l (k + 1)
  | (_ + 2, a) :: l, k => .ref a :: zfld f l (k + 1)
def zcell (d : zD) (f : Nat → Int) : va_E := match d with
  | (0, N, _) => .inl (0, N, .inl (fun i => zI (f i)))
  | (1, N, _) => .inl (1, N, .inr (.inl (fun i => zJ (f i))))
  | (2, N, _) => .inl (2, N, .inl (fun i => zI (f i)))
  | (3, N, l) => .inl ((l.headD (0, 0)).1, N, .inr (.inr (.inr (.inr (fun i => if i < N then some (1024 * ((l.tailD []).headD (0, 0)).1 + (((l.tailD []).headD (0, 0)).2 + i)) else none)))))
  | (4, N, l) => .inl (4, N, .inr (.inr (.inr (.inr (fun i => if i < N then some (1024 * (l.headD (0, 0)).1 + ((l.headD (0, 0)).2 + (f i).toNat)) else none)))))
  | (5, N, _) => .inl (5, N, .inr (.inr (.inr (.inr (fun i => if i < (f 0).toNat then some (1024 * 8 + i) else none)))))
  | (k + 6, _, l) => .inr (k, zfld f l 0)
def zH (s : zZ) : List zD → Nat → List va_E
  | [], _ => []
  | d :: L, k => zcell d (s k) :: zH s L (k + 1)
theorem zH_get (s : zZ) : ∀ (L : List zD) (k p : Nat), (zH s L k)[p]? = L[p]?.map (fun d => zcell d (s (k + p)))
  | [], _, _ => by simp [zH]
  | d :: L, k, 0 => by simp [zH]
  | d :: L, k, p + 1 => by
    simp only [zH, List.getElem?_cons_succ]
    rw [zH_get s L (k + 1) p, show k + 1 + p = k + (p + 1) by omega]
theorem upz_self (s : zZ) (p i : Nat) (v : Int) : upz s p i v p = fun j => if j = i then v else s p j := by
  funext j
  simp [upz]
theorem upz_ne (s : zZ) (p i : Nat) (v : Int) {q : Nat} (h : q ≠ p) : upz s p i v q = s q := by
  unfold upz
  rw [if_neg h]
theorem zH_out (s : zZ) (p i : Nat) (v : Int) : ∀ (L : List zD) (k : Nat), p < k → zH (upz s p i v) L k = zH s L k
  | [], _, _ => rfl
  | d :: L, k, h => by
    simp only [zH]
    rw [upz_ne s p i v (by omega), zH_out s p i v L (k + 1) (by omega)]
theorem zH_set (s : zZ) (i : Nat) (v : Int) : ∀ (L : List zD) (k p : Nat) (d : zD), L[p]? = some d → (zH s L k).set p (zcell d (fun j => if j = i then v else s (k + p) j)) = zH (upz s (k + p) i v) L k
  | [], _, _, _, h => by simp at h
  | d :: L, k, 0, d', h => by
    simp only [List.getElem?_cons_zero, Option.some.injEq] at h
    subst h
    simp only [zH, List.set_cons_zero, Nat.add_zero]
    rw [zH_out s k i v L (k + 1) (by omega), upz_self]
  | d :: L, k, p + 1, d', h => by
    simp only [List.getElem?_cons_succ] at h
    simp only [zH, List.set_cons_succ]
    rw [show k + (p + 1) = k + 1 + p by omega, zH_set s i v L (k + 1) p d' h, upz_ne s (k + 1 + p) i v (by omega)]
