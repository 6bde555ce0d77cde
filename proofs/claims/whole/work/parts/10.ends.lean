/-! switches, instanceof, ends, calls -/
theorem xsw_spec : ∀ (ks : List (Nat × Nat)) (x : Int32) (d : Nat), (∃ (j : Nat) (q : Nat × Nat), ks[j]? = some q ∧ x = Int32.ofNat q.1 ∧ xsw ks x d = q.2) ∨ ((∀ q ∈ ks, ¬ x = Int32.ofNat q.1) ∧ xsw ks x d = d)
  | [], x, d => Or.inr ⟨fun q hq => absurd hq List.not_mem_nil, rfl⟩
  | q :: l, x, d => by
    by_cases h : x = Int32.ofNat q.1
    · exact Or.inl ⟨0, q, rfl, h, by unfold xsw; rw [if_pos h]⟩
    · rcases xsw_spec l x d with ⟨j, r, h1, h2, h3⟩ | ⟨h1, h2⟩
      · exact Or.inl ⟨j + 1, r, h1, h2, by unfold xsw; rw [if_neg h]; exact h3⟩
      · refine Or.inr ⟨fun r hr => ?_, by unfold xsw; rw [if_neg h]; exact h2⟩
        rcases List.mem_cons.mp hr with rfl | hr
        · exact h
        · exact h1 r hr
/-- a table's rows: values from lo on -/
def xtab (pc : Nat) (lo : Nat) : List (Nat × Nat) → List Int → Bool
  | [], [] => true
  | q :: ks, o :: os => decide (q.1 = lo ∧ lo < 2147483648 ∧ (pc : Int) + o = (q.2 : Int)) && xtab pc (lo + 1) ks os
  | _, _ => false
theorem xtab_spec (pc : Nat) : ∀ (ks : List (Nat × Nat)) (os : List Int) (lo : Nat), xtab pc lo ks os = true → ks.length = os.length ∧ ∀ (j : Nat) (q : Nat × Nat), ks[j]? = some q → q.1 = lo + j ∧ lo + j < 2147483648 ∧ ∃ o, os[j]? = some o ∧ (pc : Int) + o = (q.2 : Int)
  | [], [], lo, _ => ⟨rfl, fun j q h => by simp at h⟩
  | [], _ :: _, lo, h => by simp [xtab] at h
  | _ :: _, [], lo, h => by simp [xtab] at h
  | q :: ks, o :: os, lo, h => by
    unfold xtab at h
    rw [Bool.and_eq_true, decide_eq_true_eq] at h
    obtain ⟨⟨h1, h2, h3⟩, h4⟩ := h
    obtain ⟨i1, i2⟩ := xtab_spec pc ks os (lo + 1) h4
    refine ⟨by simp [i1], fun j r hr => ?_⟩
    cases j with
    | zero =>
      cases hr
      exact ⟨h1, by omega, o, rfl, h3⟩
    | succ j =>
      obtain ⟨g1, g2, g3⟩ := i2 j r hr
      exact ⟨by omega, by omega, g3⟩
theorem xofNat_int {c : Nat} (h : c < 2147483648) : (Int32.ofNat c).toInt = (c : Int) := nI_toInt h
theorem xs_tsw {G : xG} {own : String} {cc : ByteArray} {nL : Nat} {nm : String} {rt : Option FieldType} {R : Room} {Qf : List Frame → Array Value → State → State → Prop} {pc : Nat} {lv : xL} {st : List Value} {hp : xH} {k n : Nat} {a len : Nat} {ks : List (Nat × Nat)} {x : Int32} {df lo hi : Int} {offs : Array Int}
    (h0 : (pc : Int) + df = (a : Int)) (h1 : 0 ≤ lo) (h2 : xtab pc lo.toNat ks offs.toList = true) (h3 : hi = lo + offs.size - 1) (hd : decode cc pc = .ok (.tableswitch df lo hi offs, len)) (K : xPW G own cc nL nm rt R Qf (xsw ks x a) lv st hp k n) : xPW G own cc nL nm rt R Qf pc lv (.int x :: st) hp k n := by
  intro p l e s m args below meth c C ls H locs hl hR hf
  obtain ⟨t1, t2⟩ := xtab_spec pc ks offs.toList lo.toNat h2
  rcases xsw_spec ks x a with ⟨j, q, g1, g2, g3⟩ | ⟨g1, g2⟩
  · obtain ⟨u1, u2, o, u3, u4⟩ := t2 j q g1
    have hj : j < offs.size := by
      have := (List.getElem?_eq_some_iff.mp u3).1
      simpa using this
    have hx : x.toInt = lo + j := by rw [g2, xofNat_int (by omega), u1]; omega
    rw [g3] at K
    exact lv_tableIn (off := o) C.1 C.2.1 hd (by omega) (by omega) (by rw [hx, show (lo + (j : Int) - lo).toNat = j by omega, ← Array.getElem?_toList]; exact u3) u4 (K p l e s m args below meth c C ls H locs hl hR hf)
  · rw [g2] at K
    refine lv_tableOut C.1 C.2.1 hd ?_ h0 (K p l e s m args below meth c C ls H locs hl hR hf)
    by_cases z1 : x.toInt < lo
    · exact Or.inl z1
    · by_cases z2 : hi < x.toInt
      · exact Or.inr z2
      · exfalso
        have hj : (x.toInt - lo).toNat < ks.length := by rw [t1, Array.length_toList]; omega
        obtain ⟨u1, u2, -⟩ := t2 _ _ (List.getElem?_eq_getElem hj)
        refine g1 _ (List.getElem_mem hj) (Int32.toInt_inj.mp ?_)
        rw [xofNat_int (by omega), u1]
        omega
def xlkp (pc : Nat) : List (Nat × Nat) → List (Int × Int) → Bool
  | [], [] => true
  | q :: ks, o :: os => decide (o.1 = (q.1 : Int) ∧ q.1 < 2147483648 ∧ (pc : Int) + o.2 = (q.2 : Int)) && xlkp pc ks os
  | _, _ => false
theorem xlkp_spec (pc : Nat) (x : Int32) (df : Int) (a : Nat) (h0 : (pc : Int) + df = (a : Int)) : ∀ (ks : List (Nat × Nat)) (os : List (Int × Int)), xlkp pc ks os = true → (pc : Int) + Op.lookupswitch.offset os df x.toInt = (xsw ks x a : Int)
  | [], [], _ => h0
  | [], _ :: _, h => by simp [xlkp] at h
  | _ :: _, [], h => by simp [xlkp] at h
  | q :: ks, o :: os, h => by
    unfold xlkp at h
    rw [Bool.and_eq_true, decide_eq_true_eq] at h
    obtain ⟨⟨h1, h2, h3⟩, h4⟩ := h
    obtain ⟨o1, o2⟩ := o
    dsimp only at h1 h3
    rw [Op.lookupswitch.offset_cons]
    unfold xsw
    by_cases z : x = Int32.ofNat q.1
    · rw [if_pos z, if_pos (by rw [z, xofNat_int h2, h1])]
      exact h3
    · rw [if_neg z, if_neg (fun y => z (Int32.toInt_inj.mp (by rw [xofNat_int h2, ← h1]; exact y.symm)))]
      exact xlkp_spec pc x df a h0 ks os h4
theorem xs_lsw {G : xG} {own : String} {cc : ByteArray} {nL : Nat} {nm : String} {rt : Option FieldType} {R : Room} {Qf : List Frame → Array Value → State → State → Prop} {pc : Nat} {lv : xL} {st : List Value} {hp : xH} {k n : Nat} {a len : Nat} {ks : List (Nat × Nat)} {x : Int32} {df : Int} {ps : Array (Int × Int)}
    (h0 : (pc : Int) + df = (a : Int)) (h2 : xlkp pc ks ps.toList = true) (h3 : (ps.toList.zip (ps.toList.drop 1)).all (fun (a, next) => a.1 < next.1) = true) (hd : decode cc pc = .ok (.lookupswitch df ps, len)) (K : xPW G own cc nL nm rt R Qf (xsw ks x a) lv st hp k n) : xPW G own cc nL nm rt R Qf pc lv (.int x :: st) hp k n := by
  intro p l e s m args below meth c C ls H locs hl hR hf
  exact lv_lookup C.1 C.2.1 hd h3 rfl (xlkp_spec pc x df a h0 ks ps.toList h2) (K p l e s m args below meth c C ls H locs hl hR hf)
theorem xs_inst {G : xG} {own : String} {cc : ByteArray} {nL : Nat} {nm : String} {rt : Option FieldType} {R : Room} {Qf : List Frame → Array Value → State → State → Prop} {pc : Nat} {lv : xL} {st : List Value} {hp : xH} {k n : Nat} {i o ci b : Nat} {fs : List Value} {ks : List (Nat × Nat)}
    (hks : (Cond.classLink own i "SkinLoads$Flat" ∈ xgw ∧ ks = [(0, 0), (3, 1), (1, 1)]) ∨ (Cond.classLink own i "SkinLoads$Bent" ∈ xgw ∧ ks = [(0, 0), (3, 0), (1, 1)])) (hg : xget hp o = some (.inr (ci, fs))) (hb : xks ks ci = some b) (hd : decode cc pc = .ok (.instanceof i, 3))
    (K : xPW G own cc nL nm rt R Qf (pc + 3) lv (.int (Int32.ofNat b) :: st) hp k n) : xPW G own cc nL nm rt R Qf pc lv (.ref o :: st) hp k n := by
  intro p l e s m args below meth c C0 ls H locs hl hR hf
  have hW := C0.2.2.2.2.2.2.2.2
  have ho := xobj_lt hR hW hg
  have hts : ∀ w ∈ xgw, w.before args s = true := C0.2.2.2.2.1
  have hk := K p l e s m args below meth c C0 ls H locs hl hR hf
  have recv : ∀ r : vw_C, vwCl[ci]? = some r → ∃ cell : Cell, H[xad G o]? = some cell ∧ cell.vm.isStatics = false ∧ s.vm.findClass r.1 = some cell.cls := fun r hr => va_recv hW.1 (xone hR ho hg) hr (q0 := 0) rfl
  have hcs : ci = 0 ∨ ci = 1 ∨ ci = 3 := by
    rcases hks with ⟨-, rfl⟩ | ⟨-, rfl⟩ <;> (simp only [xks] at hb; (repeat (split at hb; · omega)); cases hb)
  rcases hks with ⟨w, rfl⟩ | ⟨w, rfl⟩
  · rcases hcs with rfl | rfl | rfl
    · cases hb
      exact va_instNo C0.1 C0.2.1 C0.2.2.2.1 (hts _ w) hW.2.2.2.2.2.2.1 (recv _ rfl) hd hk
    · cases hb
      exact va_instY C0.1 C0.2.1 C0.2.2.2.1 (hts _ w) (hW.2.1 (.castable "SkinLoads$Bent" "SkinLoads$Flat") (List.mem_of_getElem? (i := 1738) (by decide +kernel)) rfl) (recv _ rfl) hd hk
    · cases hb
      exact va_instS C0.1 C0.2.1 C0.2.2.2.1 (hts _ w) (hW.1.1 3 _ rfl).2 (recv _ rfl) hd hk
  · rcases hcs with rfl | rfl | rfl
    · cases hb
      exact va_instNo C0.1 C0.2.1 C0.2.2.2.1 (hts _ w) hW.2.2.2.2.2.2.2.1 (recv _ rfl) hd hk
    · cases hb
      exact va_instS C0.1 C0.2.1 C0.2.2.2.1 (hts _ w) (hW.1.1 1 _ rfl).2 (recv _ rfl) hd hk
    · cases hb
      exact va_instNo C0.1 C0.2.1 C0.2.2.2.1 (hts _ w) hW.2.2.2.2.2.2.2.2 (recv _ rfl) hd hk
/-- a method's start and end -/
def xPc (G : xG) (as : List Value) (hp : xH) : Array Value → State → Prop := fun v U => v = (as.map (xeV G)).toArray ∧ xRel G hp U.heap ∧ xW G U
def xQc (G : xG) (r : Option Value) (hp : xH) : Array Value → State → Outcome → State → Prop := fun _ _ o t => o = .returned (r.map (xeV G)) ∧ xRel G hp t.heap
def xQf (G : xG) (r : Option Value) (hp : xH) (mc ms : Nat) : List Frame → Array Value → State → State → Prop := fun below args s => MQ below (xQc G r hp) args s mc ms (fun q => G.1 ≤ q)
theorem xPc_blind (G : xG) (as : List Value) (hp : xH) : FrameBlind (xPc G as hp) := by
  rintro a U g mk ⟨h1, h2, h3⟩
  exact ⟨h1, h2, xW.moved (U := U.calling g mk a) (State.WarmedH.refl U) h3⟩
theorem xs_ireturn {G : xG} {own : String} {cc : ByteArray} {nL : Nat} {nm : String} {rt : Option FieldType} {R : Room} {pc : Nat} {lv : xL} {hp : xH} {k n : Nat} {x : Int32} (hr : rt = some .int ∨ (rt = some .boolean ∧ (x = 0 ∨ x = 1))) (hd : decode cc pc = .ok (.ireturn, 1)) : xPW G own cc nL nm rt R (xQf G (some (.int x)) hp k n) pc lv [.int x] hp k n := by
  intro p l e s m args below meth c C ls H locs hl hR hf
  have hq : ∀ t : State, t.heap = H → s.WarmedH t.vm → xQc G (some (.int x)) hp args s (.returned (some (.int x))) t := fun t ht _ => ⟨rfl, by rw [ht]; exact hR⟩
  rcases hr with hr | ⟨hr, hx⟩
  · exact W.iret C.1 C.2.1 (C.2.2.2.2.2.2.2.1.trans hr) hq hf hd C.2.2.2.2.2.1
  · refine W.zret C.1 C.2.1 (C.2.2.2.2.2.2.2.1.trans hr) ?_ hq hf hd C.2.2.2.2.2.1
    rcases hx with rfl | rfl <;> decide +kernel
theorem xs_lreturn {G : xG} {own : String} {cc : ByteArray} {nL : Nat} {nm : String} {rt : Option FieldType} {R : Room} {pc : Nat} {lv : xL} {hp : xH} {k n : Nat} {x : Int64} (hr : rt = some .long) (hd : decode cc pc = .ok (.lreturn, 1)) : xPW G own cc nL nm rt R (xQf G (some (.long x)) hp k n) pc lv [.long x] hp k n := by
  intro p l e s m args below meth c C ls H locs hl hR hf
  exact W.lret C.1 C.2.1 (C.2.2.2.2.2.2.2.1.trans hr) (fun t ht _ => ⟨rfl, by rw [ht]; exact hR⟩) hf hd C.2.2.2.2.2.1
theorem xs_areturn {G : xG} {own : String} {cc : ByteArray} {nL : Nat} {nm : String} {rt : Option FieldType} {R : Room} {pc : Nat} {lv : xL} {hp : xH} {k n : Nat} {v : Value} {C0 : String} (hr : rt = some (.object C0)) (hv : v = .null ∨ ∃ a, v = .ref a) (hd : decode cc pc = .ok (.areturn, 1)) : xPW G own cc nL nm rt R (xQf G (some v) hp k n) pc lv [v] hp k n := by
  intro p l e s m args below meth c C ls H locs hl hR hf
  refine W.aret (v := xeV G v) C.1 C.2.1 (C.2.2.2.2.2.2.2.1.trans hr) (Or.inl ⟨C0, rfl⟩) ?_ (fun t ht _ => ⟨rfl, by rw [ht]; exact hR⟩) hf hd C.2.2.2.2.2.1
  rcases hv with rfl | ⟨a, rfl⟩
  · exact Or.inl rfl
  · exact Or.inr ⟨_, rfl⟩
theorem xs_return {G : xG} {own : String} {cc : ByteArray} {nL : Nat} {nm : String} {rt : Option FieldType} {R : Room} {pc : Nat} {lv : xL} {hp : xH} {k n : Nat} (hr : rt = none) (hd : decode cc pc = .ok (.return_, 1)) : xPW G own cc nL nm rt R (xQf G none hp k n) pc lv [] hp k n := by
  intro p l e s m args below meth c C ls H locs hl hR hf
  exact W.vret C.1 C.2.1 (C.2.2.2.2.2.2.2.1.trans hr) (fun t ht _ => ⟨rfl, by rw [ht]; exact hR⟩) hf hd C.2.2.2.2.2.1
