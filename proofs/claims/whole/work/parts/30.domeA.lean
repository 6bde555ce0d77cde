/-! 30.domeA -/
def fX11_inLeastTerms (up : Int64) (lo : Int64) (wh : Int32) : Int64 := if lo = (0 : Int64) then (-9223372036854775808) else if (xgcd up lo) ≠ (0 : Int64) then (if (0 : Int64) ≤ lo then (if wh ≠ 0 then lo / (xgcd up lo) else up / (xgcd up lo)) else if wh ≠ 0 then lo / (-(xgcd up lo)) else up / (-(xgcd up lo))) else (-9223372036854775808)
set_option maxRecDepth 20000 in
theorem t_X11_inLeastTerms (hp : xH) (up : Int64) (lo : Int64) (wh : Int32) (K : ((up.toInt ≠ -2 ^ 63 ∧ lo.toInt ≠ -2 ^ 63) ∧ ((lo = (0 : Int64) → True) ∧ (¬ (lo = (0 : Int64)) → (((xgcd up lo) ≠ (0 : Int64) → (((0 : Int64) ≤ lo → ((wh ≠ 0 → (¬ ((xgcd up lo) = 0))) ∧ (¬ (wh ≠ 0) → (¬ ((xgcd up lo) = 0))))) ∧ (¬ ((0 : Int64) ≤ lo) → ((wh ≠ 0 → (¬ ((-(xgcd up lo)) = 0))) ∧ (¬ (wh ≠ 0) → (¬ ((-(xgcd up lo)) = 0))))))) ∧ (¬ ((xgcd up lo) ≠ (0 : Int64)) → True)))))) : xC MX11_inLeastTerms 2 [.long up, .long lo, .int wh] hp (some (.long (fX11_inLeastTerms up lo wh))) hp := by
  refine ⟨Nat.le_of_ble_eq_true rfl, ?_⟩
  show xBody MX11_inLeastTerms 2 0 [some (.long up), none, some (.long lo), none, some (.int wh), none, none] [] hp _ _
  refine xB.run oX11_inLeastTerms 2 (s := (2, [some (.long up), none, some (.long lo), none, some (.int wh), none, none], [.long lo, .long up], hp)) rfl ?_
  refine xB.call oX11_inLeastTerms (M2 := MX11_commonDivisor) rfl rfl ((t_X11_commonDivisor hp up lo K.1).deep (by decide : 1 ≤ 1)) ?_
  show xBody MX11_inLeastTerms 2 5 [some (.long up), none, some (.long lo), none, some (.int wh), none, none] [.long (xgcd up lo)] hp _ _
  have K := K.2
  refine xB.run oX11_inLeastTerms 4 (s := (10, [some (.long up), none, some (.long lo), none, some (.int wh), some (.long (xgcd up lo)), none], [.int (lg_cmp lo 0)], hp)) rfl ?_
  refine xB.brE oX11_inLeastTerms (P := lo = (0 : Int64)) rfl (xlc_eq lo (0 : Int64)) (fun h1 => ?_) (fun h1 => ?_)
  · have K := K.1 h1
    refine xB.run oX11_inLeastTerms 1 (s := (23, [some (.long up), none, some (.long lo), none, some (.int wh), some (.long (xgcd up lo)), none], [.long (-9223372036854775808)], hp)) rfl ?_
    exact xB.ret oX11_inLeastTerms (r1 := some (.long (-9223372036854775808))) rfl (by simp only [fX11_inLeastTerms, if_pos h1]) rfl
  · have K := K.2 h1
    refine xB.run oX11_inLeastTerms 3 (s := (17, [some (.long up), none, some (.long lo), none, some (.int wh), some (.long (xgcd up lo)), none], [.int (lg_cmp (xgcd up lo) 0)], hp)) rfl ?_
    refine xB.brE oX11_inLeastTerms (P := (xgcd up lo) ≠ (0 : Int64)) rfl (xlc_ne (xgcd up lo) (0 : Int64)) (fun h2 => ?_) (fun h2 => ?_)
    · have K := K.1 h2
      refine xB.run oX11_inLeastTerms 3 (s := (27, [some (.long up), none, some (.long lo), none, some (.int wh), some (.long (xgcd up lo)), none], [.int (lg_cmp lo 0)], hp)) rfl ?_
      refine xB.brE oX11_inLeastTerms (P := (0 : Int64) ≤ lo) rfl (xlc_ge lo (0 : Int64)) (fun h3 => ?_) (fun h3 => ?_)
      · have K := K.1 h3
        refine xB.run oX11_inLeastTerms 1 (s := (37, [some (.long up), none, some (.long lo), none, some (.int wh), some (.long (xgcd up lo)), none], [.int wh], hp)) rfl ?_
        refine xB.br oX11_inLeastTerms (P := wh ≠ 0) rfl (fun h4 => ?_) (fun h4 => ?_)
        · have K := K.1 h4
          refine xB.run oX11_inLeastTerms 2 (s := (50, [some (.long up), none, some (.long lo), none, some (.int wh), some (.long (xgcd up lo)), none], [.long (xgcd up lo), .long lo], hp)) rfl ?_
          refine xB.next oX11_inLeastTerms (s := (51, [some (.long up), none, some (.long lo), none, some (.int wh), some (.long (xgcd up lo)), none], [.long (lo / (xgcd up lo))], hp)) (xdiv_at (by exact K) rfl) ?_
          exact xB.ret oX11_inLeastTerms (r1 := some (.long (lo / (xgcd up lo)))) rfl (by simp only [fX11_inLeastTerms, if_neg h1, if_pos h2, if_pos h3, if_pos h4]) rfl
        · have K := K.2 h4
          refine xB.run oX11_inLeastTerms 2 (s := (43, [some (.long up), none, some (.long lo), none, some (.int wh), some (.long (xgcd up lo)), none], [.long (xgcd up lo), .long up], hp)) rfl ?_
          refine xB.next oX11_inLeastTerms (s := (44, [some (.long up), none, some (.long lo), none, some (.int wh), some (.long (xgcd up lo)), none], [.long (up / (xgcd up lo))], hp)) (xdiv_at (by exact K) rfl) ?_
          refine xB.run oX11_inLeastTerms 1 (s := (51, [some (.long up), none, some (.long lo), none, some (.int wh), some (.long (xgcd up lo)), none], [.long (up / (xgcd up lo))], hp)) rfl ?_
          exact xB.ret oX11_inLeastTerms (r1 := some (.long (up / (xgcd up lo)))) rfl (by simp only [fX11_inLeastTerms, if_neg h1, if_pos h2, if_pos h3, if_neg h4]) rfl
      · have K := K.2 h3
        refine xB.run oX11_inLeastTerms 4 (s := (37, [some (.long up), none, some (.long lo), none, some (.int wh), some (.long (-(xgcd up lo))), none], [.int wh], hp)) rfl ?_
        refine xB.br oX11_inLeastTerms (P := wh ≠ 0) rfl (fun h5 => ?_) (fun h5 => ?_)
        · have K := K.1 h5
          refine xB.run oX11_inLeastTerms 2 (s := (50, [some (.long up), none, some (.long lo), none, some (.int wh), some (.long (-(xgcd up lo))), none], [.long (-(xgcd up lo)), .long lo], hp)) rfl ?_
          refine xB.next oX11_inLeastTerms (s := (51, [some (.long up), none, some (.long lo), none, some (.int wh), some (.long (-(xgcd up lo))), none], [.long (lo / (-(xgcd up lo)))], hp)) (xdiv_at (by exact K) rfl) ?_
          exact xB.ret oX11_inLeastTerms (r1 := some (.long (lo / (-(xgcd up lo))))) rfl (by simp only [fX11_inLeastTerms, if_neg h1, if_pos h2, if_neg h3, if_pos h5]) rfl
        · have K := K.2 h5
          refine xB.run oX11_inLeastTerms 2 (s := (43, [some (.long up), none, some (.long lo), none, some (.int wh), some (.long (-(xgcd up lo))), none], [.long (-(xgcd up lo)), .long up], hp)) rfl ?_
          refine xB.next oX11_inLeastTerms (s := (44, [some (.long up), none, some (.long lo), none, some (.int wh), some (.long (-(xgcd up lo))), none], [.long (up / (-(xgcd up lo)))], hp)) (xdiv_at (by exact K) rfl) ?_
          refine xB.run oX11_inLeastTerms 1 (s := (51, [some (.long up), none, some (.long lo), none, some (.int wh), some (.long (-(xgcd up lo))), none], [.long (up / (-(xgcd up lo)))], hp)) rfl ?_
          exact xB.ret oX11_inLeastTerms (r1 := some (.long (up / (-(xgcd up lo))))) rfl (by simp only [fX11_inLeastTerms, if_neg h1, if_pos h2, if_neg h3, if_neg h5]) rfl
    · have K := K.2 h2
      refine xB.run oX11_inLeastTerms 1 (s := (23, [some (.long up), none, some (.long lo), none, some (.int wh), some (.long (xgcd up lo)), none], [.long (-9223372036854775808)], hp)) rfl ?_
      exact xB.ret oX11_inLeastTerms (r1 := some (.long (-9223372036854775808))) rfl (by simp only [fX11_inLeastTerms, if_neg h1, if_neg h2]) rfl
def fX12_part (up : Int64) (lo : Int64) (wh : Int32) : Int64 := if (0 : Int64) ≤ lo then (if wh ≠ 0 then lo / (xgcd up lo) else up / (xgcd up lo)) else if wh ≠ 0 then lo / (-(xgcd up lo)) else up / (-(xgcd up lo))
set_option maxRecDepth 20000 in
theorem t_X12_part (hp : xH) (up : Int64) (lo : Int64) (wh : Int32) (K : ((up.toInt ≠ -2 ^ 63 ∧ lo.toInt ≠ -2 ^ 63) ∧ (((0 : Int64) ≤ lo → ((wh ≠ 0 → (¬ ((xgcd up lo) = 0))) ∧ (¬ (wh ≠ 0) → (¬ ((xgcd up lo) = 0))))) ∧ (¬ ((0 : Int64) ≤ lo) → ((wh ≠ 0 → (¬ ((-(xgcd up lo)) = 0))) ∧ (¬ (wh ≠ 0) → (¬ ((-(xgcd up lo)) = 0)))))))) : xC MX12_part 2 [.long up, .long lo, .int wh] hp (some (.long (fX12_part up lo wh))) hp := by
  refine ⟨Nat.le_of_ble_eq_true rfl, ?_⟩
  show xBody MX12_part 2 0 [some (.long up), none, some (.long lo), none, some (.int wh), none, none] [] hp _ _
  refine xB.run oX12_part 2 (s := (2, [some (.long up), none, some (.long lo), none, some (.int wh), none, none], [.long lo, .long up], hp)) rfl ?_
  refine xB.call oX12_part (M2 := MX12_common) rfl rfl ((t_X12_common hp up lo K.1).deep (by decide : 1 ≤ 1)) ?_
  show xBody MX12_part 2 5 [some (.long up), none, some (.long lo), none, some (.int wh), none, none] [.long (xgcd up lo)] hp _ _
  have K := K.2
  refine xB.run oX12_part 4 (s := (10, [some (.long up), none, some (.long lo), none, some (.int wh), some (.long (xgcd up lo)), none], [.int (lg_cmp lo 0)], hp)) rfl ?_
  refine xB.brE oX12_part (P := (0 : Int64) ≤ lo) rfl (xlc_ge lo (0 : Int64)) (fun h1 => ?_) (fun h1 => ?_)
  · have K := K.1 h1
    refine xB.run oX12_part 3 (s := (25, [some (.long up), none, some (.long lo), none, some (.int wh), some (.long (xgcd up lo)), none], [.int wh], hp)) rfl ?_
    refine xB.br oX12_part (P := wh ≠ 0) rfl (fun h2 => ?_) (fun h2 => ?_)
    · have K := K.1 h2
      refine xB.run oX12_part 2 (s := (38, [some (.long up), none, some (.long lo), none, some (.int wh), some (.long (xgcd up lo)), none], [.long (xgcd up lo), .long lo], hp)) rfl ?_
      refine xB.next oX12_part (s := (39, [some (.long up), none, some (.long lo), none, some (.int wh), some (.long (xgcd up lo)), none], [.long (lo / (xgcd up lo))], hp)) (xdiv_at (by exact K) rfl) ?_
      exact xB.ret oX12_part (r1 := some (.long (lo / (xgcd up lo)))) rfl (by simp only [fX12_part, if_pos h1, if_pos h2]) rfl
    · have K := K.2 h2
      refine xB.run oX12_part 2 (s := (31, [some (.long up), none, some (.long lo), none, some (.int wh), some (.long (xgcd up lo)), none], [.long (xgcd up lo), .long up], hp)) rfl ?_
      refine xB.next oX12_part (s := (32, [some (.long up), none, some (.long lo), none, some (.int wh), some (.long (xgcd up lo)), none], [.long (up / (xgcd up lo))], hp)) (xdiv_at (by exact K) rfl) ?_
      refine xB.run oX12_part 1 (s := (39, [some (.long up), none, some (.long lo), none, some (.int wh), some (.long (xgcd up lo)), none], [.long (up / (xgcd up lo))], hp)) rfl ?_
      exact xB.ret oX12_part (r1 := some (.long (up / (xgcd up lo)))) rfl (by simp only [fX12_part, if_pos h1, if_neg h2]) rfl
  · have K := K.2 h1
    refine xB.run oX12_part 5 (s := (25, [some (.long up), none, some (.long lo), none, some (.int wh), some (.long (-(xgcd up lo))), none], [.int wh], hp)) rfl ?_
    refine xB.br oX12_part (P := wh ≠ 0) rfl (fun h3 => ?_) (fun h3 => ?_)
    · have K := K.1 h3
      refine xB.run oX12_part 2 (s := (38, [some (.long up), none, some (.long lo), none, some (.int wh), some (.long (-(xgcd up lo))), none], [.long (-(xgcd up lo)), .long lo], hp)) rfl ?_
      refine xB.next oX12_part (s := (39, [some (.long up), none, some (.long lo), none, some (.int wh), some (.long (-(xgcd up lo))), none], [.long (lo / (-(xgcd up lo)))], hp)) (xdiv_at (by exact K) rfl) ?_
      exact xB.ret oX12_part (r1 := some (.long (lo / (-(xgcd up lo))))) rfl (by simp only [fX12_part, if_neg h1, if_pos h3]) rfl
    · have K := K.2 h3
      refine xB.run oX12_part 2 (s := (31, [some (.long up), none, some (.long lo), none, some (.int wh), some (.long (-(xgcd up lo))), none], [.long (-(xgcd up lo)), .long up], hp)) rfl ?_
      refine xB.next oX12_part (s := (32, [some (.long up), none, some (.long lo), none, some (.int wh), some (.long (-(xgcd up lo))), none], [.long (up / (-(xgcd up lo)))], hp)) (xdiv_at (by exact K) rfl) ?_
      refine xB.run oX12_part 1 (s := (39, [some (.long up), none, some (.long lo), none, some (.int wh), some (.long (-(xgcd up lo))), none], [.long (up / (-(xgcd up lo)))], hp)) rfl ?_
      exact xB.ret oX12_part (r1 := some (.long (up / (-(xgcd up lo))))) rfl (by simp only [fX12_part, if_neg h1, if_neg h3]) rfl
set_option maxRecDepth 20000 in
theorem b_X2_weightDownTo_0 (r0 : List va_E) (outs : Nat → Int32) (downs : Nat → Int32) (wts : Nat → Int32) (pn : Int32) (codes : Nat → Int32) (ro : Nat → Int32) (rd : Nat → Int32) (rw : Nat → Int32) (cn : Int32) (at_ : Int32) (fw : Int32) (sums : Nat → Nat → Int32) (r2 : List va_E) (r3 : List va_E) (r4 : List va_E) (r5 : List va_E) (r6 : List va_E) (r7 : List va_E) (r8 : List va_E) (r9 : List va_E) (p : Int32) {r : Option Value} {hp1 : xH} (K : xBody MX2_weightDownTo 0 4 [some (.ref 1024), some (.int p), some (.int 0), some (.int 0)] [] ([r0, rDome outs downs wts pn codes ro rd rw cn at_ fw sums, r2, r3, r4, r5, r6, r7, r8, r9]) r hp1) : xBody MX2_weightDownTo 0 0 [some (.ref 1024), some (.int p), none, none] [] ([r0, rDome outs downs wts pn codes ro rd rw cn at_ fw sums, r2, r3, r4, r5, r6, r7, r8, r9]) r hp1 := by
  refine xB.run oX2_weightDownTo 4 (s := (4, [some (.ref 1024), some (.int p), some (.int 0), some (.int 0)], [], [r0, rDome outs downs wts pn codes ro rd rw cn at_ fw sums, r2, r3, r4, r5, r6, r7, r8, r9])) rfl ?_
  exact K
set_option maxRecDepth 20000 in
theorem b_X2_weightDownTo_4 (r0 : List va_E) (outs : Nat → Int32) (downs : Nat → Int32) (wts : Nat → Int32) (pn : Int32) (codes : Nat → Int32) (ro : Nat → Int32) (rd : Nat → Int32) (rw : Nat → Int32) (cn : Int32) (at_ : Int32) (fw : Int32) (sums : Nat → Nat → Int32) (r2 : List va_E) (r3 : List va_E) (r4 : List va_E) (r5 : List va_E) (r6 : List va_E) (r7 : List va_E) (r8 : List va_E) (r9 : List va_E) (p : Int32) (x : Int32) (k : Int32) {r : Option Value} {hp1 : xH} (K : ((p < k → (r = some (.int x) ∧ hp1 = [r0, rDome outs downs wts pn codes ro rd rw cn at_ fw sums, r2, r3, r4, r5, r6, r7, r8, r9])) ∧ (¬ (p < k) → ((pn ≤ k → (r = some (.int x) ∧ hp1 = [r0, rDome outs downs wts pn codes ro rd rw cn at_ fw sums, r2, r3, r4, r5, r6, r7, r8, r9])) ∧ (¬ (pn ≤ k) → (¬ (k < 0 ∨ 8 ≤ k.toNatClampNeg) ∧ xBody MX2_weightDownTo 0 4 [some (.ref 1024), some (.int p), some (.int (x + (wts k.toNatClampNeg))), some (.int (k + 1))] [] ([r0, rDome outs downs wts pn codes ro rd rw cn at_ fw sums, r2, r3, r4, r5, r6, r7, r8, r9]) r hp1)))))) : xBody MX2_weightDownTo 0 4 [some (.ref 1024), some (.int p), some (.int x), some (.int k)] [] ([r0, rDome outs downs wts pn codes ro rd rw cn at_ fw sums, r2, r3, r4, r5, r6, r7, r8, r9]) r hp1 := by
  refine xB.run oX2_weightDownTo 2 (s := (6, [some (.ref 1024), some (.int p), some (.int x), some (.int k)], [.int p, .int k], [r0, rDome outs downs wts pn codes ro rd rw cn at_ fw sums, r2, r3, r4, r5, r6, r7, r8, r9])) rfl ?_
  refine xB.br oX2_weightDownTo (P := p < k) rfl (fun h2 => ?_) (fun h2 => ?_)
  · have K := K.1 h2
    refine xB.run oX2_weightDownTo 1 (s := (33, [some (.ref 1024), some (.int p), some (.int x), some (.int k)], [.int x], [r0, rDome outs downs wts pn codes ro rd rw cn at_ fw sums, r2, r3, r4, r5, r6, r7, r8, r9])) rfl ?_
    exact xB.ret oX2_weightDownTo (r1 := some (.int x)) rfl K.1 K.2
  · have K := K.2 h2
    refine xB.run oX2_weightDownTo 3 (s := (14, [some (.ref 1024), some (.int p), some (.int x), some (.int k)], [.int pn, .int k], [r0, rDome outs downs wts pn codes ro rd rw cn at_ fw sums, r2, r3, r4, r5, r6, r7, r8, r9])) rfl ?_
    refine xB.br oX2_weightDownTo (P := pn ≤ k) rfl (fun h1 => ?_) (fun h1 => ?_)
    · have K := K.1 h1
      refine xB.run oX2_weightDownTo 1 (s := (33, [some (.ref 1024), some (.int p), some (.int x), some (.int k)], [.int x], [r0, rDome outs downs wts pn codes ro rd rw cn at_ fw sums, r2, r3, r4, r5, r6, r7, r8, r9])) rfl ?_
      exact xB.ret oX2_weightDownTo (r1 := some (.int x)) rfl K.1 K.2
    · have K := K.2 h1
      refine xB.run oX2_weightDownTo 4 (s := (23, [some (.ref 1024), some (.int p), some (.int x), some (.int k)], [.int k, .ref 1027, .int x], [r0, rDome outs downs wts pn codes ro rd rw cn at_ fw sums, r2, r3, r4, r5, r6, r7, r8, r9])) rfl ?_
      refine xB.iald oX2_weightDownTo (o := 1027) (N := 8) (f := wts) rfl rfl K.1 ?_
      have K := K.2
      refine xB.run oX2_weightDownTo 4 (s := (4, [some (.ref 1024), some (.int p), some (.int (x + (wts k.toNatClampNeg))), some (.int (k + 1))], [], [r0, rDome outs downs wts pn codes ro rd rw cn at_ fw sums, r2, r3, r4, r5, r6, r7, r8, r9])) rfl ?_
      exact K
set_option maxRecDepth 20000 in
theorem b_X12_above_0 (r0 : List va_E) (r1 : List va_E) (r2 : List va_E) (r3 : List va_E) (r4 : List va_E) (r5 : List va_E) (r6 : List va_E) (m_fault : Int32) (m_trace : Int32) (m_lanes : Nat → Int32) (m_sheetLong : Nat → Int32) (m_cells : Nat → Int32) (m_panels : Int32) (m_outs : Nat → Int32) (m_downs : Nat → Int32) (m_weights : Nat → Int32) (m_at : Int32) (m_end : Int32) (m_wrongAt : Int32) (m_sums : Nat → Int32) (m_thicks : Nat → Int32) (m_links : Int32) (m_springs : Nat → Int32) (m_stiff : Nat → Int64) (m_slack : Nat → Int64) (m_partial : Nat → Int64) (m_shifted : Nat → Int64) (m_joints : Int32) (m_free : Int32) (m_jx : Nat → Int32) (m_jy : Nat → Int32) (m_freeOf : Nat → Int32) (m_bars : Int32) (m_kinds : Nat → Int32) (m_ends : Nat → Int32) (m_strengths : Nat → Int32) (m_isCut : Nat → Int32) (m_loads : Nat → Int32) (m_table : Nat → Int64) (m_rowOf : Nat → Int32) (m_rank : Int32) (m_carried : Nat → Int32) (m_moves : Nat → Int64) (m_mayGo : Nat → Int32) (m_isGap : Nat → Int32) (m_lots : Nat → Int32) (m_sights : Int32) (m_factors : Nat → Int32) (m_lows : Nat → Int32) (m_highs : Nat → Int32) (r8 : List va_E) (r9 : List va_E) (p : Int32) {r : Option Value} {hp1 : xH} (K : xBody MX12_above 0 4 [some (.ref 7168), some (.int p), some (.int 0), some (.int 0)] [] ([r0, r1, r2, r3, r4, r5, r6, rModel m_fault m_trace m_lanes m_sheetLong m_cells m_panels m_outs m_downs m_weights m_at m_end m_wrongAt m_sums m_thicks m_links m_springs m_stiff m_slack m_partial m_shifted m_joints m_free m_jx m_jy m_freeOf m_bars m_kinds m_ends m_strengths m_isCut m_loads m_table m_rowOf m_rank m_carried m_moves m_mayGo m_isGap m_lots m_sights m_factors m_lows m_highs, r8, r9]) r hp1) : xBody MX12_above 0 0 [some (.ref 7168), some (.int p), none, none] [] ([r0, r1, r2, r3, r4, r5, r6, rModel m_fault m_trace m_lanes m_sheetLong m_cells m_panels m_outs m_downs m_weights m_at m_end m_wrongAt m_sums m_thicks m_links m_springs m_stiff m_slack m_partial m_shifted m_joints m_free m_jx m_jy m_freeOf m_bars m_kinds m_ends m_strengths m_isCut m_loads m_table m_rowOf m_rank m_carried m_moves m_mayGo m_isGap m_lots m_sights m_factors m_lows m_highs, r8, r9]) r hp1 := by
  refine xB.run oX12_above 4 (s := (4, [some (.ref 7168), some (.int p), some (.int 0), some (.int 0)], [], [r0, r1, r2, r3, r4, r5, r6, rModel m_fault m_trace m_lanes m_sheetLong m_cells m_panels m_outs m_downs m_weights m_at m_end m_wrongAt m_sums m_thicks m_links m_springs m_stiff m_slack m_partial m_shifted m_joints m_free m_jx m_jy m_freeOf m_bars m_kinds m_ends m_strengths m_isCut m_loads m_table m_rowOf m_rank m_carried m_moves m_mayGo m_isGap m_lots m_sights m_factors m_lows m_highs, r8, r9])) rfl ?_
  exact K
set_option maxRecDepth 20000 in
theorem b_X12_above_4 (r0 : List va_E) (r1 : List va_E) (r2 : List va_E) (r3 : List va_E) (r4 : List va_E) (r5 : List va_E) (r6 : List va_E) (m_fault : Int32) (m_trace : Int32) (m_lanes : Nat → Int32) (m_sheetLong : Nat → Int32) (m_cells : Nat → Int32) (m_panels : Int32) (m_outs : Nat → Int32) (m_downs : Nat → Int32) (m_weights : Nat → Int32) (m_at : Int32) (m_end : Int32) (m_wrongAt : Int32) (m_sums : Nat → Int32) (m_thicks : Nat → Int32) (m_links : Int32) (m_springs : Nat → Int32) (m_stiff : Nat → Int64) (m_slack : Nat → Int64) (m_partial : Nat → Int64) (m_shifted : Nat → Int64) (m_joints : Int32) (m_free : Int32) (m_jx : Nat → Int32) (m_jy : Nat → Int32) (m_freeOf : Nat → Int32) (m_bars : Int32) (m_kinds : Nat → Int32) (m_ends : Nat → Int32) (m_strengths : Nat → Int32) (m_isCut : Nat → Int32) (m_loads : Nat → Int32) (m_table : Nat → Int64) (m_rowOf : Nat → Int32) (m_rank : Int32) (m_carried : Nat → Int32) (m_moves : Nat → Int64) (m_mayGo : Nat → Int32) (m_isGap : Nat → Int32) (m_lots : Nat → Int32) (m_sights : Int32) (m_factors : Nat → Int32) (m_lows : Nat → Int32) (m_highs : Nat → Int32) (r8 : List va_E) (r9 : List va_E) (p : Int32) (x : Int32) (k : Int32) {r : Option Value} {hp1 : xH} (K : ((p < k → (r = some (.int x) ∧ hp1 = [r0, r1, r2, r3, r4, r5, r6, rModel m_fault m_trace m_lanes m_sheetLong m_cells m_panels m_outs m_downs m_weights m_at m_end m_wrongAt m_sums m_thicks m_links m_springs m_stiff m_slack m_partial m_shifted m_joints m_free m_jx m_jy m_freeOf m_bars m_kinds m_ends m_strengths m_isCut m_loads m_table m_rowOf m_rank m_carried m_moves m_mayGo m_isGap m_lots m_sights m_factors m_lows m_highs, r8, r9])) ∧ (¬ (p < k) → (¬ (k < 0 ∨ 16 ≤ k.toNatClampNeg) ∧ xBody MX12_above 0 4 [some (.ref 7168), some (.int p), some (.int (x + (m_weights k.toNatClampNeg))), some (.int (k + 1))] [] ([r0, r1, r2, r3, r4, r5, r6, rModel m_fault m_trace m_lanes m_sheetLong m_cells m_panels m_outs m_downs m_weights m_at m_end m_wrongAt m_sums m_thicks m_links m_springs m_stiff m_slack m_partial m_shifted m_joints m_free m_jx m_jy m_freeOf m_bars m_kinds m_ends m_strengths m_isCut m_loads m_table m_rowOf m_rank m_carried m_moves m_mayGo m_isGap m_lots m_sights m_factors m_lows m_highs, r8, r9]) r hp1)))) : xBody MX12_above 0 4 [some (.ref 7168), some (.int p), some (.int x), some (.int k)] [] ([r0, r1, r2, r3, r4, r5, r6, rModel m_fault m_trace m_lanes m_sheetLong m_cells m_panels m_outs m_downs m_weights m_at m_end m_wrongAt m_sums m_thicks m_links m_springs m_stiff m_slack m_partial m_shifted m_joints m_free m_jx m_jy m_freeOf m_bars m_kinds m_ends m_strengths m_isCut m_loads m_table m_rowOf m_rank m_carried m_moves m_mayGo m_isGap m_lots m_sights m_factors m_lows m_highs, r8, r9]) r hp1 := by
  refine xB.run oX12_above 2 (s := (6, [some (.ref 7168), some (.int p), some (.int x), some (.int k)], [.int p, .int k], [r0, r1, r2, r3, r4, r5, r6, rModel m_fault m_trace m_lanes m_sheetLong m_cells m_panels m_outs m_downs m_weights m_at m_end m_wrongAt m_sums m_thicks m_links m_springs m_stiff m_slack m_partial m_shifted m_joints m_free m_jx m_jy m_freeOf m_bars m_kinds m_ends m_strengths m_isCut m_loads m_table m_rowOf m_rank m_carried m_moves m_mayGo m_isGap m_lots m_sights m_factors m_lows m_highs, r8, r9])) rfl ?_
  refine xB.br oX12_above (P := p < k) rfl (fun h1 => ?_) (fun h1 => ?_)
  · have K := K.1 h1
    refine xB.run oX12_above 1 (s := (25, [some (.ref 7168), some (.int p), some (.int x), some (.int k)], [.int x], [r0, r1, r2, r3, r4, r5, r6, rModel m_fault m_trace m_lanes m_sheetLong m_cells m_panels m_outs m_downs m_weights m_at m_end m_wrongAt m_sums m_thicks m_links m_springs m_stiff m_slack m_partial m_shifted m_joints m_free m_jx m_jy m_freeOf m_bars m_kinds m_ends m_strengths m_isCut m_loads m_table m_rowOf m_rank m_carried m_moves m_mayGo m_isGap m_lots m_sights m_factors m_lows m_highs, r8, r9])) rfl ?_
    exact xB.ret oX12_above (r1 := some (.int x)) rfl K.1 K.2
  · have K := K.2 h1
    refine xB.run oX12_above 4 (s := (15, [some (.ref 7168), some (.int p), some (.int x), some (.int k)], [.int k, .ref 7174, .int x], [r0, r1, r2, r3, r4, r5, r6, rModel m_fault m_trace m_lanes m_sheetLong m_cells m_panels m_outs m_downs m_weights m_at m_end m_wrongAt m_sums m_thicks m_links m_springs m_stiff m_slack m_partial m_shifted m_joints m_free m_jx m_jy m_freeOf m_bars m_kinds m_ends m_strengths m_isCut m_loads m_table m_rowOf m_rank m_carried m_moves m_mayGo m_isGap m_lots m_sights m_factors m_lows m_highs, r8, r9])) rfl ?_
    refine xB.iald oX12_above (o := 7174) (N := 16) (f := m_weights) rfl rfl K.1 ?_
    have K := K.2
    refine xB.run oX12_above 4 (s := (4, [some (.ref 7168), some (.int p), some (.int (x + (m_weights k.toNatClampNeg))), some (.int (k + 1))], [], [r0, r1, r2, r3, r4, r5, r6, rModel m_fault m_trace m_lanes m_sheetLong m_cells m_panels m_outs m_downs m_weights m_at m_end m_wrongAt m_sums m_thicks m_links m_springs m_stiff m_slack m_partial m_shifted m_joints m_free m_jx m_jy m_freeOf m_bars m_kinds m_ends m_strengths m_isCut m_loads m_table m_rowOf m_rank m_carried m_moves m_mayGo m_isGap m_lots m_sights m_factors m_lows m_highs, r8, r9])) rfl ?_
    exact K
