/-! sums of weights -/
def xsum (w : Nat → Int32) : Nat → Int32
  | 0 => 0
  | n + 1 => xsum w n + w n
theorem t_wd_loop (r0 : List va_E) (outs downs wts : Nat → Int32) (pn : Int32) (codes ro rd rw : Nat → Int32) (cn at_ fw : Int32) (sums : Nat → Nat → Int32) (r2 r3 r4 r5 r6 r7 r8 r9 : List va_E) (p q : Nat) (hq : q ≤ 8) (hpn : pn = nI q) (hp : p < q) : ∀ n k : Nat, k + n = p + 1 → xBody MX2_weightDownTo 0 4 [some (.ref 1024), some (.int (nI p)), some (.int (xsum wts k)), some (.int (nI k))] [] [r0, rDome outs downs wts pn codes ro rd rw cn at_ fw sums, r2, r3, r4, r5, r6, r7, r8, r9] (some (.int (xsum wts (p + 1)))) [r0, rDome outs downs wts pn codes ro rd rw cn at_ fw sums, r2, r3, r4, r5, r6, r7, r8, r9] := by
  intro n
  induction n with
  | zero =>
    intro k hk
    have : k = p + 1 := by omega
    subst this
    refine b_X2_weightDownTo_4 r0 outs downs wts pn codes ro rd rw cn at_ fw sums r2 r3 r4 r5 r6 r7 r8 r9 (nI p) _ _ ⟨fun _ => ⟨rfl, rfl⟩, fun z => absurd (nI_lt (by omega) (by omega)) z⟩
  | succ n ih =>
    intro k hk
    refine b_X2_weightDownTo_4 r0 outs downs wts pn codes ro rd rw cn at_ fw sums r2 r3 r4 r5 r6 r7 r8 r9 (nI p) _ _ ⟨fun z => absurd z (nI_nlt (by omega) (by omega)), fun _ => ⟨fun z => absurd z (by rw [hpn]; exact nI_ge (by omega) (by omega)), fun _ => ⟨nI_in (by omega) (by omega), ?_⟩⟩⟩
    rw [nI_1, nI_clamp (by omega)]
    exact ih (k + 1) (by omega)
theorem xnat_of {x : Int32} (h : 0 ≤ x) : x = nI x.toNatClampNeg ∧ x.toNatClampNeg < 2 ^ 31 := by
  have h1 := Int32.toNatClampNeg_lt x
  refine ⟨?_, h1⟩
  apply Int32.toInt_inj.mp
  rw [nI_toInt h1]
  rw [Int32.le_iff_toInt_le] at h
  have : (0 : Int32).toInt = 0 := rfl
  show x.toInt = ((x.toInt.toNat : Nat) : Int)
  omega
theorem xnat_lt {x y : Int32} (h : 0 ≤ x) (g : x < y) : x.toNatClampNeg < y.toNatClampNeg := by
  have h1 := xnat_of h
  have hy : 0 ≤ y := by
    rw [Int32.le_iff_toInt_le] at h ⊢
    rw [Int32.lt_iff_toInt_lt] at g
    omega
  have h2 := xnat_of hy
  rw [h1.1, h2.1] at g
  exact (nI_ltI h1.2 h2.2).mp g
theorem xnat_le {y : Int32} {n : Nat} (hn : n < 2 ^ 31) (g : y ≤ nI n) : y.toNatClampNeg ≤ n := by
  have h3 := nI_toInt hn
  rw [Int32.le_iff_toInt_le, h3] at g
  show y.toInt.toNat ≤ n
  omega
theorem t_X2_weightDownTo (r0 : List va_E) (outs downs wts : Nat → Int32) (pn : Int32) (codes ro rd rw : Nat → Int32) (cn at_ fw : Int32) (sums : Nat → Nat → Int32) (r2 r3 r4 r5 r6 r7 r8 r9 : List va_E) (p : Int32) (K : 0 ≤ p ∧ p < pn ∧ pn ≤ 8) : xC MX2_weightDownTo 0 [.ref 1024, .int p] [r0, rDome outs downs wts pn codes ro rd rw cn at_ fw sums, r2, r3, r4, r5, r6, r7, r8, r9] (some (.int (xsum wts (p.toNatClampNeg + 1)))) [r0, rDome outs downs wts pn codes ro rd rw cn at_ fw sums, r2, r3, r4, r5, r6, r7, r8, r9] := by
  obtain ⟨h0, h1, h2⟩ := K
  refine ⟨Nat.le_of_ble_eq_true rfl, ?_⟩
  refine b_X2_weightDownTo_0 r0 outs downs wts pn codes ro rd rw cn at_ fw sums r2 r3 r4 r5 r6 r7 r8 r9 p ?_
  have hp := xnat_of h0
  have hl := xnat_lt h0 h1
  have hpn : 0 ≤ pn := by
    rw [Int32.le_iff_toInt_le] at h0 ⊢
    rw [Int32.lt_iff_toInt_lt] at h1
    omega
  have h8 : pn.toNatClampNeg ≤ 8 := xnat_le (n := 8) (by decide) h2
  have main := t_wd_loop r0 outs downs wts pn codes ro rd rw cn at_ fw sums r2 r3 r4 r5 r6 r7 r8 r9 p.toNatClampNeg pn.toNatClampNeg h8 (xnat_of hpn).1 hl (p.toNatClampNeg + 1) 0 (by omega)
  rw [← hp.1, nI_0] at main
  exact main
theorem t_ab_loop (r0 : List va_E) (r1 : List va_E) (r2 : List va_E) (r3 : List va_E) (r4 : List va_E) (r5 : List va_E) (r6 : List va_E) (m_fault : Int32) (m_trace : Int32) (m_lanes : Nat → Int32) (m_sheetLong : Nat → Int32) (m_cells : Nat → Int32) (m_panels : Int32) (m_outs : Nat → Int32) (m_downs : Nat → Int32) (m_weights : Nat → Int32) (m_at : Int32) (m_end : Int32) (m_wrongAt : Int32) (m_sums : Nat → Int32) (m_thicks : Nat → Int32) (m_links : Int32) (m_springs : Nat → Int32) (m_stiff : Nat → Int64) (m_slack : Nat → Int64) (m_partial : Nat → Int64) (m_shifted : Nat → Int64) (m_joints : Int32) (m_free : Int32) (m_jx : Nat → Int32) (m_jy : Nat → Int32) (m_freeOf : Nat → Int32) (m_bars : Int32) (m_kinds : Nat → Int32) (m_ends : Nat → Int32) (m_strengths : Nat → Int32) (m_isCut : Nat → Int32) (m_loads : Nat → Int32) (m_table : Nat → Int64) (m_rowOf : Nat → Int32) (m_rank : Int32) (m_carried : Nat → Int32) (m_moves : Nat → Int64) (m_mayGo : Nat → Int32) (m_isGap : Nat → Int32) (m_lots : Nat → Int32) (m_sights : Int32) (m_factors : Nat → Int32) (m_lows : Nat → Int32) (m_highs : Nat → Int32) (r8 : List va_E) (r9 : List va_E) (p : Nat) (hp : p < 16) : ∀ n k : Nat, k + n = p + 1 → xBody MX12_above 0 4 [some (.ref 7168), some (.int (nI p)), some (.int (xsum m_weights k)), some (.int (nI k))] [] [r0, r1, r2, r3, r4, r5, r6, rModel m_fault m_trace m_lanes m_sheetLong m_cells m_panels m_outs m_downs m_weights m_at m_end m_wrongAt m_sums m_thicks m_links m_springs m_stiff m_slack m_partial m_shifted m_joints m_free m_jx m_jy m_freeOf m_bars m_kinds m_ends m_strengths m_isCut m_loads m_table m_rowOf m_rank m_carried m_moves m_mayGo m_isGap m_lots m_sights m_factors m_lows m_highs, r8, r9] (some (.int (xsum m_weights (p + 1)))) [r0, r1, r2, r3, r4, r5, r6, rModel m_fault m_trace m_lanes m_sheetLong m_cells m_panels m_outs m_downs m_weights m_at m_end m_wrongAt m_sums m_thicks m_links m_springs m_stiff m_slack m_partial m_shifted m_joints m_free m_jx m_jy m_freeOf m_bars m_kinds m_ends m_strengths m_isCut m_loads m_table m_rowOf m_rank m_carried m_moves m_mayGo m_isGap m_lots m_sights m_factors m_lows m_highs, r8, r9] := by
  intro n
  induction n with
  | zero =>
    intro k hk
    have : k = p + 1 := by omega
    subst this
    exact b_X12_above_4 r0 r1 r2 r3 r4 r5 r6 m_fault m_trace m_lanes m_sheetLong m_cells m_panels m_outs m_downs m_weights m_at m_end m_wrongAt m_sums m_thicks m_links m_springs m_stiff m_slack m_partial m_shifted m_joints m_free m_jx m_jy m_freeOf m_bars m_kinds m_ends m_strengths m_isCut m_loads m_table m_rowOf m_rank m_carried m_moves m_mayGo m_isGap m_lots m_sights m_factors m_lows m_highs r8 r9 (nI p) _ _ ⟨fun _ => ⟨rfl, rfl⟩, fun z => absurd (nI_lt (by omega) (by omega)) z⟩
  | succ n ih =>
    intro k hk
    refine b_X12_above_4 r0 r1 r2 r3 r4 r5 r6 m_fault m_trace m_lanes m_sheetLong m_cells m_panels m_outs m_downs m_weights m_at m_end m_wrongAt m_sums m_thicks m_links m_springs m_stiff m_slack m_partial m_shifted m_joints m_free m_jx m_jy m_freeOf m_bars m_kinds m_ends m_strengths m_isCut m_loads m_table m_rowOf m_rank m_carried m_moves m_mayGo m_isGap m_lots m_sights m_factors m_lows m_highs r8 r9 (nI p) _ _ ⟨fun z => absurd z (nI_nlt (by omega) (by omega)), fun _ => ⟨nI_in (by omega) (by omega), ?_⟩⟩
    rw [nI_1, nI_clamp (by omega)]
    exact ih (k + 1) (by omega)
theorem t_X12_above (r0 : List va_E) (r1 : List va_E) (r2 : List va_E) (r3 : List va_E) (r4 : List va_E) (r5 : List va_E) (r6 : List va_E) (m_fault : Int32) (m_trace : Int32) (m_lanes : Nat → Int32) (m_sheetLong : Nat → Int32) (m_cells : Nat → Int32) (m_panels : Int32) (m_outs : Nat → Int32) (m_downs : Nat → Int32) (m_weights : Nat → Int32) (m_at : Int32) (m_end : Int32) (m_wrongAt : Int32) (m_sums : Nat → Int32) (m_thicks : Nat → Int32) (m_links : Int32) (m_springs : Nat → Int32) (m_stiff : Nat → Int64) (m_slack : Nat → Int64) (m_partial : Nat → Int64) (m_shifted : Nat → Int64) (m_joints : Int32) (m_free : Int32) (m_jx : Nat → Int32) (m_jy : Nat → Int32) (m_freeOf : Nat → Int32) (m_bars : Int32) (m_kinds : Nat → Int32) (m_ends : Nat → Int32) (m_strengths : Nat → Int32) (m_isCut : Nat → Int32) (m_loads : Nat → Int32) (m_table : Nat → Int64) (m_rowOf : Nat → Int32) (m_rank : Int32) (m_carried : Nat → Int32) (m_moves : Nat → Int64) (m_mayGo : Nat → Int32) (m_isGap : Nat → Int32) (m_lots : Nat → Int32) (m_sights : Int32) (m_factors : Nat → Int32) (m_lows : Nat → Int32) (m_highs : Nat → Int32) (r8 : List va_E) (r9 : List va_E) (p : Int32) (K : 0 ≤ p ∧ p < 16) : xC MX12_above 0 [.ref 7168, .int p] [r0, r1, r2, r3, r4, r5, r6, rModel m_fault m_trace m_lanes m_sheetLong m_cells m_panels m_outs m_downs m_weights m_at m_end m_wrongAt m_sums m_thicks m_links m_springs m_stiff m_slack m_partial m_shifted m_joints m_free m_jx m_jy m_freeOf m_bars m_kinds m_ends m_strengths m_isCut m_loads m_table m_rowOf m_rank m_carried m_moves m_mayGo m_isGap m_lots m_sights m_factors m_lows m_highs, r8, r9] (some (.int (xsum m_weights (p.toNatClampNeg + 1)))) [r0, r1, r2, r3, r4, r5, r6, rModel m_fault m_trace m_lanes m_sheetLong m_cells m_panels m_outs m_downs m_weights m_at m_end m_wrongAt m_sums m_thicks m_links m_springs m_stiff m_slack m_partial m_shifted m_joints m_free m_jx m_jy m_freeOf m_bars m_kinds m_ends m_strengths m_isCut m_loads m_table m_rowOf m_rank m_carried m_moves m_mayGo m_isGap m_lots m_sights m_factors m_lows m_highs, r8, r9] := by
  obtain ⟨h0, h1⟩ := K
  refine ⟨Nat.le_of_ble_eq_true rfl, ?_⟩
  refine b_X12_above_0 r0 r1 r2 r3 r4 r5 r6 m_fault m_trace m_lanes m_sheetLong m_cells m_panels m_outs m_downs m_weights m_at m_end m_wrongAt m_sums m_thicks m_links m_springs m_stiff m_slack m_partial m_shifted m_joints m_free m_jx m_jy m_freeOf m_bars m_kinds m_ends m_strengths m_isCut m_loads m_table m_rowOf m_rank m_carried m_moves m_mayGo m_isGap m_lots m_sights m_factors m_lows m_highs r8 r9 p ?_
  have hp := xnat_of h0
  have hl := xnat_lt h0 h1
  have main := t_ab_loop r0 r1 r2 r3 r4 r5 r6 m_fault m_trace m_lanes m_sheetLong m_cells m_panels m_outs m_downs m_weights m_at m_end m_wrongAt m_sums m_thicks m_links m_springs m_stiff m_slack m_partial m_shifted m_joints m_free m_jx m_jy m_freeOf m_bars m_kinds m_ends m_strengths m_isCut m_loads m_table m_rowOf m_rank m_carried m_moves m_mayGo m_isGap m_lots m_sights m_factors m_lows m_highs r8 r9 p.toNatClampNeg hl (p.toNatClampNeg + 1) 0 (by omega)
  rw [← hp.1, nI_0] at main
  exact main
