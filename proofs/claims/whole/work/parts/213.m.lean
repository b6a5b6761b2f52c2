/-! X12_takeCount -/
def gX12_takeCount (σ : zS) (p0 : Nat) (p1 : Int32) (p2 : Int32) : Option (Int32 × zS) := oGI σ 12 p0 23 (fun x1 => (if x1 = 0 then oGI σ 12 p0 27 (fun x2 => (if x2 = 0 then (if p2 = (8 : Int32) then oA (zk σ p0 = 12) (oB (fX12_number σ p0 p1) (fun x3 => (if x3 < (1 : Int32) then some (0, σ) else oA (zk σ p0 = 12) (oB (fX12_number σ p0 p1) (fun x4 => (if x4 ≤ (8 : Int32) then oPZ σ 12 p0 23 1 (fun σ1 => oA (zk σ1 p0 = 12) (oB (fX12_number σ1 p0 p1) (fun x5 => oPI σ1 12 p0 25 x5 (fun σ2 => oGR σ2 12 p0 4 (fun a1 => oA (zk σ2 p0 = 12) (oB (fX12_number σ2 p0 (p1 + (4 : Int32))) (fun x6 => oSt σ2 21 a1 9 x6 (fun σ3 => some (1, σ3))))))))) else some (0, σ))))))) else some (0, σ)) else some (0, σ))) else some (0, σ)))
def fX12_takeCount (σ : zS) (p0 : Nat) (p1 : Int32) (p2 : Int32) : Option (Int32 × zS) := oC (gX12_takeCount σ p0 p1 p2) (fun r s => oA (r = 0 ∨ r = 1) (some (r, s)))
set_option maxRecDepth 100000 in
theorem wX12_takeCount {Γ : zG} (E : zE Γ cX12_takeCount RX12 3 { frames := 2, cells := 0, slots := 0, locals := 42 }) (σ : zS) (p0 : Nat) (p1 : Int32) (p2 : Int32) {R : (Int32 × zS)} (h : gX12_takeCount σ p0 p1 p2 = some R) (K : zRet Γ cX12_takeCount 3 0 0 (some (.int R.1)) R.2) : zJ Γ 3 0 0 σ 0 [(0, .ref p0), (1, .int p1), (2, .int p2)] [] := by
  unfold gX12_takeCount at h
  refine zj_aload_n E dX12_takeCount_0 rfl 0 rfl ?_
  refine zs_getI E zc11 23 (by decide) zw_17_23 rfl dX12_takeCount_1 h (fun x1 h => ?_)
  refine zj_if_ne (tgt := 39) E dX12_takeCount_4 (by decide) h (fun h => ?_) (fun h => ?_)
  · refine zj_iconst (v := 0) E dX12_takeCount_39 (by decide) ?_
    have e9 := Option.some.inj h
    subst e9
    exact (show zRet Γ cX12_takeCount 3 0 0 (some (.int 0)) σ from K) _ _ dX12_takeCount_40
  · refine zj_aload_n E dX12_takeCount_7 rfl 0 rfl ?_
    refine zs_getI E zc11 27 (by decide) zw_18_3 rfl dX12_takeCount_8 h (fun x2 h => ?_)
    refine zj_if_ne (tgt := 39) E dX12_takeCount_11 (by decide) h (fun h => ?_) (fun h => ?_)
    · refine zj_iconst (v := 0) E dX12_takeCount_39 (by decide) ?_
      have e9 := Option.some.inj h
      subst e9
      exact (show zRet Γ cX12_takeCount 3 0 0 (some (.int 0)) σ from K) _ _ dX12_takeCount_40
    · refine zj_iload_n E dX12_takeCount_14 rfl 2 rfl ?_
      refine zj_bipush (v := 8) E dX12_takeCount_15 (by decide) ?_
      refine zj_icmp_ne (tgt := 39) E dX12_takeCount_17 (by decide) h (fun h => ?_) (fun h => ?_)
      · refine zj_iconst (v := 0) E dX12_takeCount_39 (by decide) ?_
        have e9 := Option.some.inj h
        subst e9
        exact (show zRet Γ cX12_takeCount 3 0 0 (some (.int 0)) σ from K) _ _ dX12_takeCount_40
      · refine zj_aload_n E dX12_takeCount_20 rfl 0 rfl ?_
        refine zj_iload_n E dX12_takeCount_21 rfl 1 rfl ?_
        obtain ⟨hk, h⟩ := oA_some h
        obtain ⟨x3, hc, h⟩ := oB_some h
        refine zs_callV (As := [.int p1]) (rest := []) E zc11 zyX12_number zw_18_14 (kX12_number _ _ _ _ _ hc) rfl rfl hk rfl ⟨by decide, by decide⟩ ⟨by decide, by decide⟩ (Nat.le_of_ble_eq_true rfl) dX12_takeCount_22 rfl (show zJ Γ 3 0 0 σ 25 [(0, .ref p0), (1, .int p1), (2, .int p2)] [.int x3] from ?_)
        refine zj_iconst (v := 1) E dX12_takeCount_25 (by decide) ?_
        refine zj_icmp_lt (tgt := 39) E dX12_takeCount_26 (by decide) h (fun h => ?_) (fun h => ?_)
        · refine zj_iconst (v := 0) E dX12_takeCount_39 (by decide) ?_
          have e9 := Option.some.inj h
          subst e9
          exact (show zRet Γ cX12_takeCount 3 0 0 (some (.int 0)) σ from K) _ _ dX12_takeCount_40
        · refine zj_aload_n E dX12_takeCount_29 rfl 0 rfl ?_
          refine zj_iload_n E dX12_takeCount_30 rfl 1 rfl ?_
          obtain ⟨hk, h⟩ := oA_some h
          obtain ⟨x4, hc, h⟩ := oB_some h
          refine zs_callV (As := [.int p1]) (rest := []) E zc11 zyX12_number zw_18_14 (kX12_number _ _ _ _ _ hc) rfl rfl hk rfl ⟨by decide, by decide⟩ ⟨by decide, by decide⟩ (Nat.le_of_ble_eq_true rfl) dX12_takeCount_31 rfl (show zJ Γ 3 0 0 σ 34 [(0, .ref p0), (1, .int p1), (2, .int p2)] [.int x4] from ?_)
          refine zj_bipush (v := 8) E dX12_takeCount_34 (by decide) ?_
          refine zj_icmp_le (tgt := 41) E dX12_takeCount_36 (by decide) h (fun h => ?_) (fun h => ?_)
          · refine zj_aload_n E dX12_takeCount_41 rfl 0 rfl ?_
            refine zj_iconst (v := 1) E dX12_takeCount_42 (by decide) ?_
            refine zs_putZ E zc11 23 (by decide) zw_17_23 rfl rfl dX12_takeCount_43 h (fun σ1 h => ?_)
            refine zj_aload_n E dX12_takeCount_46 rfl 0 rfl ?_
            refine zj_aload_n E dX12_takeCount_47 rfl 0 rfl ?_
            refine zj_iload_n E dX12_takeCount_48 rfl 1 rfl ?_
            obtain ⟨hk, h⟩ := oA_some h
            obtain ⟨x5, hc, h⟩ := oB_some h
            refine zs_callV (As := [.int p1]) (rest := [.ref p0]) E zc11 zyX12_number zw_18_14 (kX12_number _ _ _ _ _ hc) rfl rfl hk rfl ⟨by decide, by decide⟩ ⟨by decide, by decide⟩ (Nat.le_of_ble_eq_true rfl) dX12_takeCount_49 rfl (show zJ Γ 3 0 0 σ1 52 [(0, .ref p0), (1, .int p1), (2, .int p2)] [.int x5, .ref p0] from ?_)
            refine zs_putI E zc11 25 (by decide) zw_18_1 rfl rfl dX12_takeCount_52 h (fun σ2 h => ?_)
            refine zj_aload_n E dX12_takeCount_55 rfl 0 rfl ?_
            refine zs_getR E zc11 4 (by decide) zw_6_5 rfl dX12_takeCount_56 h (fun a1 h => ?_)
            refine zj_bipush (v := 9) E dX12_takeCount_59 (by decide) ?_
            refine zj_aload_n E dX12_takeCount_61 rfl 0 rfl ?_
            refine zj_iload_n E dX12_takeCount_62 rfl 1 rfl ?_
            refine zj_iconst (v := 4) E dX12_takeCount_63 (by decide) ?_
            refine zj_iadd E dX12_takeCount_64 ?_
            obtain ⟨hk, h⟩ := oA_some h
            obtain ⟨x6, hc, h⟩ := oB_some h
            refine zs_callV (As := [.int (p1 + (4 : Int32))]) (rest := [.int 9, .ref a1]) E zc11 zyX12_number zw_18_14 (kX12_number _ _ _ _ _ hc) rfl rfl hk rfl ⟨by decide, by decide⟩ ⟨by decide, by decide⟩ (Nat.le_of_ble_eq_true rfl) dX12_takeCount_65 rfl (show zJ Γ 3 0 0 σ2 68 [(0, .ref p0), (1, .int p1), (2, .int p2)] [.int x6, .int 9, .ref a1] from ?_)
            refine zs_iast E dX12_takeCount_68 h (fun σ3 h => ?_)
            refine zj_iconst (v := 1) E dX12_takeCount_69 (by decide) ?_
            have e9 := Option.some.inj h
            subst e9
            exact (show zRet Γ cX12_takeCount 3 0 0 (some (.int 1)) σ3 from K) _ _ dX12_takeCount_70
          · refine zj_iconst (v := 0) E dX12_takeCount_39 (by decide) ?_
            have e9 := Option.some.inj h
            subst e9
            exact (show zRet Γ cX12_takeCount 3 0 0 (some (.int 0)) σ from K) _ _ dX12_takeCount_40
set_option maxRecDepth 100000 in
theorem kX12_takeCount (l : Launch) (D : va_G) (cs : zCs) (z0 : Nat) (σ : zS) {p0 : Nat} {p1 : Int32} {p2 : Int32} {r : Int32} {σ' : zS} (h : fX12_takeCount σ p0 p1 p2 = some (r, σ')) : zM l D cs z0 yX12_takeCount cX12_takeCount 3 (some .boolean) { frames := 2, cells := 0, slots := 0, locals := 42 } [.ref p0, .int p1, .int p2] σ (some (.int r)) σ' 0 0 := by
  obtain ⟨r0, s0, h0, h⟩ := oC_some h
  obtain ⟨hz, h⟩ := oA_some h
  cases h
  exact zM_of (by decide) rfl (Or.inr ⟨rfl, hz⟩) (Nat.le_of_ble_eq_true rfl) rfl (fun Γ e1 e2 e3 e4 E hN K => wX12_takeCount E σ _ _ _ h0 K)
/-! X12_isRegion -/
def gX12_isRegion (σ : zS) (p0 : Nat) (p1 : Int32) (p2 : Int32) (p3 : Int32) (p4 : Int32) (p5 : Int32) : Option Int32 := oGR σ 12 p0 4 (fun a1 => oLd σ 21 a1 (((6 : Int32) * p1) + (1 : Int32)) (fun x1 => oGR σ 12 p0 4 (fun a2 => oLd σ 21 a2 (((6 : Int32) * p1) + (2 : Int32)) (fun x2 => (if p2 ≤ 0 then some 0 else (if p3 ≤ 0 then some 0 else (if p4 < 0 then some 0 else (if p5 < 0 then some 0 else (if x1 < p2 then some 0 else (if x2 < p3 then some 0 else (if (x1 - p2) < p4 then some 0 else (if (x2 - p3) < p5 then some 0 else some 1))))))))))))
def fX12_isRegion (σ : zS) (p0 : Nat) (p1 : Int32) (p2 : Int32) (p3 : Int32) (p4 : Int32) (p5 : Int32) : Option Int32 := oB (gX12_isRegion σ p0 p1 p2 p3 p4 p5) (fun r => oA (r = 0 ∨ r = 1) (some r))
set_option maxRecDepth 100000 in
theorem wX12_isRegion {Γ : zG} (E : zE Γ cX12_isRegion RX12 8 { frames := 0, cells := 0, slots := 0, locals := 0 }) (σ : zS) (p0 : Nat) (p1 : Int32) (p2 : Int32) (p3 : Int32) (p4 : Int32) (p5 : Int32) {R : Int32} (h : gX12_isRegion σ p0 p1 p2 p3 p4 p5 = some R) (K : zRet Γ cX12_isRegion 8 0 0 (some (.int R)) σ) : zJ Γ 8 0 0 σ 0 [(0, .ref p0), (1, .int p1), (2, .int p2), (3, .int p3), (4, .int p4), (5, .int p5)] [] := by
  unfold gX12_isRegion at h
  refine zj_aload_n E dX12_isRegion_0 rfl 0 rfl ?_
  refine zs_getR E zc11 4 (by decide) zw_6_5 rfl dX12_isRegion_1 h (fun a1 h => ?_)
  refine zj_bipush (v := 6) E dX12_isRegion_4 (by decide) ?_
  refine zj_iload_n E dX12_isRegion_6 rfl 1 rfl ?_
  refine zj_imul E dX12_isRegion_7 ?_
  refine zj_iconst (v := 1) E dX12_isRegion_8 (by decide) ?_
  refine zj_iadd E dX12_isRegion_9 ?_
  refine zs_iald E dX12_isRegion_10 h (fun x1 h => ?_)
  refine zj_istore (lv2 := [(6, .int x1), (0, .ref p0), (1, .int p1), (2, .int p2), (3, .int p3), (4, .int p4), (5, .int p5)]) E dX12_isRegion_11 (by decide) rfl ?_
  refine zj_aload_n E dX12_isRegion_13 rfl 1 rfl ?_
  refine zs_getR E zc11 4 (by decide) zw_6_5 rfl dX12_isRegion_14 h (fun a2 h => ?_)
  refine zj_bipush (v := 6) E dX12_isRegion_17 (by decide) ?_
  refine zj_iload_n E dX12_isRegion_19 rfl 2 rfl ?_
  refine zj_imul E dX12_isRegion_20 ?_
  refine zj_iconst (v := 2) E dX12_isRegion_21 (by decide) ?_
  refine zj_iadd E dX12_isRegion_22 ?_
  refine zs_iald E dX12_isRegion_23 h (fun x2 h => ?_)
  refine zj_istore (lv2 := [(7, .int x2), (6, .int x1), (0, .ref p0), (1, .int p1), (2, .int p2), (3, .int p3), (4, .int p4), (5, .int p5)]) E dX12_isRegion_24 (by decide) rfl ?_
  refine zj_iload_n E dX12_isRegion_26 rfl 4 rfl ?_
  refine zj_if_le (tgt := 78) E dX12_isRegion_27 (by decide) h (fun h => ?_) (fun h => ?_)
  · refine zj_iconst (v := 0) E dX12_isRegion_78 (by decide) ?_
    have e9 := Option.some.inj h
    subst e9
    exact (show zRet Γ cX12_isRegion 8 0 0 (some (.int 0)) σ from K) _ _ dX12_isRegion_79
  · refine zj_iload_n E dX12_isRegion_30 rfl 5 rfl ?_
    refine zj_if_le (tgt := 78) E dX12_isRegion_31 (by decide) h (fun h => ?_) (fun h => ?_)
    · refine zj_iconst (v := 0) E dX12_isRegion_78 (by decide) ?_
      have e9 := Option.some.inj h
      subst e9
      exact (show zRet Γ cX12_isRegion 8 0 0 (some (.int 0)) σ from K) _ _ dX12_isRegion_79
    · refine zj_iload E dX12_isRegion_34 6 rfl ?_
      refine zj_if_lt (tgt := 78) E dX12_isRegion_36 (by decide) h (fun h => ?_) (fun h => ?_)
      · refine zj_iconst (v := 0) E dX12_isRegion_78 (by decide) ?_
        have e9 := Option.some.inj h
        subst e9
        exact (show zRet Γ cX12_isRegion 8 0 0 (some (.int 0)) σ from K) _ _ dX12_isRegion_79
      · refine zj_iload E dX12_isRegion_39 7 rfl ?_
        refine zj_if_lt (tgt := 78) E dX12_isRegion_41 (by decide) h (fun h => ?_) (fun h => ?_)
        · refine zj_iconst (v := 0) E dX12_isRegion_78 (by decide) ?_
          have e9 := Option.some.inj h
          subst e9
          exact (show zRet Γ cX12_isRegion 8 0 0 (some (.int 0)) σ from K) _ _ dX12_isRegion_79
        · refine zj_iload_n E dX12_isRegion_44 rfl 4 rfl ?_
          refine zj_iload E dX12_isRegion_45 1 rfl ?_
          refine zj_icmp_gt (tgt := 78) E dX12_isRegion_47 (by decide) h (fun h => ?_) (fun h => ?_)
          · refine zj_iconst (v := 0) E dX12_isRegion_78 (by decide) ?_
            have e9 := Option.some.inj h
            subst e9
            exact (show zRet Γ cX12_isRegion 8 0 0 (some (.int 0)) σ from K) _ _ dX12_isRegion_79
          · refine zj_iload_n E dX12_isRegion_50 rfl 5 rfl ?_
            refine zj_iload E dX12_isRegion_51 0 rfl ?_
            refine zj_icmp_gt (tgt := 78) E dX12_isRegion_53 (by decide) h (fun h => ?_) (fun h => ?_)
            · refine zj_iconst (v := 0) E dX12_isRegion_78 (by decide) ?_
              have e9 := Option.some.inj h
              subst e9
              exact (show zRet Γ cX12_isRegion 8 0 0 (some (.int 0)) σ from K) _ _ dX12_isRegion_79
            · refine zj_iload E dX12_isRegion_56 6 rfl ?_
              refine zj_iload E dX12_isRegion_58 1 rfl ?_
              refine zj_iload_n E dX12_isRegion_60 rfl 4 rfl ?_
              refine zj_isub E dX12_isRegion_61 ?_
              refine zj_icmp_gt (tgt := 78) E dX12_isRegion_62 (by decide) h (fun h => ?_) (fun h => ?_)
              · refine zj_iconst (v := 0) E dX12_isRegion_78 (by decide) ?_
                have e9 := Option.some.inj h
                subst e9
                exact (show zRet Γ cX12_isRegion 8 0 0 (some (.int 0)) σ from K) _ _ dX12_isRegion_79
              · refine zj_iload E dX12_isRegion_65 7 rfl ?_
                refine zj_iload E dX12_isRegion_67 0 rfl ?_
                refine zj_iload_n E dX12_isRegion_69 rfl 5 rfl ?_
                refine zj_isub E dX12_isRegion_70 ?_
                refine zj_icmp_gt (tgt := 78) E dX12_isRegion_71 (by decide) h (fun h => ?_) (fun h => ?_)
                · refine zj_iconst (v := 0) E dX12_isRegion_78 (by decide) ?_
                  have e9 := Option.some.inj h
                  subst e9
                  exact (show zRet Γ cX12_isRegion 8 0 0 (some (.int 0)) σ from K) _ _ dX12_isRegion_79
                · refine zj_iconst (v := 1) E dX12_isRegion_74 (by decide) ?_
                  refine zj_goto (tgt := 79) E dX12_isRegion_75 (by decide) ?_
                  have e9 := Option.some.inj h
                  subst e9
                  exact (show zRet Γ cX12_isRegion 8 0 0 (some (.int 1)) σ from K) _ _ dX12_isRegion_79
set_option maxRecDepth 100000 in
theorem kX12_isRegion (l : Launch) (D : va_G) (cs : zCs) (z0 : Nat) (σ : zS) {p0 : Nat} {p1 : Int32} {p2 : Int32} {p3 : Int32} {p4 : Int32} {p5 : Int32} {r : Int32} (h : fX12_isRegion σ p0 p1 p2 p3 p4 p5 = some r) : zM l D cs z0 yX12_isRegion cX12_isRegion 8 (some .boolean) { frames := 0, cells := 0, slots := 0, locals := 0 } [.ref p0, .int p1, .int p2, .int p3, .int p4, .int p5] σ (some (.int r)) σ 0 0 := by
  obtain ⟨r0, h0, h⟩ := oB_some h
  obtain ⟨hz, h⟩ := oA_some h
  cases h
  exact zM_of (by decide) rfl (Or.inr ⟨rfl, hz⟩) (Nat.le_of_ble_eq_true rfl) rfl (fun Γ e1 e2 e3 e4 E hN K => wX12_isRegion E σ _ _ _ _ _ _ h0 K)
/-! X12_setRegion -/
def fX12_setRegion (σ : zS) (p0 : Nat) (p1 : Int32) (p2 : Int32) (p3 : Int32) (p4 : Int32) (p5 : Int32) (p6 : Int32) (p7 : Int32) (p8 : Int32) : Option zS := oL (((48 : Int32) * p1) + ((6 : Int32) * p2)) (fun v1 => oGR σ 12 p0 5 (fun a1 => oSt σ 21 a1 v1 p3 (fun σ1 => oGR σ1 12 p0 5 (fun a2 => oSt σ1 21 a2 (v1 + (1 : Int32)) p4 (fun σ2 => oGR σ2 12 p0 5 (fun a3 => oSt σ2 21 a3 (v1 + (2 : Int32)) p5 (fun σ3 => oGR σ3 12 p0 5 (fun a4 => oSt σ3 21 a4 (v1 + (3 : Int32)) p6 (fun σ4 => oGR σ4 12 p0 5 (fun a5 => oSt σ4 21 a5 (v1 + (4 : Int32)) p7 (fun σ5 => oGR σ5 12 p0 5 (fun a6 => oSt σ5 21 a6 (v1 + (5 : Int32)) p8 (fun σ6 => some σ6)))))))))))))
set_option maxRecDepth 100000 in
theorem wX12_setRegion {Γ : zG} (E : zE Γ cX12_setRegion RX12 10 { frames := 0, cells := 0, slots := 0, locals := 0 }) (σ : zS) (p0 : Nat) (p1 : Int32) (p2 : Int32) (p3 : Int32) (p4 : Int32) (p5 : Int32) (p6 : Int32) (p7 : Int32) (p8 : Int32) {R : zS} (h : fX12_setRegion σ p0 p1 p2 p3 p4 p5 p6 p7 p8 = some R) (K : zRet Γ cX12_setRegion 10 0 0 (none) R) : zJ Γ 10 0 0 σ 0 [(0, .ref p0), (1, .int p1), (2, .int p2), (3, .int p3), (4, .int p4), (5, .int p5), (6, .int p6), (7, .int p7), (8, .int p8)] [] := by
  unfold fX12_setRegion at h
  refine zj_bipush (v := 48) E dX12_setRegion_0 (by decide) ?_
  refine zj_iload_n E dX12_setRegion_2 rfl 1 rfl ?_
  refine zj_imul E dX12_setRegion_3 ?_
  refine zj_bipush (v := 6) E dX12_setRegion_4 (by decide) ?_
  refine zj_iload_n E dX12_setRegion_6 rfl 2 rfl ?_
  refine zj_imul E dX12_setRegion_7 ?_
  refine zj_iadd E dX12_setRegion_8 ?_
  refine zs_istore (lv2 := fun v1 => [(9, .int v1), (0, .ref p0), (1, .int p1), (2, .int p2), (3, .int p3), (4, .int p4), (5, .int p5), (6, .int p6), (7, .int p7), (8, .int p8)]) E dX12_setRegion_9 (by decide) (fun _ => rfl) h (fun v1 h => ?_)
  refine zj_aload_n E dX12_setRegion_11 rfl 1 rfl ?_
  refine zs_getR E zc11 5 (by decide) zw_6_6 rfl dX12_setRegion_12 h (fun a1 h => ?_)
  refine zj_iload E dX12_setRegion_15 0 rfl ?_
  refine zj_iload_n E dX12_setRegion_17 rfl 4 rfl ?_
  refine zs_iast E dX12_setRegion_18 h (fun σ1 h => ?_)
  refine zj_aload_n E dX12_setRegion_19 rfl 1 rfl ?_
  refine zs_getR E zc11 5 (by decide) zw_6_6 rfl dX12_setRegion_20 h (fun a2 h => ?_)
  refine zj_iload E dX12_setRegion_23 0 rfl ?_
  refine zj_iconst (v := 1) E dX12_setRegion_25 (by decide) ?_
  refine zj_iadd E dX12_setRegion_26 ?_
  refine zj_iload E dX12_setRegion_27 5 rfl ?_
  refine zs_iast E dX12_setRegion_29 h (fun σ2 h => ?_)
  refine zj_aload_n E dX12_setRegion_30 rfl 1 rfl ?_
  refine zs_getR E zc11 5 (by decide) zw_6_6 rfl dX12_setRegion_31 h (fun a3 h => ?_)
  refine zj_iload E dX12_setRegion_34 0 rfl ?_
  refine zj_iconst (v := 2) E dX12_setRegion_36 (by decide) ?_
  refine zj_iadd E dX12_setRegion_37 ?_
  refine zj_iload E dX12_setRegion_38 6 rfl ?_
  refine zs_iast E dX12_setRegion_40 h (fun σ3 h => ?_)
  refine zj_aload_n E dX12_setRegion_41 rfl 1 rfl ?_
  refine zs_getR E zc11 5 (by decide) zw_6_6 rfl dX12_setRegion_42 h (fun a4 h => ?_)
  refine zj_iload E dX12_setRegion_45 0 rfl ?_
  refine zj_iconst (v := 3) E dX12_setRegion_47 (by decide) ?_
  refine zj_iadd E dX12_setRegion_48 ?_
  refine zj_iload E dX12_setRegion_49 7 rfl ?_
  refine zs_iast E dX12_setRegion_51 h (fun σ4 h => ?_)
  refine zj_aload_n E dX12_setRegion_52 rfl 1 rfl ?_
  refine zs_getR E zc11 5 (by decide) zw_6_6 rfl dX12_setRegion_53 h (fun a5 h => ?_)
  refine zj_iload E dX12_setRegion_56 0 rfl ?_
  refine zj_iconst (v := 4) E dX12_setRegion_58 (by decide) ?_
  refine zj_iadd E dX12_setRegion_59 ?_
  refine zj_iload E dX12_setRegion_60 8 rfl ?_
  refine zs_iast E dX12_setRegion_62 h (fun σ5 h => ?_)
  refine zj_aload_n E dX12_setRegion_63 rfl 1 rfl ?_
  refine zs_getR E zc11 5 (by decide) zw_6_6 rfl dX12_setRegion_64 h (fun a6 h => ?_)
  refine zj_iload E dX12_setRegion_67 0 rfl ?_
  refine zj_iconst (v := 5) E dX12_setRegion_69 (by decide) ?_
  refine zj_iadd E dX12_setRegion_70 ?_
  refine zj_iload E dX12_setRegion_71 9 rfl ?_
  refine zs_iast E dX12_setRegion_73 h (fun σ6 h => ?_)
  have e9 := Option.some.inj h
  subst e9
  exact (show zRet Γ cX12_setRegion 10 0 0 (none) σ6 from K) _ _ dX12_setRegion_74
set_option maxRecDepth 100000 in
theorem kX12_setRegion (l : Launch) (D : va_G) (cs : zCs) (z0 : Nat) (σ : zS) {p0 : Nat} {p1 : Int32} {p2 : Int32} {p3 : Int32} {p4 : Int32} {p5 : Int32} {p6 : Int32} {p7 : Int32} {p8 : Int32}  {σ' : zS} (h : fX12_setRegion σ p0 p1 p2 p3 p4 p5 p6 p7 p8 = some σ') : zM l D cs z0 yX12_setRegion cX12_setRegion 10 none { frames := 0, cells := 0, slots := 0, locals := 0 } [.ref p0, .int p1, .int p2, .int p3, .int p4, .int p5, .int p6, .int p7, .int p8] σ none σ' 0 0 := by
  exact zM_of (by decide) rfl rfl (Nat.le_of_ble_eq_true rfl) rfl (fun Γ e1 e2 e3 e4 E hN K => wX12_setRegion E σ _ _ _ _ _ _ _ _ _ h K)
/-! X12_takeControl -/
def fX12_takeControl_209 (σ : zS) (l0 : Nat) (s0 : Int32) (s1 : Nat) : Option (Int32 × zS) := oPZ σ 12 s1 29 s0 (fun σ2 => oGI σ2 12 l0 26 (fun x17 => oPI σ2 12 l0 26 (x17 + (1 : Int32)) (fun σ3 => oGI σ3 12 l0 24 (fun x18 => oPI σ3 12 l0 24 (x18 + (1 : Int32)) (fun σ4 => oGR σ4 12 l0 4 (fun a1 => oGI σ4 12 l0 24 (fun x19 => oSt σ4 21 a1 10 x19 (fun σ5 => oPZ σ5 12 l0 31 1 (fun σ6 => some (1, σ6))))))))))
set_option maxRecDepth 100000 in
theorem wX12_takeControl_209 {Γ : zG} (E : zE Γ cX12_takeControl RX12 9 { frames := 2, cells := 0, slots := 0, locals := 42 }) (σ : zS) (l0 : Nat) (s0 : Int32) (s1 : Nat) {R : (Int32 × zS)} (h : fX12_takeControl_209 σ l0 s0 s1 = some R) (K : zRet Γ cX12_takeControl 9 0 0 (some (.int R.1)) R.2) : zJ Γ 9 0 0 σ 209 [(0, .ref l0)] [.int s0, .ref s1] := by
  unfold fX12_takeControl_209 at h
  refine zs_putZ E zc11 29 (by decide) zw_17_17 rfl rfl dX12_takeControl_209 h (fun σ2 h => ?_)
  refine zj_aload_n E dX12_takeControl_212 rfl 0 rfl ?_
  refine zj_dup E dX12_takeControl_213 rfl ?_
  refine zs_getI E zc11 26 (by decide) zw_18_2 rfl dX12_takeControl_214 h (fun x17 h => ?_)
  refine zj_iconst (v := 1) E dX12_takeControl_217 (by decide) ?_
  refine zj_iadd E dX12_takeControl_218 ?_
  refine zs_putI E zc11 26 (by decide) zw_18_2 rfl rfl dX12_takeControl_219 h (fun σ3 h => ?_)
  refine zj_aload_n E dX12_takeControl_222 rfl 0 rfl ?_
  refine zj_dup E dX12_takeControl_223 rfl ?_
  refine zs_getI E zc11 24 (by decide) zw_18_0 rfl dX12_takeControl_224 h (fun x18 h => ?_)
  refine zj_iconst (v := 1) E dX12_takeControl_227 (by decide) ?_
  refine zj_iadd E dX12_takeControl_228 ?_
  refine zs_putI E zc11 24 (by decide) zw_18_0 rfl rfl dX12_takeControl_229 h (fun σ4 h => ?_)
  refine zj_aload_n E dX12_takeControl_232 rfl 0 rfl ?_
  refine zs_getR E zc11 4 (by decide) zw_6_5 rfl dX12_takeControl_233 h (fun a1 h => ?_)
  refine zj_bipush (v := 10) E dX12_takeControl_236 (by decide) ?_
  refine zj_aload_n E dX12_takeControl_238 rfl 0 rfl ?_
  refine zs_getI E zc11 24 (by decide) zw_18_0 rfl dX12_takeControl_239 h (fun x19 h => ?_)
  refine zs_iast E dX12_takeControl_242 h (fun σ5 h => ?_)
  refine zj_aload_n E dX12_takeControl_243 rfl 0 rfl ?_
  refine zj_iconst (v := 1) E dX12_takeControl_244 (by decide) ?_
  refine zs_putZ E zc11 31 (by decide) zw_18_6 rfl rfl dX12_takeControl_245 h (fun σ6 h => ?_)
  refine zj_iconst (v := 1) E dX12_takeControl_248 (by decide) ?_
  have e9 := Option.some.inj h
  subst e9
  exact (show zRet Γ cX12_takeControl 9 0 0 (some (.int 1)) σ6 from K) _ _ dX12_takeControl_249
def fX12_takeControl_204 (σ : zS) (l0 : Nat) (s0 : Nat) : Option (Int32 × zS) := fX12_takeControl_209 σ l0 1 s0
set_option maxRecDepth 100000 in
theorem wX12_takeControl_204 {Γ : zG} (E : zE Γ cX12_takeControl RX12 9 { frames := 2, cells := 0, slots := 0, locals := 42 }) (σ : zS) (l0 : Nat) (s0 : Nat) {R : (Int32 × zS)} (h : fX12_takeControl_204 σ l0 s0 = some R) (K : zRet Γ cX12_takeControl 9 0 0 (some (.int R.1)) R.2) : zJ Γ 9 0 0 σ 204 [(0, .ref l0)] [.ref s0] := by
  unfold fX12_takeControl_204 at h
  refine zj_iconst (v := 1) E dX12_takeControl_204 (by decide) ?_
  refine zj_goto (tgt := 209) E dX12_takeControl_205 (by decide) ?_
  refine zj_lv [0] rfl ?_
  exact wX12_takeControl_209 E _ _ _ _ h K
def fX12_takeControl_169 (σ : zS) (l0 : Nat) (l3 : Int32) (l4 : Int32) (l5 : Int32) (l6 : Int32) (l7 : Int32) (l8 : Int32) : Option (Int32 × zS) := oGI σ 12 l0 24 (fun x15 => oA (zk σ l0 = 12) (oB (fX12_setRegion σ l0 1 x15 l3 l4 l5 l6 l7 l8) (fun σ1 => oGI σ1 12 l0 29 (fun x16 => (if x16 = 0 then oGI σ1 12 l0 27 (fun x20 => (if x20 = 0 then fX12_takeControl_204 σ1 l0 l0 else fX12_takeControl_209 σ1 l0 0 l0)) else fX12_takeControl_204 σ1 l0 l0)))))
set_option maxRecDepth 100000 in
theorem wX12_takeControl_169 {Γ : zG} (E : zE Γ cX12_takeControl RX12 9 { frames := 2, cells := 0, slots := 0, locals := 42 }) (σ : zS) (l0 : Nat) (l3 : Int32) (l4 : Int32) (l5 : Int32) (l6 : Int32) (l7 : Int32) (l8 : Int32) {R : (Int32 × zS)} (h : fX12_takeControl_169 σ l0 l3 l4 l5 l6 l7 l8 = some R) (K : zRet Γ cX12_takeControl 9 0 0 (some (.int R.1)) R.2) : zJ Γ 9 0 0 σ 169 [(0, .ref l0), (3, .int l3), (4, .int l4), (5, .int l5), (6, .int l6), (7, .int l7), (8, .int l8)] [] := by
  unfold fX12_takeControl_169 at h
  refine zj_aload_n E dX12_takeControl_169 rfl 0 rfl ?_
  refine zj_iconst (v := 1) E dX12_takeControl_170 (by decide) ?_
  refine zj_aload_n E dX12_takeControl_171 rfl 0 rfl ?_
  refine zs_getI E zc11 24 (by decide) zw_18_0 rfl dX12_takeControl_172 h (fun x15 h => ?_)
  refine zj_iload_n E dX12_takeControl_175 rfl 1 rfl ?_
  refine zj_iload E dX12_takeControl_176 2 rfl ?_
  refine zj_iload E dX12_takeControl_178 3 rfl ?_
  refine zj_iload E dX12_takeControl_180 4 rfl ?_
  refine zj_iload E dX12_takeControl_182 5 rfl ?_
  refine zj_iload E dX12_takeControl_184 6 rfl ?_
  obtain ⟨hk, h⟩ := oA_some h
  obtain ⟨σ1, hc, h⟩ := oB_some h
  refine zs_callV (As := [.int 1, .int x15, .int l3, .int l4, .int l5, .int l6, .int l7, .int l8]) (rest := []) E zc11 zyX12_setRegion zw_23_12 (kX12_setRegion _ _ _ _ _ hc) rfl rfl hk rfl ⟨by decide, by decide⟩ ⟨by decide, by decide⟩ (Nat.le_of_ble_eq_true rfl) dX12_takeControl_186 rfl (show zJ Γ 9 0 0 σ1 189 [(0, .ref l0), (3, .int l3), (4, .int l4), (5, .int l5), (6, .int l6), (7, .int l7), (8, .int l8)] [] from ?_)
  refine zj_aload_n E dX12_takeControl_189 rfl 0 rfl ?_
  refine zj_aload_n E dX12_takeControl_190 rfl 0 rfl ?_
  refine zs_getI E zc11 29 (by decide) zw_17_17 rfl dX12_takeControl_191 h (fun x16 h => ?_)
  refine zj_if_ne (tgt := 204) E dX12_takeControl_194 (by decide) h (fun h => ?_) (fun h => ?_)
  · refine zj_lv [0] rfl ?_
    exact wX12_takeControl_204 E _ _ _ h K
  · refine zj_aload_n E dX12_takeControl_197 rfl 0 rfl ?_
    refine zs_getI E zc11 27 (by decide) zw_18_3 rfl dX12_takeControl_198 h (fun x20 h => ?_)
    refine zj_if_ne (tgt := 208) E dX12_takeControl_201 (by decide) h (fun h => ?_) (fun h => ?_)
    · refine zj_iconst (v := 0) E dX12_takeControl_208 (by decide) ?_
      refine zj_lv [0] rfl ?_
      exact wX12_takeControl_209 E _ _ _ _ h K
    · refine zj_lv [0] rfl ?_
      exact wX12_takeControl_204 E _ _ _ h K
def fX12_takeControl_38 (σ : zS) (l0 : Nat) (l1 : Int32) : Option (Int32 × zS) := oA (zk σ l0 = 12) (oB (fX12_number σ l0 l1) (fun x5 => oGI σ 12 l0 26 (fun x6 => (if x5 = x6 then oA (zk σ l0 = 12) (oB (fX12_number σ l0 (l1 + (4 : Int32))) (fun x7 => oA (zk σ l0 = 12) (oB (fX12_number σ l0 (l1 + (8 : Int32))) (fun x8 => oA (zk σ l0 = 12) (oB (fX12_number σ l0 (l1 + (12 : Int32))) (fun x9 => oA (zk σ l0 = 12) (oB (fX12_number σ l0 (l1 + (16 : Int32))) (fun x10 => oA (zk σ l0 = 12) (oB (fX12_byteAt σ l0 (l1 + (24 : Int32))) (fun x11 => oA (zk σ l0 = 12) (oB (fX12_byteAt σ l0 (l1 + (25 : Int32))) (fun x12 => oA (zk σ l0 = 12) (oB (fX12_isRegion σ l0 1 x7 x8 x9 x10) (fun x13 => (if x13 = 0 then some (0, σ) else (if (2 : Int32) < x11 then some (0, σ) else (if (1 : Int32) < x12 then some (0, σ) else oGI σ 12 l0 27 (fun x14 => (if x14 = 0 then oGR σ 12 l0 4 (fun a2 => oLd σ 21 a2 7 (fun x21 => (if x7 = x21 then oGR σ 12 l0 4 (fun a3 => oLd σ 21 a3 8 (fun x22 => (if x8 = x22 then fX12_takeControl_169 σ l0 x7 x8 x9 x10 x11 x12 else some (0, σ)))) else some (0, σ)))) else fX12_takeControl_169 σ l0 x7 x8 x9 x10 x11 x12))))))))))))))))))) else some (0, σ)))))
set_option maxRecDepth 100000 in
theorem wX12_takeControl_38 {Γ : zG} (E : zE Γ cX12_takeControl RX12 9 { frames := 2, cells := 0, slots := 0, locals := 42 }) (σ : zS) (l0 : Nat) (l1 : Int32) {R : (Int32 × zS)} (h : fX12_takeControl_38 σ l0 l1 = some R) (K : zRet Γ cX12_takeControl 9 0 0 (some (.int R.1)) R.2) : zJ Γ 9 0 0 σ 38 [(0, .ref l0), (1, .int l1)] [] := by
  unfold fX12_takeControl_38 at h
  refine zj_aload_n E dX12_takeControl_38 rfl 0 rfl ?_
  refine zj_iload_n E dX12_takeControl_39 rfl 1 rfl ?_
  obtain ⟨hk, h⟩ := oA_some h
  obtain ⟨x5, hc, h⟩ := oB_some h
  refine zs_callV (As := [.int l1]) (rest := []) E zc11 zyX12_number zw_18_14 (kX12_number _ _ _ _ _ hc) rfl rfl hk rfl ⟨by decide, by decide⟩ ⟨by decide, by decide⟩ (Nat.le_of_ble_eq_true rfl) dX12_takeControl_40 rfl (show zJ Γ 9 0 0 σ 43 [(0, .ref l0), (1, .int l1)] [.int x5] from ?_)
  refine zj_aload_n E dX12_takeControl_43 rfl 0 rfl ?_
  refine zs_getI E zc11 26 (by decide) zw_18_2 rfl dX12_takeControl_44 h (fun x6 h => ?_)
  refine zj_icmp_eq (tgt := 52) E dX12_takeControl_47 (by decide) h (fun h => ?_) (fun h => ?_)
  · refine zj_aload_n E dX12_takeControl_52 rfl 0 rfl ?_
    refine zj_iload_n E dX12_takeControl_53 rfl 1 rfl ?_
    refine zj_iconst (v := 4) E dX12_takeControl_54 (by decide) ?_
    refine zj_iadd E dX12_takeControl_55 ?_
    obtain ⟨hk, h⟩ := oA_some h
    obtain ⟨x7, hc, h⟩ := oB_some h
    refine zs_callV (As := [.int (l1 + (4 : Int32))]) (rest := []) E zc11 zyX12_number zw_18_14 (kX12_number _ _ _ _ _ hc) rfl rfl hk rfl ⟨by decide, by decide⟩ ⟨by decide, by decide⟩ (Nat.le_of_ble_eq_true rfl) dX12_takeControl_56 rfl (show zJ Γ 9 0 0 σ 59 [(0, .ref l0), (1, .int l1)] [.int x7] from ?_)
    refine zj_istore_n (lv2 := [(3, .int x7), (0, .ref l0), (1, .int l1)]) E dX12_takeControl_59 rfl (by decide) rfl ?_
    refine zj_aload_n E dX12_takeControl_60 rfl 1 rfl ?_
    refine zj_iload_n E dX12_takeControl_61 rfl 2 rfl ?_
    refine zj_bipush (v := 8) E dX12_takeControl_62 (by decide) ?_
    refine zj_iadd E dX12_takeControl_64 ?_
    obtain ⟨hk, h⟩ := oA_some h
    obtain ⟨x8, hc, h⟩ := oB_some h
    refine zs_callV (As := [.int (l1 + (8 : Int32))]) (rest := []) E zc11 zyX12_number zw_18_14 (kX12_number _ _ _ _ _ hc) rfl rfl hk rfl ⟨by decide, by decide⟩ ⟨by decide, by decide⟩ (Nat.le_of_ble_eq_true rfl) dX12_takeControl_65 rfl (show zJ Γ 9 0 0 σ 68 [(3, .int x7), (0, .ref l0), (1, .int l1)] [.int x8] from ?_)
    refine zj_istore (lv2 := [(4, .int x8), (3, .int x7), (0, .ref l0), (1, .int l1)]) E dX12_takeControl_68 (by decide) rfl ?_
    refine zj_aload_n E dX12_takeControl_70 rfl 2 rfl ?_
    refine zj_iload_n E dX12_takeControl_71 rfl 3 rfl ?_
    refine zj_bipush (v := 12) E dX12_takeControl_72 (by decide) ?_
    refine zj_iadd E dX12_takeControl_74 ?_
    obtain ⟨hk, h⟩ := oA_some h
    obtain ⟨x9, hc, h⟩ := oB_some h
    refine zs_callV (As := [.int (l1 + (12 : Int32))]) (rest := []) E zc11 zyX12_number zw_18_14 (kX12_number _ _ _ _ _ hc) rfl rfl hk rfl ⟨by decide, by decide⟩ ⟨by decide, by decide⟩ (Nat.le_of_ble_eq_true rfl) dX12_takeControl_75 rfl (show zJ Γ 9 0 0 σ 78 [(4, .int x8), (3, .int x7), (0, .ref l0), (1, .int l1)] [.int x9] from ?_)
    refine zj_istore (lv2 := [(5, .int x9), (4, .int x8), (3, .int x7), (0, .ref l0), (1, .int l1)]) E dX12_takeControl_78 (by decide) rfl ?_
    refine zj_aload_n E dX12_takeControl_80 rfl 3 rfl ?_
    refine zj_iload_n E dX12_takeControl_81 rfl 4 rfl ?_
    refine zj_bipush (v := 16) E dX12_takeControl_82 (by decide) ?_
    refine zj_iadd E dX12_takeControl_84 ?_
    obtain ⟨hk, h⟩ := oA_some h
    obtain ⟨x10, hc, h⟩ := oB_some h
    refine zs_callV (As := [.int (l1 + (16 : Int32))]) (rest := []) E zc11 zyX12_number zw_18_14 (kX12_number _ _ _ _ _ hc) rfl rfl hk rfl ⟨by decide, by decide⟩ ⟨by decide, by decide⟩ (Nat.le_of_ble_eq_true rfl) dX12_takeControl_85 rfl (show zJ Γ 9 0 0 σ 88 [(5, .int x9), (4, .int x8), (3, .int x7), (0, .ref l0), (1, .int l1)] [.int x10] from ?_)
    refine zj_istore (lv2 := [(6, .int x10), (5, .int x9), (4, .int x8), (3, .int x7), (0, .ref l0), (1, .int l1)]) E dX12_takeControl_88 (by decide) rfl ?_
    refine zj_aload_n E dX12_takeControl_90 rfl 4 rfl ?_
    refine zj_iload_n E dX12_takeControl_91 rfl 5 rfl ?_
    refine zj_bipush (v := 24) E dX12_takeControl_92 (by decide) ?_
    refine zj_iadd E dX12_takeControl_94 ?_
    obtain ⟨hk, h⟩ := oA_some h
    obtain ⟨x11, hc, h⟩ := oB_some h
    refine zs_callV (As := [.int (l1 + (24 : Int32))]) (rest := []) E zc11 zyX12_byteAt zw_18_7 (kX12_byteAt _ _ _ _ _ hc) rfl rfl hk rfl ⟨by decide, by decide⟩ ⟨by decide, by decide⟩ (Nat.le_of_ble_eq_true rfl) dX12_takeControl_95 rfl (show zJ Γ 9 0 0 σ 98 [(6, .int x10), (5, .int x9), (4, .int x8), (3, .int x7), (0, .ref l0), (1, .int l1)] [.int x11] from ?_)
    refine zj_istore (lv2 := [(7, .int x11), (6, .int x10), (5, .int x9), (4, .int x8), (3, .int x7), (0, .ref l0), (1, .int l1)]) E dX12_takeControl_98 (by decide) rfl ?_
    refine zj_aload_n E dX12_takeControl_100 rfl 5 rfl ?_
    refine zj_iload_n E dX12_takeControl_101 rfl 6 rfl ?_
    refine zj_bipush (v := 25) E dX12_takeControl_102 (by decide) ?_
    refine zj_iadd E dX12_takeControl_104 ?_
    obtain ⟨hk, h⟩ := oA_some h
    obtain ⟨x12, hc, h⟩ := oB_some h
    refine zs_callV (As := [.int (l1 + (25 : Int32))]) (rest := []) E zc11 zyX12_byteAt zw_18_7 (kX12_byteAt _ _ _ _ _ hc) rfl rfl hk rfl ⟨by decide, by decide⟩ ⟨by decide, by decide⟩ (Nat.le_of_ble_eq_true rfl) dX12_takeControl_105 rfl (show zJ Γ 9 0 0 σ 108 [(7, .int x11), (6, .int x10), (5, .int x9), (4, .int x8), (3, .int x7), (0, .ref l0), (1, .int l1)] [.int x12] from ?_)
    refine zj_istore (lv2 := [(8, .int x12), (7, .int x11), (6, .int x10), (5, .int x9), (4, .int x8), (3, .int x7), (0, .ref l0), (1, .int l1)]) E dX12_takeControl_108 (by decide) rfl ?_
    refine zj_aload_n E dX12_takeControl_110 rfl 6 rfl ?_
    refine zj_iconst (v := 1) E dX12_takeControl_111 (by decide) ?_
    refine zj_iload_n E dX12_takeControl_112 rfl 5 rfl ?_
    refine zj_iload E dX12_takeControl_113 4 rfl ?_
    refine zj_iload E dX12_takeControl_115 3 rfl ?_
    refine zj_iload E dX12_takeControl_117 2 rfl ?_
    obtain ⟨hk, h⟩ := oA_some h
    obtain ⟨x13, hc, h⟩ := oB_some h
    refine zs_callV (As := [.int 1, .int x7, .int x8, .int x9, .int x10]) (rest := []) E zc11 zyX12_isRegion zw_23_8 (kX12_isRegion _ _ _ _ _ hc) rfl rfl hk rfl ⟨by decide, by decide⟩ ⟨by decide, by decide⟩ (Nat.le_of_ble_eq_true rfl) dX12_takeControl_119 rfl (show zJ Γ 9 0 0 σ 122 [(8, .int x12), (7, .int x11), (6, .int x10), (5, .int x9), (4, .int x8), (3, .int x7), (0, .ref l0), (1, .int l1)] [.int x13] from ?_)
    refine zj_if_eq (tgt := 167) E dX12_takeControl_122 (by decide) h (fun h => ?_) (fun h => ?_)
    · refine zj_iconst (v := 0) E dX12_takeControl_167 (by decide) ?_
      have e9 := Option.some.inj h
      subst e9
      exact (show zRet Γ cX12_takeControl 9 0 0 (some (.int 0)) σ from K) _ _ dX12_takeControl_168
    · refine zj_iload E dX12_takeControl_125 1 rfl ?_
      refine zj_iconst (v := 2) E dX12_takeControl_127 (by decide) ?_
      refine zj_icmp_gt (tgt := 167) E dX12_takeControl_128 (by decide) h (fun h => ?_) (fun h => ?_)
      · refine zj_iconst (v := 0) E dX12_takeControl_167 (by decide) ?_
        have e9 := Option.some.inj h
        subst e9
        exact (show zRet Γ cX12_takeControl 9 0 0 (some (.int 0)) σ from K) _ _ dX12_takeControl_168
      · refine zj_iload E dX12_takeControl_131 0 rfl ?_
        refine zj_iconst (v := 1) E dX12_takeControl_133 (by decide) ?_
        refine zj_icmp_gt (tgt := 167) E dX12_takeControl_134 (by decide) h (fun h => ?_) (fun h => ?_)
        · refine zj_iconst (v := 0) E dX12_takeControl_167 (by decide) ?_
          have e9 := Option.some.inj h
          subst e9
          exact (show zRet Γ cX12_takeControl 9 0 0 (some (.int 0)) σ from K) _ _ dX12_takeControl_168
        · refine zj_aload_n E dX12_takeControl_137 rfl 6 rfl ?_
          refine zs_getI E zc11 27 (by decide) zw_18_3 rfl dX12_takeControl_138 h (fun x14 h => ?_)
          refine zj_if_ne (tgt := 169) E dX12_takeControl_141 (by decide) h (fun h => ?_) (fun h => ?_)
          · refine zj_lv [6, 5, 4, 3, 2, 1, 0] rfl ?_
            exact wX12_takeControl_169 E _ _ _ _ _ _ _ _ h K
          · refine zj_iload_n E dX12_takeControl_144 rfl 5 rfl ?_
            refine zj_aload_n E dX12_takeControl_145 rfl 6 rfl ?_
            refine zs_getR E zc11 4 (by decide) zw_6_5 rfl dX12_takeControl_146 h (fun a2 h => ?_)
            refine zj_bipush (v := 7) E dX12_takeControl_149 (by decide) ?_
            refine zs_iald E dX12_takeControl_151 h (fun x21 h => ?_)
            refine zj_icmp_ne (tgt := 167) E dX12_takeControl_152 (by decide) h (fun h => ?_) (fun h => ?_)
            · refine zj_iconst (v := 0) E dX12_takeControl_167 (by decide) ?_
              have e9 := Option.some.inj h
              subst e9
              exact (show zRet Γ cX12_takeControl 9 0 0 (some (.int 0)) σ from K) _ _ dX12_takeControl_168
            · refine zj_iload E dX12_takeControl_155 4 rfl ?_
              refine zj_aload_n E dX12_takeControl_157 rfl 6 rfl ?_
              refine zs_getR E zc11 4 (by decide) zw_6_5 rfl dX12_takeControl_158 h (fun a3 h => ?_)
              refine zj_bipush (v := 8) E dX12_takeControl_161 (by decide) ?_
              refine zs_iald E dX12_takeControl_163 h (fun x22 h => ?_)
              refine zj_icmp_eq (tgt := 169) E dX12_takeControl_164 (by decide) h (fun h => ?_) (fun h => ?_)
              · refine zj_lv [6, 5, 4, 3, 2, 1, 0] rfl ?_
                exact wX12_takeControl_169 E _ _ _ _ _ _ _ _ h K
              · refine zj_iconst (v := 0) E dX12_takeControl_167 (by decide) ?_
                have e9 := Option.some.inj h
                subst e9
                exact (show zRet Γ cX12_takeControl 9 0 0 (some (.int 0)) σ from K) _ _ dX12_takeControl_168
  · refine zj_iconst (v := 0) E dX12_takeControl_50 (by decide) ?_
    have e9 := Option.some.inj h
    subst e9
    exact (show zRet Γ cX12_takeControl 9 0 0 (some (.int 0)) σ from K) _ _ dX12_takeControl_51
def gX12_takeControl (σ : zS) (p0 : Nat) (p1 : Int32) (p2 : Int32) : Option (Int32 × zS) := (if p2 = (26 : Int32) then oGI σ 12 p0 23 (fun x1 => (if x1 = 0 then some (0, σ) else oGI σ 12 p0 24 (fun x2 => oGI σ 12 p0 25 (fun x3 => (if x2 = x3 then some (0, σ) else oGI σ 12 p0 27 (fun x4 => (if x4 = 0 then oGI σ 12 p0 24 (fun x23 => (if 0 < x23 then some (0, σ) else fX12_takeControl_38 σ p0 p1)) else fX12_takeControl_38 σ p0 p1))))))) else some (0, σ))
def fX12_takeControl (σ : zS) (p0 : Nat) (p1 : Int32) (p2 : Int32) : Option (Int32 × zS) := oC (gX12_takeControl σ p0 p1 p2) (fun r s => oA (r = 0 ∨ r = 1) (some (r, s)))
set_option maxRecDepth 100000 in
theorem wX12_takeControl {Γ : zG} (E : zE Γ cX12_takeControl RX12 9 { frames := 2, cells := 0, slots := 0, locals := 42 }) (σ : zS) (p0 : Nat) (p1 : Int32) (p2 : Int32) {R : (Int32 × zS)} (h : gX12_takeControl σ p0 p1 p2 = some R) (K : zRet Γ cX12_takeControl 9 0 0 (some (.int R.1)) R.2) : zJ Γ 9 0 0 σ 0 [(0, .ref p0), (1, .int p1), (2, .int p2)] [] := by
  unfold gX12_takeControl at h
  refine zj_iload_n E dX12_takeControl_0 rfl 2 rfl ?_
  refine zj_bipush (v := 26) E dX12_takeControl_1 (by decide) ?_
  refine zj_icmp_ne (tgt := 50) E dX12_takeControl_3 (by decide) h (fun h => ?_) (fun h => ?_)
  · refine zj_iconst (v := 0) E dX12_takeControl_50 (by decide) ?_
    have e9 := Option.some.inj h
    subst e9
    exact (show zRet Γ cX12_takeControl 9 0 0 (some (.int 0)) σ from K) _ _ dX12_takeControl_51
  · refine zj_aload_n E dX12_takeControl_6 rfl 0 rfl ?_
    refine zs_getI E zc11 23 (by decide) zw_17_23 rfl dX12_takeControl_7 h (fun x1 h => ?_)
    refine zj_if_eq (tgt := 50) E dX12_takeControl_10 (by decide) h (fun h => ?_) (fun h => ?_)
    · refine zj_iconst (v := 0) E dX12_takeControl_50 (by decide) ?_
      have e9 := Option.some.inj h
      subst e9
      exact (show zRet Γ cX12_takeControl 9 0 0 (some (.int 0)) σ from K) _ _ dX12_takeControl_51
    · refine zj_aload_n E dX12_takeControl_13 rfl 0 rfl ?_
      refine zs_getI E zc11 24 (by decide) zw_18_0 rfl dX12_takeControl_14 h (fun x2 h => ?_)
      refine zj_aload_n E dX12_takeControl_17 rfl 0 rfl ?_
      refine zs_getI E zc11 25 (by decide) zw_18_1 rfl dX12_takeControl_18 h (fun x3 h => ?_)
      refine zj_icmp_eq (tgt := 50) E dX12_takeControl_21 (by decide) h (fun h => ?_) (fun h => ?_)
      · refine zj_iconst (v := 0) E dX12_takeControl_50 (by decide) ?_
        have e9 := Option.some.inj h
        subst e9
        exact (show zRet Γ cX12_takeControl 9 0 0 (some (.int 0)) σ from K) _ _ dX12_takeControl_51
      · refine zj_aload_n E dX12_takeControl_24 rfl 0 rfl ?_
        refine zs_getI E zc11 27 (by decide) zw_18_3 rfl dX12_takeControl_25 h (fun x4 h => ?_)
        refine zj_if_ne (tgt := 38) E dX12_takeControl_28 (by decide) h (fun h => ?_) (fun h => ?_)
        · refine zj_lv [0, 1] rfl ?_
          exact wX12_takeControl_38 E _ _ _ h K
        · refine zj_aload_n E dX12_takeControl_31 rfl 0 rfl ?_
          refine zs_getI E zc11 24 (by decide) zw_18_0 rfl dX12_takeControl_32 h (fun x23 h => ?_)
          refine zj_if_gt (tgt := 50) E dX12_takeControl_35 (by decide) h (fun h => ?_) (fun h => ?_)
          · refine zj_iconst (v := 0) E dX12_takeControl_50 (by decide) ?_
            have e9 := Option.some.inj h
            subst e9
            exact (show zRet Γ cX12_takeControl 9 0 0 (some (.int 0)) σ from K) _ _ dX12_takeControl_51
          · refine zj_lv [0, 1] rfl ?_
            exact wX12_takeControl_38 E _ _ _ h K
set_option maxRecDepth 100000 in
theorem kX12_takeControl (l : Launch) (D : va_G) (cs : zCs) (z0 : Nat) (σ : zS) {p0 : Nat} {p1 : Int32} {p2 : Int32} {r : Int32} {σ' : zS} (h : fX12_takeControl σ p0 p1 p2 = some (r, σ')) : zM l D cs z0 yX12_takeControl cX12_takeControl 9 (some .boolean) { frames := 2, cells := 0, slots := 0, locals := 42 } [.ref p0, .int p1, .int p2] σ (some (.int r)) σ' 0 0 := by
  obtain ⟨r0, s0, h0, h⟩ := oC_some h
  obtain ⟨hz, h⟩ := oA_some h
  cases h
  exact zM_of (by decide) rfl (Or.inr ⟨rfl, hz⟩) (Nat.le_of_ble_eq_true rfl) rfl (fun Γ e1 e2 e3 e4 E hN K => wX12_takeControl E σ _ _ _ h0 K)
/-! X12_finishPicture -/
def fX12_finishPicture_66 (σ : zS) (l0 : Nat) (l1 : Int32) (l2 : Int32) (s0 : Int32) : Option (Int32 × zS) := oA (zk σ l0 = 12) (oC (fX12_unfilter σ l0 l2 s0 ((256 : Int32) * ((9 : Int32) + l1))) (fun x5 σ3 => (if x5 = 0 then some (6, σ3) else some (0, σ3))))
set_option maxRecDepth 100000 in
theorem wX12_finishPicture_66 {Γ : zG} (E : zE Γ cX12_finishPicture RX12 4 { frames := 6, cells := 0, slots := 0, locals := 153 }) (σ : zS) (l0 : Nat) (l1 : Int32) (l2 : Int32) (s0 : Int32) {R : (Int32 × zS)} (h : fX12_finishPicture_66 σ l0 l1 l2 s0 = some R) (K : zRet Γ cX12_finishPicture 4 0 0 (some (.int R.1)) R.2) : zJ Γ 4 0 0 σ 66 [(0, .ref l0), (1, .int l1), (2, .int l2)] [.int s0] := by
  unfold fX12_finishPicture_66 at h
  refine zj_istore_n (lv2 := [(3, .int s0), (0, .ref l0), (1, .int l1), (2, .int l2)]) E dX12_finishPicture_66 rfl (by decide) rfl ?_
  refine zj_aload_n E dX12_finishPicture_67 rfl 1 rfl ?_
  refine zj_iload_n E dX12_finishPicture_68 rfl 3 rfl ?_
  refine zj_iload_n E dX12_finishPicture_69 rfl 0 rfl ?_
  refine zj_sipush (v := 256) E dX12_finishPicture_70 (by decide) ?_
  refine zj_bipush (v := 9) E dX12_finishPicture_73 (by decide) ?_
  refine zj_iload_n E dX12_finishPicture_75 rfl 2 rfl ?_
  refine zj_iadd E dX12_finishPicture_76 ?_
  refine zj_imul E dX12_finishPicture_77 ?_
  obtain ⟨hk, h⟩ := oA_some h
  obtain ⟨x5, σ3, hc, h⟩ := oC_some h
  refine zs_callV (As := [.int l2, .int s0, .int ((256 : Int32) * ((9 : Int32) + l1))]) (rest := []) E zc11 zyX12_unfilter zw_22_5 (kX12_unfilter _ _ _ _ _ hc) rfl rfl hk rfl ⟨by decide, by decide⟩ ⟨by decide, by decide⟩ (Nat.le_of_ble_eq_true rfl) dX12_finishPicture_78 rfl (show zJ Γ 4 0 0 σ3 81 [(3, .int s0), (0, .ref l0), (1, .int l1), (2, .int l2)] [.int x5] from ?_)
  refine zj_if_eq (tgt := 88) E dX12_finishPicture_81 (by decide) h (fun h => ?_) (fun h => ?_)
  · refine zj_bipush (v := 6) E dX12_finishPicture_88 (by decide) ?_
    have e9 := Option.some.inj h
    subst e9
    exact (show zRet Γ cX12_finishPicture 4 0 0 (some (.int 6)) σ3 from K) _ _ dX12_finishPicture_90
  · refine zj_iconst (v := 0) E dX12_finishPicture_84 (by decide) ?_
    refine zj_goto (tgt := 90) E dX12_finishPicture_85 (by decide) ?_
    have e9 := Option.some.inj h
    subst e9
    exact (show zRet Γ cX12_finishPicture 4 0 0 (some (.int 0)) σ3 from K) _ _ dX12_finishPicture_90
def fX12_finishPicture_42 (σ : zS) (l0 : Nat) (l1 : Int32) (s0 : Int32) : Option (Int32 × zS) := (if l1 = (8 : Int32) then oGR σ 12 l0 4 (fun a1 => oLd σ 21 a1 8 (fun x6 => fX12_finishPicture_66 σ l0 l1 s0 x6)) else oA (zk σ l0 = 12) (oB (fX12_region σ l0 1 l1 1) (fun x4 => fX12_finishPicture_66 σ l0 l1 s0 x4)))
set_option maxRecDepth 100000 in
theorem wX12_finishPicture_42 {Γ : zG} (E : zE Γ cX12_finishPicture RX12 4 { frames := 6, cells := 0, slots := 0, locals := 153 }) (σ : zS) (l0 : Nat) (l1 : Int32) (s0 : Int32) {R : (Int32 × zS)} (h : fX12_finishPicture_42 σ l0 l1 s0 = some R) (K : zRet Γ cX12_finishPicture 4 0 0 (some (.int R.1)) R.2) : zJ Γ 4 0 0 σ 42 [(0, .ref l0), (1, .int l1)] [.int s0] := by
  unfold fX12_finishPicture_42 at h
  refine zj_istore_n (lv2 := [(2, .int s0), (0, .ref l0), (1, .int l1)]) E dX12_finishPicture_42 rfl (by decide) rfl ?_
  refine zj_iload_n E dX12_finishPicture_43 rfl 2 rfl ?_
  refine zj_bipush (v := 8) E dX12_finishPicture_44 (by decide) ?_
  refine zj_icmp_ne (tgt := 59) E dX12_finishPicture_46 (by decide) h (fun h => ?_) (fun h => ?_)
  · refine zj_aload_n E dX12_finishPicture_59 rfl 1 rfl ?_
    refine zj_iconst (v := 1) E dX12_finishPicture_60 (by decide) ?_
    refine zj_iload_n E dX12_finishPicture_61 rfl 2 rfl ?_
    refine zj_iconst (v := 1) E dX12_finishPicture_62 (by decide) ?_
    obtain ⟨hk, h⟩ := oA_some h
    obtain ⟨x4, hc, h⟩ := oB_some h
    refine zs_callV (As := [.int 1, .int l1, .int 1]) (rest := []) E zc11 zyX12_region zw_22_1 (kX12_region _ _ _ _ _ hc) rfl rfl hk rfl ⟨by decide, by decide⟩ ⟨by decide, by decide⟩ (Nat.le_of_ble_eq_true rfl) dX12_finishPicture_63 rfl (show zJ Γ 4 0 0 σ 66 [(2, .int s0), (0, .ref l0), (1, .int l1)] [.int x4] from ?_)
    refine zj_lv [1, 2, 0] rfl ?_
    exact wX12_finishPicture_66 E _ _ _ _ _ h K
  · refine zj_aload_n E dX12_finishPicture_49 rfl 1 rfl ?_
    refine zs_getR E zc11 4 (by decide) zw_6_5 rfl dX12_finishPicture_50 h (fun a1 h => ?_)
    refine zj_bipush (v := 8) E dX12_finishPicture_53 (by decide) ?_
    refine zs_iald E dX12_finishPicture_55 h (fun x6 h => ?_)
    refine zj_goto (tgt := 66) E dX12_finishPicture_56 (by decide) ?_
    refine zj_lv [1, 2, 0] rfl ?_
    exact wX12_finishPicture_66 E _ _ _ _ _ h K
def fX12_finishPicture (σ : zS) (p0 : Nat) : Option (Int32 × zS) := oGI σ 12 p0 30 (fun x1 => oPI σ 12 p0 30 (-1 : Int32) (fun σ1 => oA (zk σ1 p0 = 12) (oC (fX12_unpack σ1 p0) (fun x2 σ2 => (if x2 = 0 then some (5, σ2) else (if x1 = (8 : Int32) then oGR σ2 12 p0 4 (fun a2 => oLd σ2 21 a2 7 (fun x7 => fX12_finishPicture_42 σ2 p0 x1 x7)) else oA (zk σ2 p0 = 12) (oB (fX12_region σ2 p0 1 x1 0) (fun x3 => fX12_finishPicture_42 σ2 p0 x1 x3))))))))
set_option maxRecDepth 100000 in
theorem wX12_finishPicture {Γ : zG} (E : zE Γ cX12_finishPicture RX12 4 { frames := 6, cells := 0, slots := 0, locals := 153 }) (σ : zS) (p0 : Nat) {R : (Int32 × zS)} (h : fX12_finishPicture σ p0 = some R) (K : zRet Γ cX12_finishPicture 4 0 0 (some (.int R.1)) R.2) : zJ Γ 4 0 0 σ 0 [(0, .ref p0)] [] := by
  unfold fX12_finishPicture at h
  refine zj_aload_n E dX12_finishPicture_0 rfl 0 rfl ?_
  refine zs_getI E zc11 30 (by decide) zw_18_5 rfl dX12_finishPicture_1 h (fun x1 h => ?_)
  refine zj_istore_n (lv2 := [(1, .int x1), (0, .ref p0)]) E dX12_finishPicture_4 rfl (by decide) rfl ?_
  refine zj_aload_n E dX12_finishPicture_5 rfl 1 rfl ?_
  refine zj_iconst (v := (-1 : Int32)) E dX12_finishPicture_6 (by decide) ?_
  refine zs_putI E zc11 30 (by decide) zw_18_5 rfl rfl dX12_finishPicture_7 h (fun σ1 h => ?_)
  refine zj_aload_n E dX12_finishPicture_10 rfl 1 rfl ?_
  obtain ⟨hk, h⟩ := oA_some h
  obtain ⟨x2, σ2, hc, h⟩ := oC_some h
  refine zs_callV (As := []) (rest := []) E zc11 zyX12_unpack zw_19_6 (kX12_unpack _ _ _ _ _ hc) rfl rfl hk rfl ⟨by decide, by decide⟩ ⟨by decide, by decide⟩ (Nat.le_of_ble_eq_true rfl) dX12_finishPicture_11 rfl (show zJ Γ 4 0 0 σ2 14 [(1, .int x1), (0, .ref p0)] [.int x2] from ?_)
  refine zj_if_ne (tgt := 19) E dX12_finishPicture_14 (by decide) h (fun h => ?_) (fun h => ?_)
  · refine zj_iload_n E dX12_finishPicture_19 rfl 0 rfl ?_
    refine zj_bipush (v := 8) E dX12_finishPicture_20 (by decide) ?_
    refine zj_icmp_ne (tgt := 35) E dX12_finishPicture_22 (by decide) h (fun h => ?_) (fun h => ?_)
    · refine zj_aload_n E dX12_finishPicture_35 rfl 1 rfl ?_
      refine zj_iconst (v := 1) E dX12_finishPicture_36 (by decide) ?_
      refine zj_iload_n E dX12_finishPicture_37 rfl 0 rfl ?_
      refine zj_iconst (v := 0) E dX12_finishPicture_38 (by decide) ?_
      obtain ⟨hk, h⟩ := oA_some h
      obtain ⟨x3, hc, h⟩ := oB_some h
      refine zs_callV (As := [.int 1, .int x1, .int 0]) (rest := []) E zc11 zyX12_region zw_22_1 (kX12_region _ _ _ _ _ hc) rfl rfl hk rfl ⟨by decide, by decide⟩ ⟨by decide, by decide⟩ (Nat.le_of_ble_eq_true rfl) dX12_finishPicture_39 rfl (show zJ Γ 4 0 0 σ2 42 [(1, .int x1), (0, .ref p0)] [.int x3] from ?_)
      refine zj_lv [1, 0] rfl ?_
      exact wX12_finishPicture_42 E _ _ _ _ h K
    · refine zj_aload_n E dX12_finishPicture_25 rfl 1 rfl ?_
      refine zs_getR E zc11 4 (by decide) zw_6_5 rfl dX12_finishPicture_26 h (fun a2 h => ?_)
      refine zj_bipush (v := 7) E dX12_finishPicture_29 (by decide) ?_
      refine zs_iald E dX12_finishPicture_31 h (fun x7 h => ?_)
      refine zj_goto (tgt := 42) E dX12_finishPicture_32 (by decide) ?_
      refine zj_lv [1, 0] rfl ?_
      exact wX12_finishPicture_42 E _ _ _ _ h K
  · refine zj_iconst (v := 5) E dX12_finishPicture_17 (by decide) ?_
    have e9 := Option.some.inj h
    subst e9
    exact (show zRet Γ cX12_finishPicture 4 0 0 (some (.int 5)) σ2 from K) _ _ dX12_finishPicture_18
set_option maxRecDepth 100000 in
theorem kX12_finishPicture (l : Launch) (D : va_G) (cs : zCs) (z0 : Nat) (σ : zS) {p0 : Nat} {r : Int32} {σ' : zS} (h : fX12_finishPicture σ p0 = some (r, σ')) : zM l D cs z0 yX12_finishPicture cX12_finishPicture 4 (some .int) { frames := 6, cells := 0, slots := 0, locals := 153 } [.ref p0] σ (some (.int r)) σ' 0 0 := by
  exact zM_of (by decide) rfl (Or.inl rfl) (Nat.le_of_ble_eq_true rfl) rfl (fun Γ e1 e2 e3 e4 E hN K => wX12_finishPicture E σ _ h K)
/-! X12_takeChunk -/
def fX12_takeChunk_345 (σ : zS) (l0 : Nat) (l1 : Int32) (s0 : Int32) : Option (Int32 × zS) := (if s0 = 0 then some (0, σ) else oA (zk σ l0 = 12) (oB (fX12_byteAt σ l0 l1) (fun x8 => (if x8 < (97 : Int32) then some (0, σ) else some (1, σ)))))
set_option maxRecDepth 100000 in
theorem wX12_takeChunk_345 {Γ : zG} (E : zE Γ cX12_takeChunk RX12 7 { frames := 3, cells := 0, slots := 0, locals := 70 }) (σ : zS) (l0 : Nat) (l1 : Int32) (s0 : Int32) {R : (Int32 × zS)} (h : fX12_takeChunk_345 σ l0 l1 s0 = some R) (K : zRet Γ cX12_takeChunk 7 0 0 (some (.int R.1)) R.2) : zJ Γ 7 0 0 σ 345 [(0, .ref l0), (1, .int l1)] [.int s0] := by
  unfold fX12_takeChunk_345 at h
  refine zj_istore (lv2 := [(6, .int s0), (0, .ref l0), (1, .int l1)]) E dX12_takeChunk_345 (by decide) rfl ?_
  refine zj_iload E dX12_takeChunk_347 0 rfl ?_
  refine zj_if_eq (tgt := 366) E dX12_takeChunk_349 (by decide) h (fun h => ?_) (fun h => ?_)
  · refine zj_iconst (v := 0) E dX12_takeChunk_366 (by decide) ?_
    have e9 := Option.some.inj h
    subst e9
    exact (show zRet Γ cX12_takeChunk 7 0 0 (some (.int 0)) σ from K) _ _ dX12_takeChunk_367
  · refine zj_aload_n E dX12_takeChunk_352 rfl 1 rfl ?_
    refine zj_iload_n E dX12_takeChunk_353 rfl 2 rfl ?_
    obtain ⟨hk, h⟩ := oA_some h
    obtain ⟨x8, hc, h⟩ := oB_some h
    refine zs_callV (As := [.int l1]) (rest := []) E zc11 zyX12_byteAt zw_18_7 (kX12_byteAt _ _ _ _ _ hc) rfl rfl hk rfl ⟨by decide, by decide⟩ ⟨by decide, by decide⟩ (Nat.le_of_ble_eq_true rfl) dX12_takeChunk_354 rfl (show zJ Γ 7 0 0 σ 357 [(6, .int s0), (0, .ref l0), (1, .int l1)] [.int x8] from ?_)
    refine zj_bipush (v := 97) E dX12_takeChunk_357 (by decide) ?_
    refine zj_icmp_lt (tgt := 366) E dX12_takeChunk_359 (by decide) h (fun h => ?_) (fun h => ?_)
    · refine zj_iconst (v := 0) E dX12_takeChunk_366 (by decide) ?_
      have e9 := Option.some.inj h
      subst e9
      exact (show zRet Γ cX12_takeChunk 7 0 0 (some (.int 0)) σ from K) _ _ dX12_takeChunk_367
    · refine zj_iconst (v := 1) E dX12_takeChunk_362 (by decide) ?_
      refine zj_goto (tgt := 367) E dX12_takeChunk_363 (by decide) ?_
      have e9 := Option.some.inj h
      subst e9
      exact (show zRet Γ cX12_takeChunk 7 0 0 (some (.int 1)) σ from K) _ _ dX12_takeChunk_367
def fX12_takeChunk_344 (σ : zS) (l0 : Nat) (l1 : Int32) : Option (Int32 × zS) := fX12_takeChunk_345 σ l0 l1 0
set_option maxRecDepth 100000 in
theorem wX12_takeChunk_344 {Γ : zG} (E : zE Γ cX12_takeChunk RX12 7 { frames := 3, cells := 0, slots := 0, locals := 70 }) (σ : zS) (l0 : Nat) (l1 : Int32) {R : (Int32 × zS)} (h : fX12_takeChunk_344 σ l0 l1 = some R) (K : zRet Γ cX12_takeChunk 7 0 0 (some (.int R.1)) R.2) : zJ Γ 7 0 0 σ 344 [(0, .ref l0), (1, .int l1)] [] := by
  unfold fX12_takeChunk_344 at h
  refine zj_iconst (v := 0) E dX12_takeChunk_344 (by decide) ?_
  refine zj_lv [0, 1] rfl ?_
  exact wX12_takeChunk_345 E _ _ _ _ h K
def fX12_takeChunk_204 (σ : zS) (l0 : Nat) (l2 : Int32) (l3 : Int32) (s0 : Int32) (s1 : Nat) : Option (Int32 × zS) := oPI σ 12 s1 14 s0 (fun σ3 => oGI σ3 12 l0 24 (fun x22 => oPI σ3 12 l0 30 (x22 - (1 : Int32)) (fun σ4 => oPZ σ4 12 l0 31 0 (fun σ5 => oGI σ5 12 l0 26 (fun x23 => oPI σ5 12 l0 26 (x23 + (1 : Int32)) (fun σ6 => oA (zk σ6 l0 = 12) (oB (fX12_append σ6 l0 (l3 + (4 : Int32)) (l3 + l2)) (fun σ7 => some (1, σ7)))))))))
set_option maxRecDepth 100000 in
theorem wX12_takeChunk_204 {Γ : zG} (E : zE Γ cX12_takeChunk RX12 7 { frames := 3, cells := 0, slots := 0, locals := 70 }) (σ : zS) (l0 : Nat) (l2 : Int32) (l3 : Int32) (s0 : Int32) (s1 : Nat) {R : (Int32 × zS)} (h : fX12_takeChunk_204 σ l0 l2 l3 s0 s1 = some R) (K : zRet Γ cX12_takeChunk 7 0 0 (some (.int R.1)) R.2) : zJ Γ 7 0 0 σ 204 [(0, .ref l0), (2, .int l2), (3, .int l3)] [.int s0, .ref s1] := by
  unfold fX12_takeChunk_204 at h
  refine zs_putI E zc11 14 (by decide) zw_19_12 rfl rfl dX12_takeChunk_204 h (fun σ3 h => ?_)
  refine zj_aload_n E dX12_takeChunk_207 rfl 0 rfl ?_
  refine zj_aload_n E dX12_takeChunk_208 rfl 0 rfl ?_
  refine zs_getI E zc11 24 (by decide) zw_18_0 rfl dX12_takeChunk_209 h (fun x22 h => ?_)
  refine zj_iconst (v := 1) E dX12_takeChunk_212 (by decide) ?_
  refine zj_isub E dX12_takeChunk_213 ?_
  refine zs_putI E zc11 30 (by decide) zw_18_5 rfl rfl dX12_takeChunk_214 h (fun σ4 h => ?_)
  refine zj_aload_n E dX12_takeChunk_217 rfl 0 rfl ?_
  refine zj_iconst (v := 0) E dX12_takeChunk_218 (by decide) ?_
  refine zs_putZ E zc11 31 (by decide) zw_18_6 rfl rfl dX12_takeChunk_219 h (fun σ5 h => ?_)
  refine zj_aload_n E dX12_takeChunk_222 rfl 0 rfl ?_
  refine zj_dup E dX12_takeChunk_223 rfl ?_
  refine zs_getI E zc11 26 (by decide) zw_18_2 rfl dX12_takeChunk_224 h (fun x23 h => ?_)
  refine zj_iconst (v := 1) E dX12_takeChunk_227 (by decide) ?_
  refine zj_iadd E dX12_takeChunk_228 ?_
  refine zs_putI E zc11 26 (by decide) zw_18_2 rfl rfl dX12_takeChunk_229 h (fun σ6 h => ?_)
  refine zj_aload_n E dX12_takeChunk_232 rfl 0 rfl ?_
  refine zj_iload_n E dX12_takeChunk_233 rfl 2 rfl ?_
  refine zj_iconst (v := 4) E dX12_takeChunk_234 (by decide) ?_
  refine zj_iadd E dX12_takeChunk_235 ?_
  refine zj_iload_n E dX12_takeChunk_236 rfl 2 rfl ?_
  refine zj_iload_n E dX12_takeChunk_237 rfl 1 rfl ?_
  refine zj_iadd E dX12_takeChunk_238 ?_
  obtain ⟨hk, h⟩ := oA_some h
  obtain ⟨σ7, hc, h⟩ := oB_some h
  refine zs_callV (As := [.int (l3 + (4 : Int32)), .int (l3 + l2)]) (rest := []) E zc11 zyX12_append zw_22_20 (kX12_append _ _ _ _ _ hc) rfl rfl hk rfl ⟨by decide, by decide⟩ ⟨by decide, by decide⟩ (Nat.le_of_ble_eq_true rfl) dX12_takeChunk_239 rfl (show zJ Γ 7 0 0 σ7 242 [(0, .ref l0), (2, .int l2), (3, .int l3)] [] from ?_)
  refine zj_iconst (v := 1) E dX12_takeChunk_242 (by decide) ?_
  have e9 := Option.some.inj h
  subst e9
  exact (show zRet Γ cX12_takeChunk 7 0 0 (some (.int 1)) σ7 from K) _ _ dX12_takeChunk_243
def fX12_takeChunk_162 (σ : zS) (l0 : Nat) (l2 : Int32) (l3 : Int32) (s0 : Int32) : Option (Int32 × zS) := (if s0 = 0 then some (0, σ) else (if l2 < (4 : Int32) then some (0, σ) else oA (zk σ l0 = 12) (oB (fX12_number σ l0 l3) (fun x18 => oGI σ 12 l0 26 (fun x19 => (if x18 = x19 then oGI σ 12 l0 31 (fun x20 => (if x20 = 0 then oGI σ 12 l0 14 (fun x21 => fX12_takeChunk_204 σ l0 l2 l3 x21 l0) else fX12_takeChunk_204 σ l0 l2 l3 0 l0)) else some (0, σ)))))))
set_option maxRecDepth 100000 in
theorem wX12_takeChunk_162 {Γ : zG} (E : zE Γ cX12_takeChunk RX12 7 { frames := 3, cells := 0, slots := 0, locals := 70 }) (σ : zS) (l0 : Nat) (l2 : Int32) (l3 : Int32) (s0 : Int32) {R : (Int32 × zS)} (h : fX12_takeChunk_162 σ l0 l2 l3 s0 = some R) (K : zRet Γ cX12_takeChunk 7 0 0 (some (.int R.1)) R.2) : zJ Γ 7 0 0 σ 162 [(0, .ref l0), (2, .int l2), (3, .int l3)] [.int s0] := by
  unfold fX12_takeChunk_162 at h
  refine zj_istore (lv2 := [(6, .int s0), (0, .ref l0), (2, .int l2), (3, .int l3)]) E dX12_takeChunk_162 (by decide) rfl ?_
  refine zj_iload E dX12_takeChunk_164 0 rfl ?_
  refine zj_if_eq (tgt := 186) E dX12_takeChunk_166 (by decide) h (fun h => ?_) (fun h => ?_)
  · refine zj_iconst (v := 0) E dX12_takeChunk_186 (by decide) ?_
    have e9 := Option.some.inj h
    subst e9
    exact (show zRet Γ cX12_takeChunk 7 0 0 (some (.int 0)) σ from K) _ _ dX12_takeChunk_187
  · refine zj_iload_n E dX12_takeChunk_169 rfl 2 rfl ?_
    refine zj_iconst (v := 4) E dX12_takeChunk_170 (by decide) ?_
    refine zj_icmp_lt (tgt := 186) E dX12_takeChunk_171 (by decide) h (fun h => ?_) (fun h => ?_)
    · refine zj_iconst (v := 0) E dX12_takeChunk_186 (by decide) ?_
      have e9 := Option.some.inj h
      subst e9
      exact (show zRet Γ cX12_takeChunk 7 0 0 (some (.int 0)) σ from K) _ _ dX12_takeChunk_187
    · refine zj_aload_n E dX12_takeChunk_174 rfl 1 rfl ?_
      refine zj_iload_n E dX12_takeChunk_175 rfl 3 rfl ?_
      obtain ⟨hk, h⟩ := oA_some h
      obtain ⟨x18, hc, h⟩ := oB_some h
      refine zs_callV (As := [.int l3]) (rest := []) E zc11 zyX12_number zw_18_14 (kX12_number _ _ _ _ _ hc) rfl rfl hk rfl ⟨by decide, by decide⟩ ⟨by decide, by decide⟩ (Nat.le_of_ble_eq_true rfl) dX12_takeChunk_176 rfl (show zJ Γ 7 0 0 σ 179 [(6, .int s0), (0, .ref l0), (2, .int l2), (3, .int l3)] [.int x18] from ?_)
      refine zj_aload_n E dX12_takeChunk_179 rfl 1 rfl ?_
      refine zs_getI E zc11 26 (by decide) zw_18_2 rfl dX12_takeChunk_180 h (fun x19 h => ?_)
      refine zj_icmp_eq (tgt := 188) E dX12_takeChunk_183 (by decide) h (fun h => ?_) (fun h => ?_)
      · refine zj_aload_n E dX12_takeChunk_188 rfl 1 rfl ?_
        refine zj_aload_n E dX12_takeChunk_189 rfl 1 rfl ?_
        refine zs_getI E zc11 31 (by decide) zw_18_6 rfl dX12_takeChunk_190 h (fun x20 h => ?_)
        refine zj_if_eq (tgt := 200) E dX12_takeChunk_193 (by decide) h (fun h => ?_) (fun h => ?_)
        · refine zj_aload_n E dX12_takeChunk_200 rfl 1 rfl ?_
          refine zs_getI E zc11 14 (by decide) zw_19_12 rfl dX12_takeChunk_201 h (fun x21 h => ?_)
          refine zj_lv [1, 2, 3] rfl ?_
          exact wX12_takeChunk_204 E _ _ _ _ _ _ h K
        · refine zj_iconst (v := 0) E dX12_takeChunk_196 (by decide) ?_
          refine zj_goto (tgt := 204) E dX12_takeChunk_197 (by decide) ?_
          refine zj_lv [1, 2, 3] rfl ?_
          exact wX12_takeChunk_204 E _ _ _ _ _ _ h K
      · refine zj_iconst (v := 0) E dX12_takeChunk_186 (by decide) ?_
        have e9 := Option.some.inj h
        subst e9
        exact (show zRet Γ cX12_takeChunk 7 0 0 (some (.int 0)) σ from K) _ _ dX12_takeChunk_187
def fX12_takeChunk_157 (σ : zS) (l0 : Nat) (l2 : Int32) (l3 : Int32) : Option (Int32 × zS) := fX12_takeChunk_162 σ l0 l2 l3 1
set_option maxRecDepth 100000 in
theorem wX12_takeChunk_157 {Γ : zG} (E : zE Γ cX12_takeChunk RX12 7 { frames := 3, cells := 0, slots := 0, locals := 70 }) (σ : zS) (l0 : Nat) (l2 : Int32) (l3 : Int32) {R : (Int32 × zS)} (h : fX12_takeChunk_157 σ l0 l2 l3 = some R) (K : zRet Γ cX12_takeChunk 7 0 0 (some (.int R.1)) R.2) : zJ Γ 7 0 0 σ 157 [(0, .ref l0), (2, .int l2), (3, .int l3)] [] := by
  unfold fX12_takeChunk_157 at h
  refine zj_iconst (v := 1) E dX12_takeChunk_157 (by decide) ?_
  refine zj_goto (tgt := 162) E dX12_takeChunk_158 (by decide) ?_
  refine zj_lv [0, 1, 2] rfl ?_
  exact wX12_takeChunk_162 E _ _ _ _ _ h K
def fX12_takeChunk_161 (σ : zS) (l0 : Nat) (l2 : Int32) (l3 : Int32) : Option (Int32 × zS) := fX12_takeChunk_162 σ l0 l2 l3 0
set_option maxRecDepth 100000 in
theorem wX12_takeChunk_161 {Γ : zG} (E : zE Γ cX12_takeChunk RX12 7 { frames := 3, cells := 0, slots := 0, locals := 70 }) (σ : zS) (l0 : Nat) (l2 : Int32) (l3 : Int32) {R : (Int32 × zS)} (h : fX12_takeChunk_161 σ l0 l2 l3 = some R) (K : zRet Γ cX12_takeChunk 7 0 0 (some (.int R.1)) R.2) : zJ Γ 7 0 0 σ 161 [(0, .ref l0), (2, .int l2), (3, .int l3)] [] := by
  unfold fX12_takeChunk_161 at h
  refine zj_iconst (v := 0) E dX12_takeChunk_161 (by decide) ?_
  refine zj_lv [0, 1, 2] rfl ?_
  exact wX12_takeChunk_162 E _ _ _ _ _ h K
def fX12_takeChunk_100 (σ : zS) (l0 : Nat) (l2 : Int32) (l3 : Int32) (s0 : Int32) (s1 : Nat) : Option (Int32 × zS) := oPI σ 12 s1 14 s0 (fun σ8 => oPZ σ8 12 l0 27 1 (fun σ9 => oPZ σ9 12 l0 31 0 (fun σ10 => oPI σ10 12 l0 30 8 (fun σ11 => oA (zk σ11 l0 = 12) (oB (fX12_append σ11 l0 l3 (l3 + l2)) (fun σ12 => some (1, σ12)))))))
set_option maxRecDepth 100000 in
theorem wX12_takeChunk_100 {Γ : zG} (E : zE Γ cX12_takeChunk RX12 7 { frames := 3, cells := 0, slots := 0, locals := 70 }) (σ : zS) (l0 : Nat) (l2 : Int32) (l3 : Int32) (s0 : Int32) (s1 : Nat) {R : (Int32 × zS)} (h : fX12_takeChunk_100 σ l0 l2 l3 s0 s1 = some R) (K : zRet Γ cX12_takeChunk 7 0 0 (some (.int R.1)) R.2) : zJ Γ 7 0 0 σ 100 [(0, .ref l0), (2, .int l2), (3, .int l3)] [.int s0, .ref s1] := by
  unfold fX12_takeChunk_100 at h
  refine zs_putI E zc11 14 (by decide) zw_19_12 rfl rfl dX12_takeChunk_100 h (fun σ8 h => ?_)
  refine zj_aload_n E dX12_takeChunk_103 rfl 0 rfl ?_
  refine zj_iconst (v := 1) E dX12_takeChunk_104 (by decide) ?_
  refine zs_putZ E zc11 27 (by decide) zw_18_3 rfl rfl dX12_takeChunk_105 h (fun σ9 h => ?_)
  refine zj_aload_n E dX12_takeChunk_108 rfl 0 rfl ?_
  refine zj_iconst (v := 0) E dX12_takeChunk_109 (by decide) ?_
  refine zs_putZ E zc11 31 (by decide) zw_18_6 rfl rfl dX12_takeChunk_110 h (fun σ10 h => ?_)
  refine zj_aload_n E dX12_takeChunk_113 rfl 0 rfl ?_
  refine zj_bipush (v := 8) E dX12_takeChunk_114 (by decide) ?_
  refine zs_putI E zc11 30 (by decide) zw_18_5 rfl rfl dX12_takeChunk_116 h (fun σ11 h => ?_)
  refine zj_aload_n E dX12_takeChunk_119 rfl 0 rfl ?_
  refine zj_iload_n E dX12_takeChunk_120 rfl 2 rfl ?_
  refine zj_iload_n E dX12_takeChunk_121 rfl 2 rfl ?_
  refine zj_iload_n E dX12_takeChunk_122 rfl 1 rfl ?_
  refine zj_iadd E dX12_takeChunk_123 ?_
  obtain ⟨hk, h⟩ := oA_some h
  obtain ⟨σ12, hc, h⟩ := oB_some h
  refine zs_callV (As := [.int l3, .int (l3 + l2)]) (rest := []) E zc11 zyX12_append zw_22_20 (kX12_append _ _ _ _ _ hc) rfl rfl hk rfl ⟨by decide, by decide⟩ ⟨by decide, by decide⟩ (Nat.le_of_ble_eq_true rfl) dX12_takeChunk_124 rfl (show zJ Γ 7 0 0 σ12 127 [(0, .ref l0), (2, .int l2), (3, .int l3)] [] from ?_)
  refine zj_iconst (v := 1) E dX12_takeChunk_127 (by decide) ?_
  have e9 := Option.some.inj h
  subst e9
  exact (show zRet Γ cX12_takeChunk 7 0 0 (some (.int 1)) σ12 from K) _ _ dX12_takeChunk_128
def fX12_takeChunk_63 (σ : zS) (l0 : Nat) (l1 : Int32) (l2 : Int32) (l3 : Int32) (l4 : Int32) (l5 : Int32) : Option (Int32 × zS) := (if l4 = 0 then (if l5 = 0 then oA (zk σ l0 = 12) (oB (fX12_isType σ l0 l1 97 99 84 76) (fun x4 => (if x4 = 0 then oA (zk σ l0 = 12) (oB (fX12_isType σ l0 l1 102 99 84 76) (fun x5 => (if x5 = 0 then oA (zk σ l0 = 12) (oB (fX12_byteAt σ l0 l1) (fun x6 => oB (fX12_isLetter σ x6) (fun x7 => (if x7 = 0 then fX12_takeChunk_344 σ l0 l1 else oA (zk σ l0 = 12) (oB (fX12_byteAt σ l0 (l1 + (1 : Int32))) (fun x9 => oB (fX12_isLetter σ x9) (fun x10 => (if x10 = 0 then fX12_takeChunk_344 σ l0 l1 else oA (zk σ l0 = 12) (oB (fX12_byteAt σ l0 (l1 + (2 : Int32))) (fun x11 => oB (fX12_isLetter σ x11) (fun x12 => (if x12 = 0 then fX12_takeChunk_344 σ l0 l1 else oA (zk σ l0 = 12) (oB (fX12_byteAt σ l0 (l1 + (3 : Int32))) (fun x13 => oB (fX12_isLetter σ x13) (fun x14 => (if x14 = 0 then fX12_takeChunk_344 σ l0 l1 else fX12_takeChunk_345 σ l0 l1 1)))))))))))))))) else oA (zk σ l0 = 12) (oC (fX12_takeControl σ l0 l3 l2) (fun x15 σ1 => some (x15, σ1)))))) else oA (zk σ l0 = 12) (oC (fX12_takeCount σ l0 l3 l2) (fun x16 σ2 => some (x16, σ2)))))) else oGI σ 12 l0 31 (fun x17 => (if x17 = 0 then oGI σ 12 l0 30 (fun x24 => (if x24 < 0 then fX12_takeChunk_161 σ l0 l2 l3 else oGI σ 12 l0 30 (fun x25 => (if (8 : Int32) ≤ x25 then fX12_takeChunk_161 σ l0 l2 l3 else fX12_takeChunk_157 σ l0 l2 l3)))) else fX12_takeChunk_157 σ l0 l2 l3))) else oGI σ 12 l0 28 (fun x26 => (if x26 = 0 then oGI σ 12 l0 23 (fun x27 => (if x27 = 0 then some (0, σ) else oGI σ 12 l0 27 (fun x28 => (if x28 = 0 then fX12_takeChunk_100 σ l0 l2 l3 0 l0 else oGI σ 12 l0 14 (fun x29 => fX12_takeChunk_100 σ l0 l2 l3 x29 l0))))) else some (0, σ))))
set_option maxRecDepth 100000 in
theorem wX12_takeChunk_63 {Γ : zG} (E : zE Γ cX12_takeChunk RX12 7 { frames := 3, cells := 0, slots := 0, locals := 70 }) (σ : zS) (l0 : Nat) (l1 : Int32) (l2 : Int32) (l3 : Int32) (l4 : Int32) (l5 : Int32) {R : (Int32 × zS)} (h : fX12_takeChunk_63 σ l0 l1 l2 l3 l4 l5 = some R) (K : zRet Γ cX12_takeChunk 7 0 0 (some (.int R.1)) R.2) : zJ Γ 7 0 0 σ 63 [(0, .ref l0), (1, .int l1), (2, .int l2), (3, .int l3), (4, .int l4), (5, .int l5)] [] := by
  unfold fX12_takeChunk_63 at h
  refine zj_iload E dX12_takeChunk_63 4 rfl ?_
  refine zj_if_eq (tgt := 129) E dX12_takeChunk_65 (by decide) h (fun h => ?_) (fun h => ?_)
  · refine zj_iload E dX12_takeChunk_129 5 rfl ?_
    refine zj_if_eq (tgt := 244) E dX12_takeChunk_131 (by decide) h (fun h => ?_) (fun h => ?_)
    · refine zj_aload_n E dX12_takeChunk_244 rfl 0 rfl ?_
      refine zj_iload_n E dX12_takeChunk_245 rfl 1 rfl ?_
      refine zj_bipush (v := 97) E dX12_takeChunk_246 (by decide) ?_
      refine zj_bipush (v := 99) E dX12_takeChunk_248 (by decide) ?_
      refine zj_bipush (v := 84) E dX12_takeChunk_250 (by decide) ?_
      refine zj_bipush (v := 76) E dX12_takeChunk_252 (by decide) ?_
      obtain ⟨hk, h⟩ := oA_some h
      obtain ⟨x4, hc, h⟩ := oB_some h
      refine zs_callV (As := [.int l1, .int 97, .int 99, .int 84, .int 76]) (rest := []) E zc11 zyX12_isType zw_18_22 (kX12_isType _ _ _ _ _ hc) rfl rfl hk rfl ⟨by decide, by decide⟩ ⟨by decide, by decide⟩ (Nat.le_of_ble_eq_true rfl) dX12_takeChunk_254 rfl (show zJ Γ 7 0 0 σ 257 [(0, .ref l0), (1, .int l1), (2, .int l2), (3, .int l3), (4, .int l4), (5, .int l5)] [.int x4] from ?_)
      refine zj_if_eq (tgt := 267) E dX12_takeChunk_257 (by decide) h (fun h => ?_) (fun h => ?_)
      · refine zj_aload_n E dX12_takeChunk_267 rfl 0 rfl ?_
        refine zj_iload_n E dX12_takeChunk_268 rfl 1 rfl ?_
        refine zj_bipush (v := 102) E dX12_takeChunk_269 (by decide) ?_
        refine zj_bipush (v := 99) E dX12_takeChunk_271 (by decide) ?_
        refine zj_bipush (v := 84) E dX12_takeChunk_273 (by decide) ?_
        refine zj_bipush (v := 76) E dX12_takeChunk_275 (by decide) ?_
        obtain ⟨hk, h⟩ := oA_some h
        obtain ⟨x5, hc, h⟩ := oB_some h
        refine zs_callV (As := [.int l1, .int 102, .int 99, .int 84, .int 76]) (rest := []) E zc11 zyX12_isType zw_18_22 (kX12_isType _ _ _ _ _ hc) rfl rfl hk rfl ⟨by decide, by decide⟩ ⟨by decide, by decide⟩ (Nat.le_of_ble_eq_true rfl) dX12_takeChunk_277 rfl (show zJ Γ 7 0 0 σ 280 [(0, .ref l0), (1, .int l1), (2, .int l2), (3, .int l3), (4, .int l4), (5, .int l5)] [.int x5] from ?_)
        refine zj_if_eq (tgt := 290) E dX12_takeChunk_280 (by decide) h (fun h => ?_) (fun h => ?_)
        · refine zj_aload_n E dX12_takeChunk_290 rfl 0 rfl ?_
          refine zj_iload_n E dX12_takeChunk_291 rfl 1 rfl ?_
          obtain ⟨hk, h⟩ := oA_some h
          obtain ⟨x6, hc, h⟩ := oB_some h
          refine zs_callV (As := [.int l1]) (rest := []) E zc11 zyX12_byteAt zw_18_7 (kX12_byteAt _ _ _ _ _ hc) rfl rfl hk rfl ⟨by decide, by decide⟩ ⟨by decide, by decide⟩ (Nat.le_of_ble_eq_true rfl) dX12_takeChunk_292 rfl (show zJ Γ 7 0 0 σ 295 [(0, .ref l0), (1, .int l1), (2, .int l2), (3, .int l3), (4, .int l4), (5, .int l5)] [.int x6] from ?_)
          obtain ⟨x7, hc, h⟩ := oB_some h
          refine zs_callS (As := [.int x6]) (rest := []) E zyX12_isLetter zw_23_16 (kX12_isLetter _ _ _ _ _ hc) rfl rfl rfl ⟨by decide, by decide⟩ ⟨by decide, by decide⟩ (Nat.le_of_ble_eq_true rfl) dX12_takeChunk_295 rfl (show zJ Γ 7 0 0 σ 298 [(0, .ref l0), (1, .int l1), (2, .int l2), (3, .int l3), (4, .int l4), (5, .int l5)] [.int x7] from ?_)
          refine zj_if_eq (tgt := 344) E dX12_takeChunk_298 (by decide) h (fun h => ?_) (fun h => ?_)
          · refine zj_lv [0, 1] rfl ?_
            exact wX12_takeChunk_344 E _ _ _ h K
          · refine zj_aload_n E dX12_takeChunk_301 rfl 0 rfl ?_
            refine zj_iload_n E dX12_takeChunk_302 rfl 1 rfl ?_
            refine zj_iconst (v := 1) E dX12_takeChunk_303 (by decide) ?_
            refine zj_iadd E dX12_takeChunk_304 ?_
            obtain ⟨hk, h⟩ := oA_some h
            obtain ⟨x9, hc, h⟩ := oB_some h
            refine zs_callV (As := [.int (l1 + (1 : Int32))]) (rest := []) E zc11 zyX12_byteAt zw_18_7 (kX12_byteAt _ _ _ _ _ hc) rfl rfl hk rfl ⟨by decide, by decide⟩ ⟨by decide, by decide⟩ (Nat.le_of_ble_eq_true rfl) dX12_takeChunk_305 rfl (show zJ Γ 7 0 0 σ 308 [(0, .ref l0), (1, .int l1), (2, .int l2), (3, .int l3), (4, .int l4), (5, .int l5)] [.int x9] from ?_)
            obtain ⟨x10, hc, h⟩ := oB_some h
            refine zs_callS (As := [.int x9]) (rest := []) E zyX12_isLetter zw_23_16 (kX12_isLetter _ _ _ _ _ hc) rfl rfl rfl ⟨by decide, by decide⟩ ⟨by decide, by decide⟩ (Nat.le_of_ble_eq_true rfl) dX12_takeChunk_308 rfl (show zJ Γ 7 0 0 σ 311 [(0, .ref l0), (1, .int l1), (2, .int l2), (3, .int l3), (4, .int l4), (5, .int l5)] [.int x10] from ?_)
            refine zj_if_eq (tgt := 344) E dX12_takeChunk_311 (by decide) h (fun h => ?_) (fun h => ?_)
            · refine zj_lv [0, 1] rfl ?_
              exact wX12_takeChunk_344 E _ _ _ h K
            · refine zj_aload_n E dX12_takeChunk_314 rfl 0 rfl ?_
              refine zj_iload_n E dX12_takeChunk_315 rfl 1 rfl ?_
              refine zj_iconst (v := 2) E dX12_takeChunk_316 (by decide) ?_
              refine zj_iadd E dX12_takeChunk_317 ?_
              obtain ⟨hk, h⟩ := oA_some h
              obtain ⟨x11, hc, h⟩ := oB_some h
              refine zs_callV (As := [.int (l1 + (2 : Int32))]) (rest := []) E zc11 zyX12_byteAt zw_18_7 (kX12_byteAt _ _ _ _ _ hc) rfl rfl hk rfl ⟨by decide, by decide⟩ ⟨by decide, by decide⟩ (Nat.le_of_ble_eq_true rfl) dX12_takeChunk_318 rfl (show zJ Γ 7 0 0 σ 321 [(0, .ref l0), (1, .int l1), (2, .int l2), (3, .int l3), (4, .int l4), (5, .int l5)] [.int x11] from ?_)
              obtain ⟨x12, hc, h⟩ := oB_some h
              refine zs_callS (As := [.int x11]) (rest := []) E zyX12_isLetter zw_23_16 (kX12_isLetter _ _ _ _ _ hc) rfl rfl rfl ⟨by decide, by decide⟩ ⟨by decide, by decide⟩ (Nat.le_of_ble_eq_true rfl) dX12_takeChunk_321 rfl (show zJ Γ 7 0 0 σ 324 [(0, .ref l0), (1, .int l1), (2, .int l2), (3, .int l3), (4, .int l4), (5, .int l5)] [.int x12] from ?_)
              refine zj_if_eq (tgt := 344) E dX12_takeChunk_324 (by decide) h (fun h => ?_) (fun h => ?_)
              · refine zj_lv [0, 1] rfl ?_
                exact wX12_takeChunk_344 E _ _ _ h K
              · refine zj_aload_n E dX12_takeChunk_327 rfl 0 rfl ?_
                refine zj_iload_n E dX12_takeChunk_328 rfl 1 rfl ?_
                refine zj_iconst (v := 3) E dX12_takeChunk_329 (by decide) ?_
                refine zj_iadd E dX12_takeChunk_330 ?_
                obtain ⟨hk, h⟩ := oA_some h
                obtain ⟨x13, hc, h⟩ := oB_some h
                refine zs_callV (As := [.int (l1 + (3 : Int32))]) (rest := []) E zc11 zyX12_byteAt zw_18_7 (kX12_byteAt _ _ _ _ _ hc) rfl rfl hk rfl ⟨by decide, by decide⟩ ⟨by decide, by decide⟩ (Nat.le_of_ble_eq_true rfl) dX12_takeChunk_331 rfl (show zJ Γ 7 0 0 σ 334 [(0, .ref l0), (1, .int l1), (2, .int l2), (3, .int l3), (4, .int l4), (5, .int l5)] [.int x13] from ?_)
                obtain ⟨x14, hc, h⟩ := oB_some h
                refine zs_callS (As := [.int x13]) (rest := []) E zyX12_isLetter zw_23_16 (kX12_isLetter _ _ _ _ _ hc) rfl rfl rfl ⟨by decide, by decide⟩ ⟨by decide, by decide⟩ (Nat.le_of_ble_eq_true rfl) dX12_takeChunk_334 rfl (show zJ Γ 7 0 0 σ 337 [(0, .ref l0), (1, .int l1), (2, .int l2), (3, .int l3), (4, .int l4), (5, .int l5)] [.int x14] from ?_)
                refine zj_if_eq (tgt := 344) E dX12_takeChunk_337 (by decide) h (fun h => ?_) (fun h => ?_)
                · refine zj_lv [0, 1] rfl ?_
                  exact wX12_takeChunk_344 E _ _ _ h K
                · refine zj_iconst (v := 1) E dX12_takeChunk_340 (by decide) ?_
                  refine zj_goto (tgt := 345) E dX12_takeChunk_341 (by decide) ?_
                  refine zj_lv [0, 1] rfl ?_
                  exact wX12_takeChunk_345 E _ _ _ _ h K
        · refine zj_aload_n E dX12_takeChunk_283 rfl 0 rfl ?_
          refine zj_iload_n E dX12_takeChunk_284 rfl 3 rfl ?_
          refine zj_iload_n E dX12_takeChunk_285 rfl 2 rfl ?_
          obtain ⟨hk, h⟩ := oA_some h
          obtain ⟨x15, σ1, hc, h⟩ := oC_some h
          refine zs_callV (As := [.int l3, .int l2]) (rest := []) E zc11 zyX12_takeControl zw_23_4 (kX12_takeControl _ _ _ _ _ hc) rfl rfl hk rfl ⟨by decide, by decide⟩ ⟨by decide, by decide⟩ (Nat.le_of_ble_eq_true rfl) dX12_takeChunk_286 rfl (show zJ Γ 7 0 0 σ1 289 [(0, .ref l0), (1, .int l1), (2, .int l2), (3, .int l3), (4, .int l4), (5, .int l5)] [.int x15] from ?_)
          have e9 := Option.some.inj h
          subst e9
          exact (show zRet Γ cX12_takeChunk 7 0 0 (some (.int x15)) σ1 from K) _ _ dX12_takeChunk_289
      · refine zj_aload_n E dX12_takeChunk_260 rfl 0 rfl ?_
        refine zj_iload_n E dX12_takeChunk_261 rfl 3 rfl ?_
        refine zj_iload_n E dX12_takeChunk_262 rfl 2 rfl ?_
        obtain ⟨hk, h⟩ := oA_some h
        obtain ⟨x16, σ2, hc, h⟩ := oC_some h
        refine zs_callV (As := [.int l3, .int l2]) (rest := []) E zc11 zyX12_takeCount zw_23_0 (kX12_takeCount _ _ _ _ _ hc) rfl rfl hk rfl ⟨by decide, by decide⟩ ⟨by decide, by decide⟩ (Nat.le_of_ble_eq_true rfl) dX12_takeChunk_263 rfl (show zJ Γ 7 0 0 σ2 266 [(0, .ref l0), (1, .int l1), (2, .int l2), (3, .int l3), (4, .int l4), (5, .int l5)] [.int x16] from ?_)
        have e9 := Option.some.inj h
        subst e9
        exact (show zRet Γ cX12_takeChunk 7 0 0 (some (.int x16)) σ2 from K) _ _ dX12_takeChunk_266
    · refine zj_aload_n E dX12_takeChunk_134 rfl 0 rfl ?_
      refine zs_getI E zc11 31 (by decide) zw_18_6 rfl dX12_takeChunk_135 h (fun x17 h => ?_)
      refine zj_if_ne (tgt := 157) E dX12_takeChunk_138 (by decide) h (fun h => ?_) (fun h => ?_)
      · refine zj_lv [0, 2, 3] rfl ?_
        exact wX12_takeChunk_157 E _ _ _ _ h K
      · refine zj_aload_n E dX12_takeChunk_141 rfl 0 rfl ?_
        refine zs_getI E zc11 30 (by decide) zw_18_5 rfl dX12_takeChunk_142 h (fun x24 h => ?_)
        refine zj_if_lt (tgt := 161) E dX12_takeChunk_145 (by decide) h (fun h => ?_) (fun h => ?_)
        · refine zj_lv [0, 2, 3] rfl ?_
          exact wX12_takeChunk_161 E _ _ _ _ h K
        · refine zj_aload_n E dX12_takeChunk_148 rfl 0 rfl ?_
          refine zs_getI E zc11 30 (by decide) zw_18_5 rfl dX12_takeChunk_149 h (fun x25 h => ?_)
          refine zj_bipush (v := 8) E dX12_takeChunk_152 (by decide) ?_
          refine zj_icmp_ge (tgt := 161) E dX12_takeChunk_154 (by decide) h (fun h => ?_) (fun h => ?_)
          · refine zj_lv [0, 2, 3] rfl ?_
            exact wX12_takeChunk_161 E _ _ _ _ h K
          · refine zj_lv [0, 2, 3] rfl ?_
            exact wX12_takeChunk_157 E _ _ _ _ h K
  · refine zj_aload_n E dX12_takeChunk_68 rfl 0 rfl ?_
    refine zs_getI E zc11 28 (by decide) zw_18_4 rfl dX12_takeChunk_69 h (fun x26 h => ?_)
    refine zj_if_ne (tgt := 82) E dX12_takeChunk_72 (by decide) h (fun h => ?_) (fun h => ?_)
    · refine zj_iconst (v := 0) E dX12_takeChunk_82 (by decide) ?_
      have e9 := Option.some.inj h
      subst e9
      exact (show zRet Γ cX12_takeChunk 7 0 0 (some (.int 0)) σ from K) _ _ dX12_takeChunk_83
    · refine zj_aload_n E dX12_takeChunk_75 rfl 0 rfl ?_
      refine zs_getI E zc11 23 (by decide) zw_17_23 rfl dX12_takeChunk_76 h (fun x27 h => ?_)
      refine zj_if_ne (tgt := 84) E dX12_takeChunk_79 (by decide) h (fun h => ?_) (fun h => ?_)
      · refine zj_aload_n E dX12_takeChunk_84 rfl 0 rfl ?_
        refine zj_aload_n E dX12_takeChunk_85 rfl 0 rfl ?_
        refine zs_getI E zc11 27 (by decide) zw_18_3 rfl dX12_takeChunk_86 h (fun x28 h => ?_)
        refine zj_if_eq (tgt := 99) E dX12_takeChunk_89 (by decide) h (fun h => ?_) (fun h => ?_)
        · refine zj_iconst (v := 0) E dX12_takeChunk_99 (by decide) ?_
          refine zj_lv [0, 2, 3] rfl ?_
          exact wX12_takeChunk_100 E _ _ _ _ _ _ h K
        · refine zj_aload_n E dX12_takeChunk_92 rfl 0 rfl ?_
          refine zs_getI E zc11 14 (by decide) zw_19_12 rfl dX12_takeChunk_93 h (fun x29 h => ?_)
          refine zj_goto (tgt := 100) E dX12_takeChunk_96 (by decide) ?_
          refine zj_lv [0, 2, 3] rfl ?_
          exact wX12_takeChunk_100 E _ _ _ _ _ _ h K
      · refine zj_iconst (v := 0) E dX12_takeChunk_82 (by decide) ?_
        have e9 := Option.some.inj h
        subst e9
        exact (show zRet Γ cX12_takeChunk 7 0 0 (some (.int 0)) σ from K) _ _ dX12_takeChunk_83
def gX12_takeChunk (σ : zS) (p0 : Nat) (p1 : Int32) (p2 : Int32) : Option (Int32 × zS) := oL (p1 + (4 : Int32)) (fun v1 => oA (zk σ p0 = 12) (oB (fX12_isType σ p0 p1 73 68 65 84) (fun x1 => oA (zk σ p0 = 12) (oB (fX12_isType σ p0 p1 102 100 65 84) (fun x2 => oGI σ 12 p0 31 (fun x3 => (if x3 = 0 then fX12_takeChunk_63 σ p0 p1 p2 v1 x1 x2 else oGI σ 12 p0 27 (fun x30 => (if x30 = 0 then (if x1 = 0 then some (0, σ) else fX12_takeChunk_63 σ p0 p1 p2 v1 x1 x2) else (if x2 = 0 then some (0, σ) else fX12_takeChunk_63 σ p0 p1 p2 v1 x1 x2))))))))))
def fX12_takeChunk (σ : zS) (p0 : Nat) (p1 : Int32) (p2 : Int32) : Option (Int32 × zS) := oC (gX12_takeChunk σ p0 p1 p2) (fun r s => oA (r = 0 ∨ r = 1) (some (r, s)))
set_option maxRecDepth 100000 in
theorem wX12_takeChunk {Γ : zG} (E : zE Γ cX12_takeChunk RX12 7 { frames := 3, cells := 0, slots := 0, locals := 70 }) (σ : zS) (p0 : Nat) (p1 : Int32) (p2 : Int32) {R : (Int32 × zS)} (h : gX12_takeChunk σ p0 p1 p2 = some R) (K : zRet Γ cX12_takeChunk 7 0 0 (some (.int R.1)) R.2) : zJ Γ 7 0 0 σ 0 [(0, .ref p0), (1, .int p1), (2, .int p2)] [] := by
  unfold gX12_takeChunk at h
  refine zj_iload_n E dX12_takeChunk_0 rfl 1 rfl ?_
  refine zj_iconst (v := 4) E dX12_takeChunk_1 (by decide) ?_
  refine zj_iadd E dX12_takeChunk_2 ?_
  refine zs_istore_n (lv2 := fun v1 => [(3, .int v1), (0, .ref p0), (1, .int p1), (2, .int p2)]) E dX12_takeChunk_3 rfl (by decide) (fun _ => rfl) h (fun v1 h => ?_)
  refine zj_aload_n E dX12_takeChunk_4 rfl 1 rfl ?_
  refine zj_iload_n E dX12_takeChunk_5 rfl 2 rfl ?_
  refine zj_bipush (v := 73) E dX12_takeChunk_6 (by decide) ?_
  refine zj_bipush (v := 68) E dX12_takeChunk_8 (by decide) ?_
  refine zj_bipush (v := 65) E dX12_takeChunk_10 (by decide) ?_
  refine zj_bipush (v := 84) E dX12_takeChunk_12 (by decide) ?_
  obtain ⟨hk, h⟩ := oA_some h
  obtain ⟨x1, hc, h⟩ := oB_some h
  refine zs_callV (As := [.int p1, .int 73, .int 68, .int 65, .int 84]) (rest := []) E zc11 zyX12_isType zw_18_22 (kX12_isType _ _ _ _ _ hc) rfl rfl hk rfl ⟨by decide, by decide⟩ ⟨by decide, by decide⟩ (Nat.le_of_ble_eq_true rfl) dX12_takeChunk_14 rfl (show zJ Γ 7 0 0 σ 17 [(3, .int v1), (0, .ref p0), (1, .int p1), (2, .int p2)] [.int x1] from ?_)
  refine zj_istore (lv2 := [(4, .int x1), (3, .int v1), (0, .ref p0), (1, .int p1), (2, .int p2)]) E dX12_takeChunk_17 (by decide) rfl ?_
  refine zj_aload_n E dX12_takeChunk_19 rfl 2 rfl ?_
  refine zj_iload_n E dX12_takeChunk_20 rfl 3 rfl ?_
  refine zj_bipush (v := 102) E dX12_takeChunk_21 (by decide) ?_
  refine zj_bipush (v := 100) E dX12_takeChunk_23 (by decide) ?_
  refine zj_bipush (v := 65) E dX12_takeChunk_25 (by decide) ?_
  refine zj_bipush (v := 84) E dX12_takeChunk_27 (by decide) ?_
  obtain ⟨hk, h⟩ := oA_some h
  obtain ⟨x2, hc, h⟩ := oB_some h
  refine zs_callV (As := [.int p1, .int 102, .int 100, .int 65, .int 84]) (rest := []) E zc11 zyX12_isType zw_18_22 (kX12_isType _ _ _ _ _ hc) rfl rfl hk rfl ⟨by decide, by decide⟩ ⟨by decide, by decide⟩ (Nat.le_of_ble_eq_true rfl) dX12_takeChunk_29 rfl (show zJ Γ 7 0 0 σ 32 [(4, .int x1), (3, .int v1), (0, .ref p0), (1, .int p1), (2, .int p2)] [.int x2] from ?_)
  refine zj_istore (lv2 := [(5, .int x2), (4, .int x1), (3, .int v1), (0, .ref p0), (1, .int p1), (2, .int p2)]) E dX12_takeChunk_32 (by decide) rfl ?_
  refine zj_aload_n E dX12_takeChunk_34 rfl 3 rfl ?_
  refine zs_getI E zc11 31 (by decide) zw_18_6 rfl dX12_takeChunk_35 h (fun x3 h => ?_)
  refine zj_if_eq (tgt := 63) E dX12_takeChunk_38 (by decide) h (fun h => ?_) (fun h => ?_)
  · refine zj_lv [3, 4, 5, 2, 1, 0] rfl ?_
    exact wX12_takeChunk_63 E _ _ _ _ _ _ _ h K
  · refine zj_aload_n E dX12_takeChunk_41 rfl 3 rfl ?_
    refine zs_getI E zc11 27 (by decide) zw_18_3 rfl dX12_takeChunk_42 h (fun x30 h => ?_)
    refine zj_if_eq (tgt := 56) E dX12_takeChunk_45 (by decide) h (fun h => ?_) (fun h => ?_)
    · refine zj_iload E dX12_takeChunk_56 1 rfl ?_
      refine zj_if_ne (tgt := 63) E dX12_takeChunk_58 (by decide) h (fun h => ?_) (fun h => ?_)
      · refine zj_lv [3, 4, 5, 2, 1, 0] rfl ?_
        exact wX12_takeChunk_63 E _ _ _ _ _ _ _ h K
      · refine zj_iconst (v := 0) E dX12_takeChunk_61 (by decide) ?_
        have e9 := Option.some.inj h
        subst e9
        exact (show zRet Γ cX12_takeChunk 7 0 0 (some (.int 0)) σ from K) _ _ dX12_takeChunk_62
    · refine zj_iload E dX12_takeChunk_48 0 rfl ?_
      refine zj_if_eq (tgt := 61) E dX12_takeChunk_50 (by decide) h (fun h => ?_) (fun h => ?_)
      · refine zj_iconst (v := 0) E dX12_takeChunk_61 (by decide) ?_
        have e9 := Option.some.inj h
        subst e9
        exact (show zRet Γ cX12_takeChunk 7 0 0 (some (.int 0)) σ from K) _ _ dX12_takeChunk_62
      · refine zj_goto (tgt := 63) E dX12_takeChunk_53 (by decide) ?_
        refine zj_lv [3, 4, 5, 2, 1, 0] rfl ?_
        exact wX12_takeChunk_63 E _ _ _ _ _ _ _ h K
set_option maxRecDepth 100000 in
theorem kX12_takeChunk (l : Launch) (D : va_G) (cs : zCs) (z0 : Nat) (σ : zS) {p0 : Nat} {p1 : Int32} {p2 : Int32} {r : Int32} {σ' : zS} (h : fX12_takeChunk σ p0 p1 p2 = some (r, σ')) : zM l D cs z0 yX12_takeChunk cX12_takeChunk 7 (some .boolean) { frames := 3, cells := 0, slots := 0, locals := 70 } [.ref p0, .int p1, .int p2] σ (some (.int r)) σ' 0 0 := by
  obtain ⟨r0, s0, h0, h⟩ := oC_some h
  obtain ⟨hz, h⟩ := oA_some h
  cases h
  exact zM_of (by decide) rfl (Or.inr ⟨rfl, hz⟩) (Nat.le_of_ble_eq_true rfl) rfl (fun Γ e1 e2 e3 e4 E hN K => wX12_takeChunk E σ _ _ _ h0 K)
