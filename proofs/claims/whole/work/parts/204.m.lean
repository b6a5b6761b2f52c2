/-! X5_start -/
def fX5_start (σ : zS) (p0 : Nat) (p1 : Int32) (p2 : Int32) : Option zS := oPZ σ 6 p0 2 1 (fun σ1 => oPZ σ1 6 p0 3 0 (fun σ2 => oPI σ2 6 p0 4 p1 (fun σ3 => oPI σ3 6 p0 5 p2 (fun σ4 => oGR σ4 6 p0 1 (fun a1 => oPI σ4 4 a1 1 p1 (fun σ5 => oGR σ5 6 p0 1 (fun a2 => oPI σ5 4 a2 2 p2 (fun σ6 => oPI σ6 6 p0 7 0 (fun σ7 => some σ7)))))))))
set_option maxRecDepth 100000 in
theorem wX5_start {Γ : zG} (E : zE Γ cX5_start RX5 3 { frames := 0, cells := 0, slots := 0, locals := 0 }) (σ : zS) (p0 : Nat) (p1 : Int32) (p2 : Int32) {R : zS} (h : fX5_start σ p0 p1 p2 = some R) (K : zRet Γ cX5_start 3 0 0 (none) R) : zJ Γ 3 0 0 σ 0 [(0, .ref p0), (1, .int p1), (2, .int p2)] [] := by
  unfold fX5_start at h
  refine zj_aload_n E dX5_start_0 rfl 0 rfl ?_
  refine zj_iconst (v := 1) E dX5_start_1 (by decide) ?_
  refine zs_putZ E zc5 2 (by decide) zw_15_3 rfl rfl dX5_start_2 h (fun σ1 h => ?_)
  refine zj_aload_n E dX5_start_5 rfl 0 rfl ?_
  refine zj_iconst (v := 0) E dX5_start_6 (by decide) ?_
  refine zs_putZ E zc5 3 (by decide) zw_15_4 rfl rfl dX5_start_7 h (fun σ2 h => ?_)
  refine zj_aload_n E dX5_start_10 rfl 0 rfl ?_
  refine zj_iload_n E dX5_start_11 rfl 1 rfl ?_
  refine zs_putI E zc5 4 (by decide) zw_15_5 rfl rfl dX5_start_12 h (fun σ3 h => ?_)
  refine zj_aload_n E dX5_start_15 rfl 0 rfl ?_
  refine zj_iload_n E dX5_start_16 rfl 2 rfl ?_
  refine zs_putI E zc5 5 (by decide) zw_15_6 rfl rfl dX5_start_17 h (fun σ4 h => ?_)
  refine zj_aload_n E dX5_start_20 rfl 0 rfl ?_
  refine zs_getR E zc5 1 (by decide) zw_5_4 rfl dX5_start_21 h (fun a1 h => ?_)
  refine zj_iload_n E dX5_start_24 rfl 1 rfl ?_
  refine zs_putIN E zc3 1 (by decide) (znf_18) rfl rfl dX5_start_25 h (fun σ5 h => ?_)
  refine zj_aload_n E dX5_start_28 rfl 0 rfl ?_
  refine zs_getR E zc5 1 (by decide) zw_5_4 rfl dX5_start_29 h (fun a2 h => ?_)
  refine zj_iload_n E dX5_start_32 rfl 2 rfl ?_
  refine zs_putIN E zc3 2 (by decide) (znf_23) rfl rfl dX5_start_33 h (fun σ6 h => ?_)
  refine zj_aload_n E dX5_start_36 rfl 0 rfl ?_
  refine zj_iconst (v := 0) E dX5_start_37 (by decide) ?_
  refine zs_putI E zc5 7 (by decide) zw_15_7 rfl rfl dX5_start_38 h (fun σ7 h => ?_)
  have e9 := Option.some.inj h
  subst e9
  exact (show zRet Γ cX5_start 3 0 0 (none) σ7 from K) _ _ dX5_start_41
set_option maxRecDepth 100000 in
theorem kX5_start (l : Launch) (D : va_G) (cs : zCs) (z0 : Nat) (σ : zS) {p0 : Nat} {p1 : Int32} {p2 : Int32}  {σ' : zS} (h : fX5_start σ p0 p1 p2 = some σ') : zM l D cs z0 yX5_start cX5_start 3 none { frames := 0, cells := 0, slots := 0, locals := 0 } [.ref p0, .int p1, .int p2] σ none σ' 0 0 := by
  exact zM_of (by decide) rfl rfl (Nat.le_of_ble_eq_true rfl) rfl (fun Γ e1 e2 e3 e4 E hN K => wX5_start E σ _ _ _ h K)
/-! X4_takesHead -/
def gX4_takesHead (σ : zS) (p0 : Nat) (p1 : Int32) : Option (Int32 × zS) := oGR σ 5 p0 0 (fun a1 => oA (zk σ a1 = 2) (oB (fX1_number σ a1 p1) (fun x1 => oGR σ 5 p0 0 (fun a2 => oA (zk σ a2 = 2) (oB (fX1_number σ a2 (p1 + (4 : Int32))) (fun x2 => (if x1 < (1 : Int32) then some (0, σ) else (if (16 : Int32) < x1 then some (0, σ) else (if x2 < (1 : Int32) then some (0, σ) else (if x2 ≤ (16 : Int32) then oGR σ 5 p0 3 (fun a3 => oA (zk σ a3 = 6) (oB (fX5_start σ a3 x1 x2) (fun σ1 => oGR σ1 5 p0 0 (fun a4 => oA (zk σ1 a4 = 2) (oB (fX1_at σ1 a4 (p1 + (8 : Int32))) (fun x3 => (if x3 = (8 : Int32) then oGR σ1 5 p0 0 (fun a5 => oA (zk σ1 a5 = 2) (oB (fX1_at σ1 a5 (p1 + (9 : Int32))) (fun x4 => (if x4 = (6 : Int32) then oGR σ1 5 p0 0 (fun a6 => oA (zk σ1 a6 = 2) (oB (fX1_at σ1 a6 (p1 + (10 : Int32))) (fun x5 => (if x5 = 0 then oGR σ1 5 p0 0 (fun a7 => oA (zk σ1 a7 = 2) (oB (fX1_at σ1 a7 (p1 + (11 : Int32))) (fun x6 => (if x6 = 0 then oGR σ1 5 p0 0 (fun a8 => oA (zk σ1 a8 = 2) (oB (fX1_at σ1 a8 (p1 + (12 : Int32))) (fun x7 => (if x7 = 0 then some (1, σ1) else some (0, σ1))))) else some (0, σ1))))) else some (0, σ1))))) else some (0, σ1))))) else some (0, σ1)))))))) else some (0, σ)))))))))))
def fX4_takesHead (σ : zS) (p0 : Nat) (p1 : Int32) : Option (Int32 × zS) := oC (gX4_takesHead σ p0 p1) (fun r s => oA (r = 0 ∨ r = 1) (some (r, s)))
set_option maxRecDepth 100000 in
theorem wX4_takesHead {Γ : zG} (E : zE Γ cX4_takesHead RX4 4 { frames := 1, cells := 0, slots := 0, locals := 22 }) (σ : zS) (p0 : Nat) (p1 : Int32) {R : (Int32 × zS)} (h : gX4_takesHead σ p0 p1 = some R) (K : zRet Γ cX4_takesHead 4 0 0 (some (.int R.1)) R.2) : zJ Γ 4 0 0 σ 0 [(0, .ref p0), (1, .int p1)] [] := by
  unfold gX4_takesHead at h
  refine zj_aload_n E dX4_takesHead_0 rfl 0 rfl ?_
  refine zs_getR E zc4 0 (by decide) zw_3_13 rfl dX4_takesHead_1 h (fun a1 h => ?_)
  refine zj_iload_n E dX4_takesHead_4 rfl 1 rfl ?_
  obtain ⟨hk, h⟩ := oA_some h
  obtain ⟨x1, hc, h⟩ := oB_some h
  refine zs_callV (As := [.int p1]) (rest := []) E zc1 zyX1_number zw_9_7 (kX1_number _ _ _ _ _ hc) rfl rfl hk rfl ⟨by decide, by decide⟩ ⟨by decide, by decide⟩ (Nat.le_of_ble_eq_true rfl) dX4_takesHead_5 rfl (show zJ Γ 4 0 0 σ 8 [(0, .ref p0), (1, .int p1)] [.int x1] from ?_)
  refine zj_istore_n (lv2 := [(2, .int x1), (0, .ref p0), (1, .int p1)]) E dX4_takesHead_8 rfl (by decide) rfl ?_
  refine zj_aload_n E dX4_takesHead_9 rfl 1 rfl ?_
  refine zs_getR E zc4 0 (by decide) zw_3_13 rfl dX4_takesHead_10 h (fun a2 h => ?_)
  refine zj_iload_n E dX4_takesHead_13 rfl 2 rfl ?_
  refine zj_iconst (v := 4) E dX4_takesHead_14 (by decide) ?_
  refine zj_iadd E dX4_takesHead_15 ?_
  obtain ⟨hk, h⟩ := oA_some h
  obtain ⟨x2, hc, h⟩ := oB_some h
  refine zs_callV (As := [.int (p1 + (4 : Int32))]) (rest := []) E zc1 zyX1_number zw_9_7 (kX1_number _ _ _ _ _ hc) rfl rfl hk rfl ⟨by decide, by decide⟩ ⟨by decide, by decide⟩ (Nat.le_of_ble_eq_true rfl) dX4_takesHead_16 rfl (show zJ Γ 4 0 0 σ 19 [(2, .int x1), (0, .ref p0), (1, .int p1)] [.int x2] from ?_)
  refine zj_istore_n (lv2 := [(3, .int x2), (2, .int x1), (0, .ref p0), (1, .int p1)]) E dX4_takesHead_19 rfl (by decide) rfl ?_
  refine zj_iload_n E dX4_takesHead_20 rfl 1 rfl ?_
  refine zj_iconst (v := 1) E dX4_takesHead_21 (by decide) ?_
  refine zj_icmp_lt (tgt := 42) E dX4_takesHead_22 (by decide) h (fun h => ?_) (fun h => ?_)
  · refine zj_iconst (v := 0) E dX4_takesHead_42 (by decide) ?_
    have e9 := Option.some.inj h
    subst e9
    exact (show zRet Γ cX4_takesHead 4 0 0 (some (.int 0)) σ from K) _ _ dX4_takesHead_43
  · refine zj_iload_n E dX4_takesHead_25 rfl 1 rfl ?_
    refine zj_bipush (v := 16) E dX4_takesHead_26 (by decide) ?_
    refine zj_icmp_gt (tgt := 42) E dX4_takesHead_28 (by decide) h (fun h => ?_) (fun h => ?_)
    · refine zj_iconst (v := 0) E dX4_takesHead_42 (by decide) ?_
      have e9 := Option.some.inj h
      subst e9
      exact (show zRet Γ cX4_takesHead 4 0 0 (some (.int 0)) σ from K) _ _ dX4_takesHead_43
    · refine zj_iload_n E dX4_takesHead_31 rfl 0 rfl ?_
      refine zj_iconst (v := 1) E dX4_takesHead_32 (by decide) ?_
      refine zj_icmp_lt (tgt := 42) E dX4_takesHead_33 (by decide) h (fun h => ?_) (fun h => ?_)
      · refine zj_iconst (v := 0) E dX4_takesHead_42 (by decide) ?_
        have e9 := Option.some.inj h
        subst e9
        exact (show zRet Γ cX4_takesHead 4 0 0 (some (.int 0)) σ from K) _ _ dX4_takesHead_43
      · refine zj_iload_n E dX4_takesHead_36 rfl 0 rfl ?_
        refine zj_bipush (v := 16) E dX4_takesHead_37 (by decide) ?_
        refine zj_icmp_le (tgt := 44) E dX4_takesHead_39 (by decide) h (fun h => ?_) (fun h => ?_)
        · refine zj_aload_n E dX4_takesHead_44 rfl 2 rfl ?_
          refine zs_getR E zc4 3 (by decide) zw_3_11 rfl dX4_takesHead_45 h (fun a3 h => ?_)
          refine zj_iload_n E dX4_takesHead_48 rfl 1 rfl ?_
          refine zj_iload_n E dX4_takesHead_49 rfl 0 rfl ?_
          obtain ⟨hk, h⟩ := oA_some h
          obtain ⟨σ1, hc, h⟩ := oB_some h
          refine zs_callV (As := [.int x1, .int x2]) (rest := []) E zc5 zyX5_start zw_14_23 (kX5_start _ _ _ _ _ hc) rfl rfl hk rfl ⟨by decide, by decide⟩ ⟨by decide, by decide⟩ (Nat.le_of_ble_eq_true rfl) dX4_takesHead_50 rfl (show zJ Γ 4 0 0 σ1 53 [(3, .int x2), (2, .int x1), (0, .ref p0), (1, .int p1)] [] from ?_)
          refine zj_aload_n E dX4_takesHead_53 rfl 2 rfl ?_
          refine zs_getR E zc4 0 (by decide) zw_3_13 rfl dX4_takesHead_54 h (fun a4 h => ?_)
          refine zj_iload_n E dX4_takesHead_57 rfl 3 rfl ?_
          refine zj_bipush (v := 8) E dX4_takesHead_58 (by decide) ?_
          refine zj_iadd E dX4_takesHead_60 ?_
          obtain ⟨hk, h⟩ := oA_some h
          obtain ⟨x3, hc, h⟩ := oB_some h
          refine zs_callV (As := [.int (p1 + (8 : Int32))]) (rest := []) E zc1 zyX1_at zw_8_21 (kX1_at _ _ _ _ _ hc) rfl rfl hk rfl ⟨by decide, by decide⟩ ⟨by decide, by decide⟩ (Nat.le_of_ble_eq_true rfl) dX4_takesHead_61 rfl (show zJ Γ 4 0 0 σ1 64 [(3, .int x2), (2, .int x1), (0, .ref p0), (1, .int p1)] [.int x3] from ?_)
          refine zj_bipush (v := 8) E dX4_takesHead_64 (by decide) ?_
          refine zj_icmp_ne (tgt := 131) E dX4_takesHead_66 (by decide) h (fun h => ?_) (fun h => ?_)
          · refine zj_iconst (v := 0) E dX4_takesHead_131 (by decide) ?_
            have e9 := Option.some.inj h
            subst e9
            exact (show zRet Γ cX4_takesHead 4 0 0 (some (.int 0)) σ1 from K) _ _ dX4_takesHead_132
          · refine zj_aload_n E dX4_takesHead_69 rfl 2 rfl ?_
            refine zs_getR E zc4 0 (by decide) zw_3_13 rfl dX4_takesHead_70 h (fun a5 h => ?_)
            refine zj_iload_n E dX4_takesHead_73 rfl 3 rfl ?_
            refine zj_bipush (v := 9) E dX4_takesHead_74 (by decide) ?_
            refine zj_iadd E dX4_takesHead_76 ?_
            obtain ⟨hk, h⟩ := oA_some h
            obtain ⟨x4, hc, h⟩ := oB_some h
            refine zs_callV (As := [.int (p1 + (9 : Int32))]) (rest := []) E zc1 zyX1_at zw_8_21 (kX1_at _ _ _ _ _ hc) rfl rfl hk rfl ⟨by decide, by decide⟩ ⟨by decide, by decide⟩ (Nat.le_of_ble_eq_true rfl) dX4_takesHead_77 rfl (show zJ Γ 4 0 0 σ1 80 [(3, .int x2), (2, .int x1), (0, .ref p0), (1, .int p1)] [.int x4] from ?_)
            refine zj_bipush (v := 6) E dX4_takesHead_80 (by decide) ?_
            refine zj_icmp_ne (tgt := 131) E dX4_takesHead_82 (by decide) h (fun h => ?_) (fun h => ?_)
            · refine zj_iconst (v := 0) E dX4_takesHead_131 (by decide) ?_
              have e9 := Option.some.inj h
              subst e9
              exact (show zRet Γ cX4_takesHead 4 0 0 (some (.int 0)) σ1 from K) _ _ dX4_takesHead_132
            · refine zj_aload_n E dX4_takesHead_85 rfl 2 rfl ?_
              refine zs_getR E zc4 0 (by decide) zw_3_13 rfl dX4_takesHead_86 h (fun a6 h => ?_)
              refine zj_iload_n E dX4_takesHead_89 rfl 3 rfl ?_
              refine zj_bipush (v := 10) E dX4_takesHead_90 (by decide) ?_
              refine zj_iadd E dX4_takesHead_92 ?_
              obtain ⟨hk, h⟩ := oA_some h
              obtain ⟨x5, hc, h⟩ := oB_some h
              refine zs_callV (As := [.int (p1 + (10 : Int32))]) (rest := []) E zc1 zyX1_at zw_8_21 (kX1_at _ _ _ _ _ hc) rfl rfl hk rfl ⟨by decide, by decide⟩ ⟨by decide, by decide⟩ (Nat.le_of_ble_eq_true rfl) dX4_takesHead_93 rfl (show zJ Γ 4 0 0 σ1 96 [(3, .int x2), (2, .int x1), (0, .ref p0), (1, .int p1)] [.int x5] from ?_)
              refine zj_if_ne (tgt := 131) E dX4_takesHead_96 (by decide) h (fun h => ?_) (fun h => ?_)
              · refine zj_iconst (v := 0) E dX4_takesHead_131 (by decide) ?_
                have e9 := Option.some.inj h
                subst e9
                exact (show zRet Γ cX4_takesHead 4 0 0 (some (.int 0)) σ1 from K) _ _ dX4_takesHead_132
              · refine zj_aload_n E dX4_takesHead_99 rfl 2 rfl ?_
                refine zs_getR E zc4 0 (by decide) zw_3_13 rfl dX4_takesHead_100 h (fun a7 h => ?_)
                refine zj_iload_n E dX4_takesHead_103 rfl 3 rfl ?_
                refine zj_bipush (v := 11) E dX4_takesHead_104 (by decide) ?_
                refine zj_iadd E dX4_takesHead_106 ?_
                obtain ⟨hk, h⟩ := oA_some h
                obtain ⟨x6, hc, h⟩ := oB_some h
                refine zs_callV (As := [.int (p1 + (11 : Int32))]) (rest := []) E zc1 zyX1_at zw_8_21 (kX1_at _ _ _ _ _ hc) rfl rfl hk rfl ⟨by decide, by decide⟩ ⟨by decide, by decide⟩ (Nat.le_of_ble_eq_true rfl) dX4_takesHead_107 rfl (show zJ Γ 4 0 0 σ1 110 [(3, .int x2), (2, .int x1), (0, .ref p0), (1, .int p1)] [.int x6] from ?_)
                refine zj_if_ne (tgt := 131) E dX4_takesHead_110 (by decide) h (fun h => ?_) (fun h => ?_)
                · refine zj_iconst (v := 0) E dX4_takesHead_131 (by decide) ?_
                  have e9 := Option.some.inj h
                  subst e9
                  exact (show zRet Γ cX4_takesHead 4 0 0 (some (.int 0)) σ1 from K) _ _ dX4_takesHead_132
                · refine zj_aload_n E dX4_takesHead_113 rfl 2 rfl ?_
                  refine zs_getR E zc4 0 (by decide) zw_3_13 rfl dX4_takesHead_114 h (fun a8 h => ?_)
                  refine zj_iload_n E dX4_takesHead_117 rfl 3 rfl ?_
                  refine zj_bipush (v := 12) E dX4_takesHead_118 (by decide) ?_
                  refine zj_iadd E dX4_takesHead_120 ?_
                  obtain ⟨hk, h⟩ := oA_some h
                  obtain ⟨x7, hc, h⟩ := oB_some h
                  refine zs_callV (As := [.int (p1 + (12 : Int32))]) (rest := []) E zc1 zyX1_at zw_8_21 (kX1_at _ _ _ _ _ hc) rfl rfl hk rfl ⟨by decide, by decide⟩ ⟨by decide, by decide⟩ (Nat.le_of_ble_eq_true rfl) dX4_takesHead_121 rfl (show zJ Γ 4 0 0 σ1 124 [(3, .int x2), (2, .int x1), (0, .ref p0), (1, .int p1)] [.int x7] from ?_)
                  refine zj_if_ne (tgt := 131) E dX4_takesHead_124 (by decide) h (fun h => ?_) (fun h => ?_)
                  · refine zj_iconst (v := 0) E dX4_takesHead_131 (by decide) ?_
                    have e9 := Option.some.inj h
                    subst e9
                    exact (show zRet Γ cX4_takesHead 4 0 0 (some (.int 0)) σ1 from K) _ _ dX4_takesHead_132
                  · refine zj_iconst (v := 1) E dX4_takesHead_127 (by decide) ?_
                    refine zj_goto (tgt := 132) E dX4_takesHead_128 (by decide) ?_
                    have e9 := Option.some.inj h
                    subst e9
                    exact (show zRet Γ cX4_takesHead 4 0 0 (some (.int 1)) σ1 from K) _ _ dX4_takesHead_132
        · refine zj_iconst (v := 0) E dX4_takesHead_42 (by decide) ?_
          have e9 := Option.some.inj h
          subst e9
          exact (show zRet Γ cX4_takesHead 4 0 0 (some (.int 0)) σ from K) _ _ dX4_takesHead_43
set_option maxRecDepth 100000 in
theorem kX4_takesHead (l : Launch) (D : va_G) (cs : zCs) (z0 : Nat) (σ : zS) {p0 : Nat} {p1 : Int32} {r : Int32} {σ' : zS} (h : fX4_takesHead σ p0 p1 = some (r, σ')) : zM l D cs z0 yX4_takesHead cX4_takesHead 4 (some .boolean) { frames := 1, cells := 0, slots := 0, locals := 22 } [.ref p0, .int p1] σ (some (.int r)) σ' 0 0 := by
  obtain ⟨r0, s0, h0, h⟩ := oC_some h
  obtain ⟨hz, h⟩ := oA_some h
  cases h
  exact zM_of (by decide) rfl (Or.inr ⟨rfl, hz⟩) (Nat.le_of_ble_eq_true rfl) rfl (fun Γ e1 e2 e3 e4 E hN K => wX4_takesHead E σ _ _ h0 K)
/-! X4_takesCounts -/
def gX4_takesCounts (σ : zS) (p0 : Nat) (p1 : Int32) : Option (Int32 × zS) := oGR σ 5 p0 0 (fun a1 => oA (zk σ a1 = 2) (oB (fX1_number σ a1 p1) (fun x1 => oGI σ 5 p0 9 (fun x2 => (if x2 = 0 then oGI σ 5 p0 10 (fun x3 => (if x3 = 0 then (if x1 < (1 : Int32) then some (0, σ) else (if x1 ≤ (8 : Int32) then oPI σ 5 p0 9 x1 (fun σ1 => oGR σ1 5 p0 3 (fun a2 => oGR σ1 5 p0 0 (fun a3 => oA (zk σ1 a3 = 2) (oB (fX1_number σ1 a3 (p1 + (4 : Int32))) (fun x4 => oPI σ1 6 a2 6 x4 (fun σ2 => some (1, σ2))))))) else some (0, σ))) else some (0, σ))) else some (0, σ))))))
def fX4_takesCounts (σ : zS) (p0 : Nat) (p1 : Int32) : Option (Int32 × zS) := oC (gX4_takesCounts σ p0 p1) (fun r s => oA (r = 0 ∨ r = 1) (some (r, s)))
set_option maxRecDepth 100000 in
theorem wX4_takesCounts {Γ : zG} (E : zE Γ cX4_takesCounts RX4 3 { frames := 1, cells := 0, slots := 0, locals := 21 }) (σ : zS) (p0 : Nat) (p1 : Int32) {R : (Int32 × zS)} (h : gX4_takesCounts σ p0 p1 = some R) (K : zRet Γ cX4_takesCounts 3 0 0 (some (.int R.1)) R.2) : zJ Γ 3 0 0 σ 0 [(0, .ref p0), (1, .int p1)] [] := by
  unfold gX4_takesCounts at h
  refine zj_aload_n E dX4_takesCounts_0 rfl 0 rfl ?_
  refine zs_getR E zc4 0 (by decide) zw_3_13 rfl dX4_takesCounts_1 h (fun a1 h => ?_)
  refine zj_iload_n E dX4_takesCounts_4 rfl 1 rfl ?_
  obtain ⟨hk, h⟩ := oA_some h
  obtain ⟨x1, hc, h⟩ := oB_some h
  refine zs_callV (As := [.int p1]) (rest := []) E zc1 zyX1_number zw_9_7 (kX1_number _ _ _ _ _ hc) rfl rfl hk rfl ⟨by decide, by decide⟩ ⟨by decide, by decide⟩ (Nat.le_of_ble_eq_true rfl) dX4_takesCounts_5 rfl (show zJ Γ 3 0 0 σ 8 [(0, .ref p0), (1, .int p1)] [.int x1] from ?_)
  refine zj_istore_n (lv2 := [(2, .int x1), (0, .ref p0), (1, .int p1)]) E dX4_takesCounts_8 rfl (by decide) rfl ?_
  refine zj_aload_n E dX4_takesCounts_9 rfl 1 rfl ?_
  refine zs_getI E zc4 9 (by decide) zw_8_10 rfl dX4_takesCounts_10 h (fun x2 h => ?_)
  refine zj_if_ne (tgt := 34) E dX4_takesCounts_13 (by decide) h (fun h => ?_) (fun h => ?_)
  · refine zj_iconst (v := 0) E dX4_takesCounts_34 (by decide) ?_
    have e9 := Option.some.inj h
    subst e9
    exact (show zRet Γ cX4_takesCounts 3 0 0 (some (.int 0)) σ from K) _ _ dX4_takesCounts_35
  · refine zj_aload_n E dX4_takesCounts_16 rfl 1 rfl ?_
    refine zs_getI E zc4 10 (by decide) zw_8_11 rfl dX4_takesCounts_17 h (fun x3 h => ?_)
    refine zj_if_ne (tgt := 34) E dX4_takesCounts_20 (by decide) h (fun h => ?_) (fun h => ?_)
    · refine zj_iconst (v := 0) E dX4_takesCounts_34 (by decide) ?_
      have e9 := Option.some.inj h
      subst e9
      exact (show zRet Γ cX4_takesCounts 3 0 0 (some (.int 0)) σ from K) _ _ dX4_takesCounts_35
    · refine zj_iload_n E dX4_takesCounts_23 rfl 0 rfl ?_
      refine zj_iconst (v := 1) E dX4_takesCounts_24 (by decide) ?_
      refine zj_icmp_lt (tgt := 34) E dX4_takesCounts_25 (by decide) h (fun h => ?_) (fun h => ?_)
      · refine zj_iconst (v := 0) E dX4_takesCounts_34 (by decide) ?_
        have e9 := Option.some.inj h
        subst e9
        exact (show zRet Γ cX4_takesCounts 3 0 0 (some (.int 0)) σ from K) _ _ dX4_takesCounts_35
      · refine zj_iload_n E dX4_takesCounts_28 rfl 0 rfl ?_
        refine zj_bipush (v := 8) E dX4_takesCounts_29 (by decide) ?_
        refine zj_icmp_le (tgt := 36) E dX4_takesCounts_31 (by decide) h (fun h => ?_) (fun h => ?_)
        · refine zj_aload_n E dX4_takesCounts_36 rfl 1 rfl ?_
          refine zj_iload_n E dX4_takesCounts_37 rfl 0 rfl ?_
          refine zs_putI E zc4 9 (by decide) zw_8_10 rfl rfl dX4_takesCounts_38 h (fun σ1 h => ?_)
          refine zj_aload_n E dX4_takesCounts_41 rfl 1 rfl ?_
          refine zs_getR E zc4 3 (by decide) zw_3_11 rfl dX4_takesCounts_42 h (fun a2 h => ?_)
          refine zj_aload_n E dX4_takesCounts_45 rfl 1 rfl ?_
          refine zs_getR E zc4 0 (by decide) zw_3_13 rfl dX4_takesCounts_46 h (fun a3 h => ?_)
          refine zj_iload_n E dX4_takesCounts_49 rfl 2 rfl ?_
          refine zj_iconst (v := 4) E dX4_takesCounts_50 (by decide) ?_
          refine zj_iadd E dX4_takesCounts_51 ?_
          obtain ⟨hk, h⟩ := oA_some h
          obtain ⟨x4, hc, h⟩ := oB_some h
          refine zs_callV (As := [.int (p1 + (4 : Int32))]) (rest := [.ref a2]) E zc1 zyX1_number zw_9_7 (kX1_number _ _ _ _ _ hc) rfl rfl hk rfl ⟨by decide, by decide⟩ ⟨by decide, by decide⟩ (Nat.le_of_ble_eq_true rfl) dX4_takesCounts_52 rfl (show zJ Γ 3 0 0 σ1 55 [(2, .int x1), (0, .ref p0), (1, .int p1)] [.int x4, .ref a2] from ?_)
          refine zs_putIN E zc5 6 (by decide) (znf_55) rfl rfl dX4_takesCounts_55 h (fun σ2 h => ?_)
          refine zj_iconst (v := 1) E dX4_takesCounts_58 (by decide) ?_
          have e9 := Option.some.inj h
          subst e9
          exact (show zRet Γ cX4_takesCounts 3 0 0 (some (.int 1)) σ2 from K) _ _ dX4_takesCounts_59
        · refine zj_iconst (v := 0) E dX4_takesCounts_34 (by decide) ?_
          have e9 := Option.some.inj h
          subst e9
          exact (show zRet Γ cX4_takesCounts 3 0 0 (some (.int 0)) σ from K) _ _ dX4_takesCounts_35
set_option maxRecDepth 100000 in
theorem kX4_takesCounts (l : Launch) (D : va_G) (cs : zCs) (z0 : Nat) (σ : zS) {p0 : Nat} {p1 : Int32} {r : Int32} {σ' : zS} (h : fX4_takesCounts σ p0 p1 = some (r, σ')) : zM l D cs z0 yX4_takesCounts cX4_takesCounts 3 (some .boolean) { frames := 1, cells := 0, slots := 0, locals := 21 } [.ref p0, .int p1] σ (some (.int r)) σ' 0 0 := by
  obtain ⟨r0, s0, h0, h⟩ := oC_some h
  obtain ⟨hz, h⟩ := oA_some h
  cases h
  exact zM_of (by decide) rfl (Or.inr ⟨rfl, hz⟩) (Nat.le_of_ble_eq_true rfl) rfl (fun Γ e1 e2 e3 e4 E hN K => wX4_takesCounts E σ _ _ h0 K)
/-! X4_takesSerial -/
def fX4_takesSerial_20 (σ : zS) (l0 : Nat) (s0 : Int32) : Option (Int32 × zS) := oGI σ 5 l0 8 (fun x3 => oPI σ 5 l0 8 (x3 + (1 : Int32)) (fun σ1 => some (s0, σ1)))
set_option maxRecDepth 100000 in
theorem wX4_takesSerial_20 {Γ : zG} (E : zE Γ cX4_takesSerial RX4 3 { frames := 1, cells := 0, slots := 0, locals := 21 }) (σ : zS) (l0 : Nat) (s0 : Int32) {R : (Int32 × zS)} (h : fX4_takesSerial_20 σ l0 s0 = some R) (K : zRet Γ cX4_takesSerial 3 0 0 (some (.int R.1)) R.2) : zJ Γ 3 0 0 σ 20 [(0, .ref l0)] [.int s0] := by
  unfold fX4_takesSerial_20 at h
  refine zj_istore_n (lv2 := [(2, .int s0), (0, .ref l0)]) E dX4_takesSerial_20 rfl (by decide) rfl ?_
  refine zj_aload_n E dX4_takesSerial_21 rfl 1 rfl ?_
  refine zj_dup E dX4_takesSerial_22 rfl ?_
  refine zs_getI E zc4 8 (by decide) zw_8_9 rfl dX4_takesSerial_23 h (fun x3 h => ?_)
  refine zj_iconst (v := 1) E dX4_takesSerial_26 (by decide) ?_
  refine zj_iadd E dX4_takesSerial_27 ?_
  refine zs_putI E zc4 8 (by decide) zw_8_9 rfl rfl dX4_takesSerial_28 h (fun σ1 h => ?_)
  refine zj_iload_n E dX4_takesSerial_31 rfl 0 rfl ?_
  have e9 := Option.some.inj h
  subst e9
  exact (show zRet Γ cX4_takesSerial 3 0 0 (some (.int s0)) σ1 from K) _ _ dX4_takesSerial_32
def gX4_takesSerial (σ : zS) (p0 : Nat) (p1 : Int32) : Option (Int32 × zS) := oGR σ 5 p0 0 (fun a1 => oA (zk σ a1 = 2) (oB (fX1_number σ a1 p1) (fun x1 => oGI σ 5 p0 8 (fun x2 => (if x1 = x2 then fX4_takesSerial_20 σ p0 1 else fX4_takesSerial_20 σ p0 0)))))
def fX4_takesSerial (σ : zS) (p0 : Nat) (p1 : Int32) : Option (Int32 × zS) := oC (gX4_takesSerial σ p0 p1) (fun r s => oA (r = 0 ∨ r = 1) (some (r, s)))
set_option maxRecDepth 100000 in
theorem wX4_takesSerial {Γ : zG} (E : zE Γ cX4_takesSerial RX4 3 { frames := 1, cells := 0, slots := 0, locals := 21 }) (σ : zS) (p0 : Nat) (p1 : Int32) {R : (Int32 × zS)} (h : gX4_takesSerial σ p0 p1 = some R) (K : zRet Γ cX4_takesSerial 3 0 0 (some (.int R.1)) R.2) : zJ Γ 3 0 0 σ 0 [(0, .ref p0), (1, .int p1)] [] := by
  unfold gX4_takesSerial at h
  refine zj_aload_n E dX4_takesSerial_0 rfl 0 rfl ?_
  refine zs_getR E zc4 0 (by decide) zw_3_13 rfl dX4_takesSerial_1 h (fun a1 h => ?_)
  refine zj_iload_n E dX4_takesSerial_4 rfl 1 rfl ?_
  obtain ⟨hk, h⟩ := oA_some h
  obtain ⟨x1, hc, h⟩ := oB_some h
  refine zs_callV (As := [.int p1]) (rest := []) E zc1 zyX1_number zw_9_7 (kX1_number _ _ _ _ _ hc) rfl rfl hk rfl ⟨by decide, by decide⟩ ⟨by decide, by decide⟩ (Nat.le_of_ble_eq_true rfl) dX4_takesSerial_5 rfl (show zJ Γ 3 0 0 σ 8 [(0, .ref p0), (1, .int p1)] [.int x1] from ?_)
  refine zj_aload_n E dX4_takesSerial_8 rfl 0 rfl ?_
  refine zs_getI E zc4 8 (by decide) zw_8_9 rfl dX4_takesSerial_9 h (fun x2 h => ?_)
  refine zj_icmp_ne (tgt := 19) E dX4_takesSerial_12 (by decide) h (fun h => ?_) (fun h => ?_)
  · refine zj_iconst (v := 0) E dX4_takesSerial_19 (by decide) ?_
    refine zj_lv [0] rfl ?_
    exact wX4_takesSerial_20 E _ _ _ h K
  · refine zj_iconst (v := 1) E dX4_takesSerial_15 (by decide) ?_
    refine zj_goto (tgt := 20) E dX4_takesSerial_16 (by decide) ?_
    refine zj_lv [0] rfl ?_
    exact wX4_takesSerial_20 E _ _ _ h K
set_option maxRecDepth 100000 in
theorem kX4_takesSerial (l : Launch) (D : va_G) (cs : zCs) (z0 : Nat) (σ : zS) {p0 : Nat} {p1 : Int32} {r : Int32} {σ' : zS} (h : fX4_takesSerial σ p0 p1 = some (r, σ')) : zM l D cs z0 yX4_takesSerial cX4_takesSerial 3 (some .boolean) { frames := 1, cells := 0, slots := 0, locals := 21 } [.ref p0, .int p1] σ (some (.int r)) σ' 0 0 := by
  obtain ⟨r0, s0, h0, h⟩ := oC_some h
  obtain ⟨hz, h⟩ := oA_some h
  cases h
  exact zM_of (by decide) rfl (Or.inr ⟨rfl, hz⟩) (Nat.le_of_ble_eq_true rfl) rfl (fun Γ e1 e2 e3 e4 E hN K => wX4_takesSerial E σ _ _ h0 K)
/-! X5_allows -/
def gX5_allows (σ : zS) (p0 : Nat) (p1 : Int32) (p2 : Int32) (p3 : Int32) (p4 : Int32) (p5 : Int32) (p6 : Int32) : Option Int32 := (if p1 < (1 : Int32) then some 0 else oGI σ 6 p0 4 (fun x1 => (if x1 < p1 then some 0 else (if p3 < 0 then some 0 else oGI σ 6 p0 4 (fun x2 => (if (x2 - p1) < p3 then some 0 else (if p2 < (1 : Int32) then some 0 else oGI σ 6 p0 5 (fun x3 => (if x3 < p2 then some 0 else (if p4 < 0 then some 0 else oGI σ 6 p0 5 (fun x4 => (if (x4 - p2) < p4 then some 0 else (if p5 < 0 then some 0 else (if (2 : Int32) < p5 then some 0 else (if p6 < 0 then some 0 else (if (1 : Int32) < p6 then some 0 else some 1))))))))))))))))
def fX5_allows (σ : zS) (p0 : Nat) (p1 : Int32) (p2 : Int32) (p3 : Int32) (p4 : Int32) (p5 : Int32) (p6 : Int32) : Option Int32 := oB (gX5_allows σ p0 p1 p2 p3 p4 p5 p6) (fun r => oA (r = 0 ∨ r = 1) (some r))
set_option maxRecDepth 100000 in
theorem wX5_allows {Γ : zG} (E : zE Γ cX5_allows RX5 7 { frames := 0, cells := 0, slots := 0, locals := 0 }) (σ : zS) (p0 : Nat) (p1 : Int32) (p2 : Int32) (p3 : Int32) (p4 : Int32) (p5 : Int32) (p6 : Int32) {R : Int32} (h : gX5_allows σ p0 p1 p2 p3 p4 p5 p6 = some R) (K : zRet Γ cX5_allows 7 0 0 (some (.int R)) σ) : zJ Γ 7 0 0 σ 0 [(0, .ref p0), (1, .int p1), (2, .int p2), (3, .int p3), (4, .int p4), (5, .int p5), (6, .int p6)] [] := by
  unfold gX5_allows at h
  refine zj_iload_n E dX5_allows_0 rfl 1 rfl ?_
  refine zj_iconst (v := 1) E dX5_allows_1 (by decide) ?_
  refine zj_icmp_lt (tgt := 82) E dX5_allows_2 (by decide) h (fun h => ?_) (fun h => ?_)
  · refine zj_iconst (v := 0) E dX5_allows_82 (by decide) ?_
    have e9 := Option.some.inj h
    subst e9
    exact (show zRet Γ cX5_allows 7 0 0 (some (.int 0)) σ from K) _ _ dX5_allows_83
  · refine zj_iload_n E dX5_allows_5 rfl 1 rfl ?_
    refine zj_aload_n E dX5_allows_6 rfl 0 rfl ?_
    refine zs_getI E zc5 4 (by decide) zw_15_5 rfl dX5_allows_7 h (fun x1 h => ?_)
    refine zj_icmp_gt (tgt := 82) E dX5_allows_10 (by decide) h (fun h => ?_) (fun h => ?_)
    · refine zj_iconst (v := 0) E dX5_allows_82 (by decide) ?_
      have e9 := Option.some.inj h
      subst e9
      exact (show zRet Γ cX5_allows 7 0 0 (some (.int 0)) σ from K) _ _ dX5_allows_83
    · refine zj_iload_n E dX5_allows_13 rfl 3 rfl ?_
      refine zj_if_lt (tgt := 82) E dX5_allows_14 (by decide) h (fun h => ?_) (fun h => ?_)
      · refine zj_iconst (v := 0) E dX5_allows_82 (by decide) ?_
        have e9 := Option.some.inj h
        subst e9
        exact (show zRet Γ cX5_allows 7 0 0 (some (.int 0)) σ from K) _ _ dX5_allows_83
      · refine zj_iload_n E dX5_allows_17 rfl 3 rfl ?_
        refine zj_aload_n E dX5_allows_18 rfl 0 rfl ?_
        refine zs_getI E zc5 4 (by decide) zw_15_5 rfl dX5_allows_19 h (fun x2 h => ?_)
        refine zj_iload_n E dX5_allows_22 rfl 1 rfl ?_
        refine zj_isub E dX5_allows_23 ?_
        refine zj_icmp_gt (tgt := 82) E dX5_allows_24 (by decide) h (fun h => ?_) (fun h => ?_)
        · refine zj_iconst (v := 0) E dX5_allows_82 (by decide) ?_
          have e9 := Option.some.inj h
          subst e9
          exact (show zRet Γ cX5_allows 7 0 0 (some (.int 0)) σ from K) _ _ dX5_allows_83
        · refine zj_iload_n E dX5_allows_27 rfl 2 rfl ?_
          refine zj_iconst (v := 1) E dX5_allows_28 (by decide) ?_
          refine zj_icmp_lt (tgt := 82) E dX5_allows_29 (by decide) h (fun h => ?_) (fun h => ?_)
          · refine zj_iconst (v := 0) E dX5_allows_82 (by decide) ?_
            have e9 := Option.some.inj h
            subst e9
            exact (show zRet Γ cX5_allows 7 0 0 (some (.int 0)) σ from K) _ _ dX5_allows_83
          · refine zj_iload_n E dX5_allows_32 rfl 2 rfl ?_
            refine zj_aload_n E dX5_allows_33 rfl 0 rfl ?_
            refine zs_getI E zc5 5 (by decide) zw_15_6 rfl dX5_allows_34 h (fun x3 h => ?_)
            refine zj_icmp_gt (tgt := 82) E dX5_allows_37 (by decide) h (fun h => ?_) (fun h => ?_)
            · refine zj_iconst (v := 0) E dX5_allows_82 (by decide) ?_
              have e9 := Option.some.inj h
              subst e9
              exact (show zRet Γ cX5_allows 7 0 0 (some (.int 0)) σ from K) _ _ dX5_allows_83
            · refine zj_iload E dX5_allows_40 4 rfl ?_
              refine zj_if_lt (tgt := 82) E dX5_allows_42 (by decide) h (fun h => ?_) (fun h => ?_)
              · refine zj_iconst (v := 0) E dX5_allows_82 (by decide) ?_
                have e9 := Option.some.inj h
                subst e9
                exact (show zRet Γ cX5_allows 7 0 0 (some (.int 0)) σ from K) _ _ dX5_allows_83
              · refine zj_iload E dX5_allows_45 4 rfl ?_
                refine zj_aload_n E dX5_allows_47 rfl 0 rfl ?_
                refine zs_getI E zc5 5 (by decide) zw_15_6 rfl dX5_allows_48 h (fun x4 h => ?_)
                refine zj_iload_n E dX5_allows_51 rfl 2 rfl ?_
                refine zj_isub E dX5_allows_52 ?_
                refine zj_icmp_gt (tgt := 82) E dX5_allows_53 (by decide) h (fun h => ?_) (fun h => ?_)
                · refine zj_iconst (v := 0) E dX5_allows_82 (by decide) ?_
                  have e9 := Option.some.inj h
                  subst e9
                  exact (show zRet Γ cX5_allows 7 0 0 (some (.int 0)) σ from K) _ _ dX5_allows_83
                · refine zj_iload E dX5_allows_56 5 rfl ?_
                  refine zj_if_lt (tgt := 82) E dX5_allows_58 (by decide) h (fun h => ?_) (fun h => ?_)
                  · refine zj_iconst (v := 0) E dX5_allows_82 (by decide) ?_
                    have e9 := Option.some.inj h
                    subst e9
                    exact (show zRet Γ cX5_allows 7 0 0 (some (.int 0)) σ from K) _ _ dX5_allows_83
                  · refine zj_iload E dX5_allows_61 5 rfl ?_
                    refine zj_iconst (v := 2) E dX5_allows_63 (by decide) ?_
                    refine zj_icmp_gt (tgt := 82) E dX5_allows_64 (by decide) h (fun h => ?_) (fun h => ?_)
                    · refine zj_iconst (v := 0) E dX5_allows_82 (by decide) ?_
                      have e9 := Option.some.inj h
                      subst e9
                      exact (show zRet Γ cX5_allows 7 0 0 (some (.int 0)) σ from K) _ _ dX5_allows_83
                    · refine zj_iload E dX5_allows_67 6 rfl ?_
                      refine zj_if_lt (tgt := 82) E dX5_allows_69 (by decide) h (fun h => ?_) (fun h => ?_)
                      · refine zj_iconst (v := 0) E dX5_allows_82 (by decide) ?_
                        have e9 := Option.some.inj h
                        subst e9
                        exact (show zRet Γ cX5_allows 7 0 0 (some (.int 0)) σ from K) _ _ dX5_allows_83
                      · refine zj_iload E dX5_allows_72 6 rfl ?_
                        refine zj_iconst (v := 1) E dX5_allows_74 (by decide) ?_
                        refine zj_icmp_gt (tgt := 82) E dX5_allows_75 (by decide) h (fun h => ?_) (fun h => ?_)
                        · refine zj_iconst (v := 0) E dX5_allows_82 (by decide) ?_
                          have e9 := Option.some.inj h
                          subst e9
                          exact (show zRet Γ cX5_allows 7 0 0 (some (.int 0)) σ from K) _ _ dX5_allows_83
                        · refine zj_iconst (v := 1) E dX5_allows_78 (by decide) ?_
                          refine zj_goto (tgt := 83) E dX5_allows_79 (by decide) ?_
                          have e9 := Option.some.inj h
                          subst e9
                          exact (show zRet Γ cX5_allows 7 0 0 (some (.int 1)) σ from K) _ _ dX5_allows_83
set_option maxRecDepth 100000 in
theorem kX5_allows (l : Launch) (D : va_G) (cs : zCs) (z0 : Nat) (σ : zS) {p0 : Nat} {p1 : Int32} {p2 : Int32} {p3 : Int32} {p4 : Int32} {p5 : Int32} {p6 : Int32} {r : Int32} (h : fX5_allows σ p0 p1 p2 p3 p4 p5 p6 = some r) : zM l D cs z0 yX5_allows cX5_allows 7 (some .boolean) { frames := 0, cells := 0, slots := 0, locals := 0 } [.ref p0, .int p1, .int p2, .int p3, .int p4, .int p5, .int p6] σ (some (.int r)) σ 0 0 := by
  obtain ⟨r0, h0, h⟩ := oB_some h
  obtain ⟨hz, h⟩ := oA_some h
  cases h
  exact zM_of (by decide) rfl (Or.inr ⟨rfl, hz⟩) (Nat.le_of_ble_eq_true rfl) rfl (fun Γ e1 e2 e3 e4 E hN K => wX5_allows E σ _ _ _ _ _ _ _ h0 K)
/-! X5_add -/
def fX5_add (σ : zS) (p0 : Nat) (p1 : Int32) (p2 : Int32) (p3 : Int32) (p4 : Int32) (p5 : Int32) (p6 : Int32) : Option zS := oGI σ 6 p0 7 (fun x1 => (if x1 < (8 : Int32) then oGR σ 6 p0 0 (fun a1 => oGI σ 6 p0 7 (fun x2 => oLr σ a1 x2 (fun a2 => oPI σ 4 a2 1 p1 (fun σ1 => oPI σ1 4 a2 2 p2 (fun σ2 => oPI σ2 4 a2 3 p3 (fun σ3 => oPI σ3 4 a2 4 p4 (fun σ4 => oPI σ4 4 a2 5 p5 (fun σ5 => oPI σ5 4 a2 6 p6 (fun σ6 => oGI σ6 6 p0 7 (fun x3 => oPI σ6 6 p0 7 (x3 + (1 : Int32)) (fun σ7 => some σ7))))))))))) else some σ))
set_option maxRecDepth 100000 in
theorem wX5_add {Γ : zG} (E : zE Γ cX5_add RX5 8 { frames := 0, cells := 0, slots := 0, locals := 0 }) (σ : zS) (p0 : Nat) (p1 : Int32) (p2 : Int32) (p3 : Int32) (p4 : Int32) (p5 : Int32) (p6 : Int32) {R : zS} (h : fX5_add σ p0 p1 p2 p3 p4 p5 p6 = some R) (K : zRet Γ cX5_add 8 0 0 (none) R) : zJ Γ 8 0 0 σ 0 [(0, .ref p0), (1, .int p1), (2, .int p2), (3, .int p3), (4, .int p4), (5, .int p5), (6, .int p6)] [] := by
  unfold fX5_add at h
  refine zj_aload_n E dX5_add_0 rfl 0 rfl ?_
  refine zs_getI E zc5 7 (by decide) zw_15_7 rfl dX5_add_1 h (fun x1 h => ?_)
  refine zj_bipush (v := 8) E dX5_add_4 (by decide) ?_
  refine zj_icmp_lt (tgt := 10) E dX5_add_6 (by decide) h (fun h => ?_) (fun h => ?_)
  · refine zj_aload_n E dX5_add_10 rfl 0 rfl ?_
    refine zs_getR E zc5 0 (by decide) zw_5_1 rfl dX5_add_11 h (fun a1 h => ?_)
    refine zj_aload_n E dX5_add_14 rfl 0 rfl ?_
    refine zs_getI E zc5 7 (by decide) zw_15_7 rfl dX5_add_15 h (fun x2 h => ?_)
    refine zs_aald E dX5_add_18 h (fun a2 h => ?_)
    refine zj_astore (lv2 := [(7, .ref a2), (0, .ref p0), (1, .int p1), (2, .int p2), (3, .int p3), (4, .int p4), (5, .int p5), (6, .int p6)]) E dX5_add_19 (by decide) rfl ?_
    refine zj_aload E dX5_add_21 0 rfl ?_
    refine zj_iload_n E dX5_add_23 rfl 2 rfl ?_
    refine zs_putIN E zc3 1 (by decide) (znf_18) rfl rfl dX5_add_24 h (fun σ1 h => ?_)
    refine zj_aload E dX5_add_27 0 rfl ?_
    refine zj_iload_n E dX5_add_29 rfl 3 rfl ?_
    refine zs_putIN E zc3 2 (by decide) (znf_23) rfl rfl dX5_add_30 h (fun σ2 h => ?_)
    refine zj_aload E dX5_add_33 0 rfl ?_
    refine zj_iload_n E dX5_add_35 rfl 4 rfl ?_
    refine zs_putIN E zc3 3 (by decide) (znf_27) rfl rfl dX5_add_36 h (fun σ3 h => ?_)
    refine zj_aload E dX5_add_39 0 rfl ?_
    refine zj_iload E dX5_add_41 5 rfl ?_
    refine zs_putIN E zc3 4 (by decide) (znf_30) rfl rfl dX5_add_43 h (fun σ4 h => ?_)
    refine zj_aload E dX5_add_46 0 rfl ?_
    refine zj_iload E dX5_add_48 6 rfl ?_
    refine zs_putIN E zc3 5 (by decide) (znf_33) rfl rfl dX5_add_50 h (fun σ5 h => ?_)
    refine zj_aload E dX5_add_53 0 rfl ?_
    refine zj_iload E dX5_add_55 7 rfl ?_
    refine zs_putIN E zc3 6 (by decide) (znf_36) rfl rfl dX5_add_57 h (fun σ6 h => ?_)
    refine zj_aload_n E dX5_add_60 rfl 1 rfl ?_
    refine zj_dup E dX5_add_61 rfl ?_
    refine zs_getI E zc5 7 (by decide) zw_15_7 rfl dX5_add_62 h (fun x3 h => ?_)
    refine zj_iconst (v := 1) E dX5_add_65 (by decide) ?_
    refine zj_iadd E dX5_add_66 ?_
    refine zs_putI E zc5 7 (by decide) zw_15_7 rfl rfl dX5_add_67 h (fun σ7 h => ?_)
    have e9 := Option.some.inj h
    subst e9
    exact (show zRet Γ cX5_add 8 0 0 (none) σ7 from K) _ _ dX5_add_70
  · have e9 := Option.some.inj h
    subst e9
    exact (show zRet Γ cX5_add 8 0 0 (none) σ from K) _ _ dX5_add_9
set_option maxRecDepth 100000 in
theorem kX5_add (l : Launch) (D : va_G) (cs : zCs) (z0 : Nat) (σ : zS) {p0 : Nat} {p1 : Int32} {p2 : Int32} {p3 : Int32} {p4 : Int32} {p5 : Int32} {p6 : Int32}  {σ' : zS} (h : fX5_add σ p0 p1 p2 p3 p4 p5 p6 = some σ') : zM l D cs z0 yX5_add cX5_add 8 none { frames := 0, cells := 0, slots := 0, locals := 0 } [.ref p0, .int p1, .int p2, .int p3, .int p4, .int p5, .int p6] σ none σ' 0 0 := by
  exact zM_of (by decide) rfl rfl (Nat.le_of_ble_eq_true rfl) rfl (fun Γ e1 e2 e3 e4 E hN K => wX5_add E σ _ _ _ _ _ _ _ h K)
/-! X5_firstIsCanvas -/
def gX5_firstIsCanvas (σ : zS) (p0 : Nat) : Option Int32 := oGI σ 6 p0 7 (fun x1 => (if x1 ≤ 0 then some 0 else oGR σ 6 p0 0 (fun a1 => oLr σ a1 0 (fun a2 => oGI σ 4 a2 1 (fun x2 => oGI σ 6 p0 4 (fun x3 => (if x2 = x3 then oGR σ 6 p0 0 (fun a3 => oLr σ a3 0 (fun a4 => oGI σ 4 a4 2 (fun x4 => oGI σ 6 p0 5 (fun x5 => (if x4 = x5 then some 1 else some 0))))) else some 0)))))))
def fX5_firstIsCanvas (σ : zS) (p0 : Nat) : Option Int32 := oB (gX5_firstIsCanvas σ p0) (fun r => oA (r = 0 ∨ r = 1) (some r))
set_option maxRecDepth 100000 in
theorem wX5_firstIsCanvas {Γ : zG} (E : zE Γ cX5_firstIsCanvas RX5 1 { frames := 0, cells := 0, slots := 0, locals := 0 }) (σ : zS) (p0 : Nat) {R : Int32} (h : gX5_firstIsCanvas σ p0 = some R) (K : zRet Γ cX5_firstIsCanvas 1 0 0 (some (.int R)) σ) : zJ Γ 1 0 0 σ 0 [(0, .ref p0)] [] := by
  unfold gX5_firstIsCanvas at h
  refine zj_aload_n E dX5_firstIsCanvas_0 rfl 0 rfl ?_
  refine zs_getI E zc5 7 (by decide) zw_15_7 rfl dX5_firstIsCanvas_1 h (fun x1 h => ?_)
  refine zj_if_le (tgt := 43) E dX5_firstIsCanvas_4 (by decide) h (fun h => ?_) (fun h => ?_)
  · refine zj_iconst (v := 0) E dX5_firstIsCanvas_43 (by decide) ?_
    have e9 := Option.some.inj h
    subst e9
    exact (show zRet Γ cX5_firstIsCanvas 1 0 0 (some (.int 0)) σ from K) _ _ dX5_firstIsCanvas_44
  · refine zj_aload_n E dX5_firstIsCanvas_7 rfl 0 rfl ?_
    refine zs_getR E zc5 0 (by decide) zw_5_1 rfl dX5_firstIsCanvas_8 h (fun a1 h => ?_)
    refine zj_iconst (v := 0) E dX5_firstIsCanvas_11 (by decide) ?_
    refine zs_aald E dX5_firstIsCanvas_12 h (fun a2 h => ?_)
    refine zs_getIN E zc3 1 (by decide) (znf_18) rfl dX5_firstIsCanvas_13 h (fun x2 h => ?_)
    refine zj_aload_n E dX5_firstIsCanvas_16 rfl 0 rfl ?_
    refine zs_getI E zc5 4 (by decide) zw_15_5 rfl dX5_firstIsCanvas_17 h (fun x3 h => ?_)
    refine zj_icmp_ne (tgt := 43) E dX5_firstIsCanvas_20 (by decide) h (fun h => ?_) (fun h => ?_)
    · refine zj_iconst (v := 0) E dX5_firstIsCanvas_43 (by decide) ?_
      have e9 := Option.some.inj h
      subst e9
      exact (show zRet Γ cX5_firstIsCanvas 1 0 0 (some (.int 0)) σ from K) _ _ dX5_firstIsCanvas_44
    · refine zj_aload_n E dX5_firstIsCanvas_23 rfl 0 rfl ?_
      refine zs_getR E zc5 0 (by decide) zw_5_1 rfl dX5_firstIsCanvas_24 h (fun a3 h => ?_)
      refine zj_iconst (v := 0) E dX5_firstIsCanvas_27 (by decide) ?_
      refine zs_aald E dX5_firstIsCanvas_28 h (fun a4 h => ?_)
      refine zs_getIN E zc3 2 (by decide) (znf_23) rfl dX5_firstIsCanvas_29 h (fun x4 h => ?_)
      refine zj_aload_n E dX5_firstIsCanvas_32 rfl 0 rfl ?_
      refine zs_getI E zc5 5 (by decide) zw_15_6 rfl dX5_firstIsCanvas_33 h (fun x5 h => ?_)
      refine zj_icmp_ne (tgt := 43) E dX5_firstIsCanvas_36 (by decide) h (fun h => ?_) (fun h => ?_)
      · refine zj_iconst (v := 0) E dX5_firstIsCanvas_43 (by decide) ?_
        have e9 := Option.some.inj h
        subst e9
        exact (show zRet Γ cX5_firstIsCanvas 1 0 0 (some (.int 0)) σ from K) _ _ dX5_firstIsCanvas_44
      · refine zj_iconst (v := 1) E dX5_firstIsCanvas_39 (by decide) ?_
        refine zj_goto (tgt := 44) E dX5_firstIsCanvas_40 (by decide) ?_
        have e9 := Option.some.inj h
        subst e9
        exact (show zRet Γ cX5_firstIsCanvas 1 0 0 (some (.int 1)) σ from K) _ _ dX5_firstIsCanvas_44
set_option maxRecDepth 100000 in
theorem kX5_firstIsCanvas (l : Launch) (D : va_G) (cs : zCs) (z0 : Nat) (σ : zS) {p0 : Nat} {r : Int32} (h : fX5_firstIsCanvas σ p0 = some r) : zM l D cs z0 yX5_firstIsCanvas cX5_firstIsCanvas 1 (some .boolean) { frames := 0, cells := 0, slots := 0, locals := 0 } [.ref p0] σ (some (.int r)) σ 0 0 := by
  obtain ⟨r0, h0, h⟩ := oB_some h
  obtain ⟨hz, h⟩ := oA_some h
  cases h
  exact zM_of (by decide) rfl (Or.inr ⟨rfl, hz⟩) (Nat.le_of_ble_eq_true rfl) rfl (fun Γ e1 e2 e3 e4 E hN K => wX5_firstIsCanvas E σ _ h0 K)
/-! X4_takesControl -/
def gX4_takesControl (σ : zS) (p0 : Nat) (p1 : Int32) : Option (Int32 × zS) := oGI σ 5 p0 7 (fun x1 => (if x1 = (1717785676 : Int32) then some (0, σ) else oGR σ 5 p0 3 (fun a1 => oGI σ 6 a1 7 (fun x2 => oGI σ 5 p0 9 (fun x3 => (if x3 ≤ x2 then some (0, σ) else oA (zk σ p0 = 5) (oC (fX4_takesSerial σ p0 p1) (fun x4 σ1 => (if x4 = 0 then some (0, σ1) else oGR σ1 5 p0 0 (fun a2 => oA (zk σ1 a2 = 2) (oB (fX1_number σ1 a2 (p1 + (4 : Int32))) (fun x5 => oGR σ1 5 p0 0 (fun a3 => oA (zk σ1 a3 = 2) (oB (fX1_number σ1 a3 (p1 + (8 : Int32))) (fun x6 => oGR σ1 5 p0 0 (fun a4 => oA (zk σ1 a4 = 2) (oB (fX1_number σ1 a4 (p1 + (12 : Int32))) (fun x7 => oGR σ1 5 p0 0 (fun a5 => oA (zk σ1 a5 = 2) (oB (fX1_number σ1 a5 (p1 + (16 : Int32))) (fun x8 => oGR σ1 5 p0 0 (fun a6 => oA (zk σ1 a6 = 2) (oB (fX1_at σ1 a6 (p1 + (24 : Int32))) (fun x9 => oGR σ1 5 p0 0 (fun a7 => oA (zk σ1 a7 = 2) (oB (fX1_at σ1 a7 (p1 + (25 : Int32))) (fun x10 => oGR σ1 5 p0 3 (fun a8 => oA (zk σ1 a8 = 6) (oB (fX5_allows σ1 a8 x5 x6 x7 x8 x9 x10) (fun x11 => (if x11 = 0 then some (0, σ1) else oGR σ1 5 p0 3 (fun a9 => oA (zk σ1 a9 = 6) (oB (fX5_add σ1 a9 x5 x6 x7 x8 x9 x10) (fun σ2 => oGI σ2 5 p0 10 (fun x12 => (if x12 = 0 then oGR σ2 5 p0 3 (fun a10 => oPZ σ2 6 a10 3 1 (fun σ3 => oGR σ3 5 p0 3 (fun a11 => oA (zk σ3 a11 = 6) (oB (fX5_firstIsCanvas σ3 a11) (fun x13 => some (x13, σ3)))))) else some (1, σ2)))))))))))))))))))))))))))))))))))))
def fX4_takesControl (σ : zS) (p0 : Nat) (p1 : Int32) : Option (Int32 × zS) := oC (gX4_takesControl σ p0 p1) (fun r s => oA (r = 0 ∨ r = 1) (some (r, s)))
set_option maxRecDepth 100000 in
theorem wX4_takesControl {Γ : zG} (E : zE Γ cX4_takesControl RX4 8 { frames := 2, cells := 0, slots := 0, locals := 43 }) (σ : zS) (p0 : Nat) (p1 : Int32) {R : (Int32 × zS)} (h : gX4_takesControl σ p0 p1 = some R) (K : zRet Γ cX4_takesControl 8 0 0 (some (.int R.1)) R.2) : zJ Γ 8 0 0 σ 0 [(0, .ref p0), (1, .int p1)] [] := by
  unfold gX4_takesControl at h
  refine zj_aload_n E dX4_takesControl_0 rfl 0 rfl ?_
  refine zs_getI E zc4 7 (by decide) zw_8_8 rfl dX4_takesControl_1 h (fun x1 h => ?_)
  refine zj_ldc (v := 1717785676) E zw_14_18 dX4_takesControl_4 ?_
  refine zj_icmp_eq (tgt := 31) E dX4_takesControl_6 (by decide) h (fun h => ?_) (fun h => ?_)
  · refine zj_iconst (v := 0) E dX4_takesControl_31 (by decide) ?_
    have e9 := Option.some.inj h
    subst e9
    exact (show zRet Γ cX4_takesControl 8 0 0 (some (.int 0)) σ from K) _ _ dX4_takesControl_32
  · refine zj_aload_n E dX4_takesControl_9 rfl 0 rfl ?_
    refine zs_getR E zc4 3 (by decide) zw_3_11 rfl dX4_takesControl_10 h (fun a1 h => ?_)
    refine zs_getIN E zc5 7 (by decide) (znf_58) rfl dX4_takesControl_13 h (fun x2 h => ?_)
    refine zj_aload_n E dX4_takesControl_16 rfl 0 rfl ?_
    refine zs_getI E zc4 9 (by decide) zw_8_10 rfl dX4_takesControl_17 h (fun x3 h => ?_)
    refine zj_icmp_ge (tgt := 31) E dX4_takesControl_20 (by decide) h (fun h => ?_) (fun h => ?_)
    · refine zj_iconst (v := 0) E dX4_takesControl_31 (by decide) ?_
      have e9 := Option.some.inj h
      subst e9
      exact (show zRet Γ cX4_takesControl 8 0 0 (some (.int 0)) σ from K) _ _ dX4_takesControl_32
    · refine zj_aload_n E dX4_takesControl_23 rfl 0 rfl ?_
      refine zj_iload_n E dX4_takesControl_24 rfl 1 rfl ?_
      obtain ⟨hk, h⟩ := oA_some h
      obtain ⟨x4, σ1, hc, h⟩ := oC_some h
      refine zs_callV (As := [.int p1]) (rest := []) E zc4 zyX4_takesSerial zw_15_16 (kX4_takesSerial _ _ _ _ _ hc) rfl rfl hk rfl ⟨by decide, by decide⟩ ⟨by decide, by decide⟩ (Nat.le_of_ble_eq_true rfl) dX4_takesControl_25 rfl (show zJ Γ 8 0 0 σ1 28 [(0, .ref p0), (1, .int p1)] [.int x4] from ?_)
      refine zj_if_ne (tgt := 33) E dX4_takesControl_28 (by decide) h (fun h => ?_) (fun h => ?_)
      · refine zj_aload_n E dX4_takesControl_33 rfl 0 rfl ?_
        refine zs_getR E zc4 0 (by decide) zw_3_13 rfl dX4_takesControl_34 h (fun a2 h => ?_)
        refine zj_iload_n E dX4_takesControl_37 rfl 1 rfl ?_
        refine zj_iconst (v := 4) E dX4_takesControl_38 (by decide) ?_
        refine zj_iadd E dX4_takesControl_39 ?_
        obtain ⟨hk, h⟩ := oA_some h
        obtain ⟨x5, hc, h⟩ := oB_some h
        refine zs_callV (As := [.int (p1 + (4 : Int32))]) (rest := []) E zc1 zyX1_number zw_9_7 (kX1_number _ _ _ _ _ hc) rfl rfl hk rfl ⟨by decide, by decide⟩ ⟨by decide, by decide⟩ (Nat.le_of_ble_eq_true rfl) dX4_takesControl_40 rfl (show zJ Γ 8 0 0 σ1 43 [(0, .ref p0), (1, .int p1)] [.int x5] from ?_)
        refine zj_istore_n (lv2 := [(2, .int x5), (0, .ref p0), (1, .int p1)]) E dX4_takesControl_43 rfl (by decide) rfl ?_
        refine zj_aload_n E dX4_takesControl_44 rfl 1 rfl ?_
        refine zs_getR E zc4 0 (by decide) zw_3_13 rfl dX4_takesControl_45 h (fun a3 h => ?_)
        refine zj_iload_n E dX4_takesControl_48 rfl 2 rfl ?_
        refine zj_bipush (v := 8) E dX4_takesControl_49 (by decide) ?_
        refine zj_iadd E dX4_takesControl_51 ?_
        obtain ⟨hk, h⟩ := oA_some h
        obtain ⟨x6, hc, h⟩ := oB_some h
        refine zs_callV (As := [.int (p1 + (8 : Int32))]) (rest := []) E zc1 zyX1_number zw_9_7 (kX1_number _ _ _ _ _ hc) rfl rfl hk rfl ⟨by decide, by decide⟩ ⟨by decide, by decide⟩ (Nat.le_of_ble_eq_true rfl) dX4_takesControl_52 rfl (show zJ Γ 8 0 0 σ1 55 [(2, .int x5), (0, .ref p0), (1, .int p1)] [.int x6] from ?_)
        refine zj_istore_n (lv2 := [(3, .int x6), (2, .int x5), (0, .ref p0), (1, .int p1)]) E dX4_takesControl_55 rfl (by decide) rfl ?_
        refine zj_aload_n E dX4_takesControl_56 rfl 2 rfl ?_
        refine zs_getR E zc4 0 (by decide) zw_3_13 rfl dX4_takesControl_57 h (fun a4 h => ?_)
        refine zj_iload_n E dX4_takesControl_60 rfl 3 rfl ?_
        refine zj_bipush (v := 12) E dX4_takesControl_61 (by decide) ?_
        refine zj_iadd E dX4_takesControl_63 ?_
        obtain ⟨hk, h⟩ := oA_some h
        obtain ⟨x7, hc, h⟩ := oB_some h
        refine zs_callV (As := [.int (p1 + (12 : Int32))]) (rest := []) E zc1 zyX1_number zw_9_7 (kX1_number _ _ _ _ _ hc) rfl rfl hk rfl ⟨by decide, by decide⟩ ⟨by decide, by decide⟩ (Nat.le_of_ble_eq_true rfl) dX4_takesControl_64 rfl (show zJ Γ 8 0 0 σ1 67 [(3, .int x6), (2, .int x5), (0, .ref p0), (1, .int p1)] [.int x7] from ?_)
        refine zj_istore (lv2 := [(4, .int x7), (3, .int x6), (2, .int x5), (0, .ref p0), (1, .int p1)]) E dX4_takesControl_67 (by decide) rfl ?_
        refine zj_aload_n E dX4_takesControl_69 rfl 3 rfl ?_
        refine zs_getR E zc4 0 (by decide) zw_3_13 rfl dX4_takesControl_70 h (fun a5 h => ?_)
        refine zj_iload_n E dX4_takesControl_73 rfl 4 rfl ?_
        refine zj_bipush (v := 16) E dX4_takesControl_74 (by decide) ?_
        refine zj_iadd E dX4_takesControl_76 ?_
        obtain ⟨hk, h⟩ := oA_some h
        obtain ⟨x8, hc, h⟩ := oB_some h
        refine zs_callV (As := [.int (p1 + (16 : Int32))]) (rest := []) E zc1 zyX1_number zw_9_7 (kX1_number _ _ _ _ _ hc) rfl rfl hk rfl ⟨by decide, by decide⟩ ⟨by decide, by decide⟩ (Nat.le_of_ble_eq_true rfl) dX4_takesControl_77 rfl (show zJ Γ 8 0 0 σ1 80 [(4, .int x7), (3, .int x6), (2, .int x5), (0, .ref p0), (1, .int p1)] [.int x8] from ?_)
        refine zj_istore (lv2 := [(5, .int x8), (4, .int x7), (3, .int x6), (2, .int x5), (0, .ref p0), (1, .int p1)]) E dX4_takesControl_80 (by decide) rfl ?_
        refine zj_aload_n E dX4_takesControl_82 rfl 4 rfl ?_
        refine zs_getR E zc4 0 (by decide) zw_3_13 rfl dX4_takesControl_83 h (fun a6 h => ?_)
        refine zj_iload_n E dX4_takesControl_86 rfl 5 rfl ?_
        refine zj_bipush (v := 24) E dX4_takesControl_87 (by decide) ?_
        refine zj_iadd E dX4_takesControl_89 ?_
        obtain ⟨hk, h⟩ := oA_some h
        obtain ⟨x9, hc, h⟩ := oB_some h
        refine zs_callV (As := [.int (p1 + (24 : Int32))]) (rest := []) E zc1 zyX1_at zw_8_21 (kX1_at _ _ _ _ _ hc) rfl rfl hk rfl ⟨by decide, by decide⟩ ⟨by decide, by decide⟩ (Nat.le_of_ble_eq_true rfl) dX4_takesControl_90 rfl (show zJ Γ 8 0 0 σ1 93 [(5, .int x8), (4, .int x7), (3, .int x6), (2, .int x5), (0, .ref p0), (1, .int p1)] [.int x9] from ?_)
        refine zj_istore (lv2 := [(6, .int x9), (5, .int x8), (4, .int x7), (3, .int x6), (2, .int x5), (0, .ref p0), (1, .int p1)]) E dX4_takesControl_93 (by decide) rfl ?_
        refine zj_aload_n E dX4_takesControl_95 rfl 5 rfl ?_
        refine zs_getR E zc4 0 (by decide) zw_3_13 rfl dX4_takesControl_96 h (fun a7 h => ?_)
        refine zj_iload_n E dX4_takesControl_99 rfl 6 rfl ?_
        refine zj_bipush (v := 25) E dX4_takesControl_100 (by decide) ?_
        refine zj_iadd E dX4_takesControl_102 ?_
        obtain ⟨hk, h⟩ := oA_some h
        obtain ⟨x10, hc, h⟩ := oB_some h
        refine zs_callV (As := [.int (p1 + (25 : Int32))]) (rest := []) E zc1 zyX1_at zw_8_21 (kX1_at _ _ _ _ _ hc) rfl rfl hk rfl ⟨by decide, by decide⟩ ⟨by decide, by decide⟩ (Nat.le_of_ble_eq_true rfl) dX4_takesControl_103 rfl (show zJ Γ 8 0 0 σ1 106 [(6, .int x9), (5, .int x8), (4, .int x7), (3, .int x6), (2, .int x5), (0, .ref p0), (1, .int p1)] [.int x10] from ?_)
        refine zj_istore (lv2 := [(7, .int x10), (6, .int x9), (5, .int x8), (4, .int x7), (3, .int x6), (2, .int x5), (0, .ref p0), (1, .int p1)]) E dX4_takesControl_106 (by decide) rfl ?_
        refine zj_aload_n E dX4_takesControl_108 rfl 6 rfl ?_
        refine zs_getR E zc4 3 (by decide) zw_3_11 rfl dX4_takesControl_109 h (fun a8 h => ?_)
        refine zj_iload_n E dX4_takesControl_112 rfl 5 rfl ?_
        refine zj_iload_n E dX4_takesControl_113 rfl 4 rfl ?_
        refine zj_iload E dX4_takesControl_114 3 rfl ?_
        refine zj_iload E dX4_takesControl_116 2 rfl ?_
        refine zj_iload E dX4_takesControl_118 1 rfl ?_
        refine zj_iload E dX4_takesControl_120 0 rfl ?_
        obtain ⟨hk, h⟩ := oA_some h
        obtain ⟨x11, hc, h⟩ := oB_some h
        refine zs_callV (As := [.int x5, .int x6, .int x7, .int x8, .int x9, .int x10]) (rest := []) E zc5 zyX5_allows zw_15_20 (kX5_allows _ _ _ _ _ hc) rfl rfl hk rfl ⟨by decide, by decide⟩ ⟨by decide, by decide⟩ (Nat.le_of_ble_eq_true rfl) dX4_takesControl_122 rfl (show zJ Γ 8 0 0 σ1 125 [(7, .int x10), (6, .int x9), (5, .int x8), (4, .int x7), (3, .int x6), (2, .int x5), (0, .ref p0), (1, .int p1)] [.int x11] from ?_)
        refine zj_if_ne (tgt := 130) E dX4_takesControl_125 (by decide) h (fun h => ?_) (fun h => ?_)
        · refine zj_aload_n E dX4_takesControl_130 rfl 6 rfl ?_
          refine zs_getR E zc4 3 (by decide) zw_3_11 rfl dX4_takesControl_131 h (fun a9 h => ?_)
          refine zj_iload_n E dX4_takesControl_134 rfl 5 rfl ?_
          refine zj_iload_n E dX4_takesControl_135 rfl 4 rfl ?_
          refine zj_iload E dX4_takesControl_136 3 rfl ?_
          refine zj_iload E dX4_takesControl_138 2 rfl ?_
          refine zj_iload E dX4_takesControl_140 1 rfl ?_
          refine zj_iload E dX4_takesControl_142 0 rfl ?_
          obtain ⟨hk, h⟩ := oA_some h
          obtain ⟨σ2, hc, h⟩ := oB_some h
          refine zs_callV (As := [.int x5, .int x6, .int x7, .int x8, .int x9, .int x10]) (rest := []) E zc5 zyX5_add zw_16_0 (kX5_add _ _ _ _ _ hc) rfl rfl hk rfl ⟨by decide, by decide⟩ ⟨by decide, by decide⟩ (Nat.le_of_ble_eq_true rfl) dX4_takesControl_144 rfl (show zJ Γ 8 0 0 σ2 147 [(7, .int x10), (6, .int x9), (5, .int x8), (4, .int x7), (3, .int x6), (2, .int x5), (0, .ref p0), (1, .int p1)] [] from ?_)
          refine zj_aload_n E dX4_takesControl_147 rfl 6 rfl ?_
          refine zs_getI E zc4 10 (by decide) zw_8_11 rfl dX4_takesControl_148 h (fun x12 h => ?_)
          refine zj_if_ne (tgt := 170) E dX4_takesControl_151 (by decide) h (fun h => ?_) (fun h => ?_)
          · refine zj_iconst (v := 1) E dX4_takesControl_170 (by decide) ?_
            have e9 := Option.some.inj h
            subst e9
            exact (show zRet Γ cX4_takesControl 8 0 0 (some (.int 1)) σ2 from K) _ _ dX4_takesControl_171
          · refine zj_aload_n E dX4_takesControl_154 rfl 6 rfl ?_
            refine zs_getR E zc4 3 (by decide) zw_3_11 rfl dX4_takesControl_155 h (fun a10 h => ?_)
            refine zj_iconst (v := 1) E dX4_takesControl_158 (by decide) ?_
            refine zs_putZN E zc5 3 (by decide) (znf_48) rfl rfl dX4_takesControl_159 h (fun σ3 h => ?_)
            refine zj_aload_n E dX4_takesControl_162 rfl 6 rfl ?_
            refine zs_getR E zc4 3 (by decide) zw_3_11 rfl dX4_takesControl_163 h (fun a11 h => ?_)
            obtain ⟨hk, h⟩ := oA_some h
            obtain ⟨x13, hc, h⟩ := oB_some h
            refine zs_callV (As := []) (rest := []) E zc5 zyX5_firstIsCanvas zw_16_4 (kX5_firstIsCanvas _ _ _ _ _ hc) rfl rfl hk rfl ⟨by decide, by decide⟩ ⟨by decide, by decide⟩ (Nat.le_of_ble_eq_true rfl) dX4_takesControl_166 rfl (show zJ Γ 8 0 0 σ3 169 [(7, .int x10), (6, .int x9), (5, .int x8), (4, .int x7), (3, .int x6), (2, .int x5), (0, .ref p0), (1, .int p1)] [.int x13] from ?_)
            have e9 := Option.some.inj h
            subst e9
            exact (show zRet Γ cX4_takesControl 8 0 0 (some (.int x13)) σ3 from K) _ _ dX4_takesControl_169
        · refine zj_iconst (v := 0) E dX4_takesControl_128 (by decide) ?_
          have e9 := Option.some.inj h
          subst e9
          exact (show zRet Γ cX4_takesControl 8 0 0 (some (.int 0)) σ1 from K) _ _ dX4_takesControl_129
      · refine zj_iconst (v := 0) E dX4_takesControl_31 (by decide) ?_
        have e9 := Option.some.inj h
        subst e9
        exact (show zRet Γ cX4_takesControl 8 0 0 (some (.int 0)) σ1 from K) _ _ dX4_takesControl_32
set_option maxRecDepth 100000 in
theorem kX4_takesControl (l : Launch) (D : va_G) (cs : zCs) (z0 : Nat) (σ : zS) {p0 : Nat} {p1 : Int32} {r : Int32} {σ' : zS} (h : fX4_takesControl σ p0 p1 = some (r, σ')) : zM l D cs z0 yX4_takesControl cX4_takesControl 8 (some .boolean) { frames := 2, cells := 0, slots := 0, locals := 43 } [.ref p0, .int p1] σ (some (.int r)) σ' 0 0 := by
  obtain ⟨r0, s0, h0, h⟩ := oC_some h
  obtain ⟨hz, h⟩ := oA_some h
  cases h
  exact zM_of (by decide) rfl (Or.inr ⟨rfl, hz⟩) (Nat.le_of_ble_eq_true rfl) rfl (fun Γ e1 e2 e3 e4 E hN K => wX4_takesControl E σ _ _ h0 K)
/-! X5_defaultPicture -/
def fX5_defaultPicture (σ : zS) (p0 : Nat) : Option Nat := oGI σ 6 p0 3 (fun x1 => (if x1 = 0 then oGR σ 6 p0 1 (fun a1 => some a1) else oGR σ 6 p0 0 (fun a2 => oLr σ a2 0 (fun a3 => some a3))))
set_option maxRecDepth 100000 in
theorem wX5_defaultPicture {Γ : zG} (E : zE Γ cX5_defaultPicture RX5 1 { frames := 0, cells := 0, slots := 0, locals := 0 }) (σ : zS) (p0 : Nat) {R : Nat} (h : fX5_defaultPicture σ p0 = some R) (K : zRet Γ cX5_defaultPicture 1 0 0 (some (.ref R)) σ) : zJ Γ 1 0 0 σ 0 [(0, .ref p0)] [] := by
  unfold fX5_defaultPicture at h
  refine zj_aload_n E dX5_defaultPicture_0 rfl 0 rfl ?_
  refine zs_getI E zc5 3 (by decide) zw_15_4 rfl dX5_defaultPicture_1 h (fun x1 h => ?_)
  refine zj_if_eq (tgt := 16) E dX5_defaultPicture_4 (by decide) h (fun h => ?_) (fun h => ?_)
  · refine zj_aload_n E dX5_defaultPicture_16 rfl 0 rfl ?_
    refine zs_getR E zc5 1 (by decide) zw_5_4 rfl dX5_defaultPicture_17 h (fun a1 h => ?_)
    have e9 := Option.some.inj h
    subst e9
    exact (show zRet Γ cX5_defaultPicture 1 0 0 (some (.ref a1)) σ from K) _ _ dX5_defaultPicture_20
  · refine zj_aload_n E dX5_defaultPicture_7 rfl 0 rfl ?_
    refine zs_getR E zc5 0 (by decide) zw_5_1 rfl dX5_defaultPicture_8 h (fun a2 h => ?_)
    refine zj_iconst (v := 0) E dX5_defaultPicture_11 (by decide) ?_
    refine zs_aald E dX5_defaultPicture_12 h (fun a3 h => ?_)
    refine zj_goto (tgt := 20) E dX5_defaultPicture_13 (by decide) ?_
    have e9 := Option.some.inj h
    subst e9
    exact (show zRet Γ cX5_defaultPicture 1 0 0 (some (.ref a3)) σ from K) _ _ dX5_defaultPicture_20
set_option maxRecDepth 100000 in
theorem kX5_defaultPicture (l : Launch) (D : va_G) (cs : zCs) (z0 : Nat) (σ : zS) {p0 : Nat} {r : Nat} (h : fX5_defaultPicture σ p0 = some r) : zM l D cs z0 yX5_defaultPicture cX5_defaultPicture 1 (some (.object "FrameReel$Picture")) { frames := 0, cells := 0, slots := 0, locals := 0 } [.ref p0] σ (some (.ref r)) σ 0 0 := by
  exact zM_of (by decide) rfl ⟨_, rfl⟩ (Nat.le_of_ble_eq_true rfl) rfl (fun Γ e1 e2 e3 e4 E hN K => wX5_defaultPicture E σ _ h K)
/-! X4_takesDefaultData -/
def fX4_takesDefaultData_58 (σ : zS) (l0 : Nat) (l1 : Int32) : Option (Int32 × zS) := oGR σ 5 l0 2 (fun a1 => oGR σ 9 a1 0 (fun a2 => oGR σ 5 l0 0 (fun a3 => oGI σ 5 l0 6 (fun x4 => oGI σ 5 l0 6 (fun x5 => oA (zk σ a2 = 2) (oB (fX1_addPart σ a2 a3 (x4 + (8 : Int32)) ((x5 + (8 : Int32)) + l1)) (fun σ1 => some (1, σ1))))))))
set_option maxRecDepth 100000 in
theorem wX4_takesDefaultData_58 {Γ : zG} (E : zE Γ cX4_takesDefaultData RX4 2 { frames := 2, cells := 0, slots := 0, locals := 45 }) (σ : zS) (l0 : Nat) (l1 : Int32) {R : (Int32 × zS)} (h : fX4_takesDefaultData_58 σ l0 l1 = some R) (K : zRet Γ cX4_takesDefaultData 2 0 0 (some (.int R.1)) R.2) : zJ Γ 2 0 0 σ 58 [(0, .ref l0), (1, .int l1)] [] := by
  unfold fX4_takesDefaultData_58 at h
  refine zj_aload_n E dX4_takesDefaultData_58 rfl 0 rfl ?_
  refine zs_getR E zc4 2 (by decide) zw_3_9 rfl dX4_takesDefaultData_59 h (fun a1 h => ?_)
  refine zs_getRN E zc8 0 (by decide) (znf_11) rfl dX4_takesDefaultData_62 h (fun a2 h => ?_)
  refine zj_aload_n E dX4_takesDefaultData_65 rfl 0 rfl ?_
  refine zs_getR E zc4 0 (by decide) zw_3_13 rfl dX4_takesDefaultData_66 h (fun a3 h => ?_)
  refine zj_aload_n E dX4_takesDefaultData_69 rfl 0 rfl ?_
  refine zs_getI E zc4 6 (by decide) zw_8_12 rfl dX4_takesDefaultData_70 h (fun x4 h => ?_)
  refine zj_bipush (v := 8) E dX4_takesDefaultData_73 (by decide) ?_
  refine zj_iadd E dX4_takesDefaultData_75 ?_
  refine zj_aload_n E dX4_takesDefaultData_76 rfl 0 rfl ?_
  refine zs_getI E zc4 6 (by decide) zw_8_12 rfl dX4_takesDefaultData_77 h (fun x5 h => ?_)
  refine zj_bipush (v := 8) E dX4_takesDefaultData_80 (by decide) ?_
  refine zj_iadd E dX4_takesDefaultData_82 ?_
  refine zj_iload_n E dX4_takesDefaultData_83 rfl 1 rfl ?_
  refine zj_iadd E dX4_takesDefaultData_84 ?_
  obtain ⟨hk, h⟩ := oA_some h
  obtain ⟨σ1, hc, h⟩ := oB_some h
  refine zs_callV (As := [.ref a3, .int (x4 + (8 : Int32)), .int ((x5 + (8 : Int32)) + l1)]) (rest := []) E zc1 zyX1_addPart zw_16_17 (kX1_addPart _ _ _ _ _ hc) rfl rfl hk rfl ⟨by decide, by decide⟩ ⟨by decide, by decide⟩ (Nat.le_of_ble_eq_true rfl) dX4_takesDefaultData_85 rfl (show zJ Γ 2 0 0 σ1 88 [(0, .ref l0), (1, .int l1)] [] from ?_)
  refine zj_iconst (v := 1) E dX4_takesDefaultData_88 (by decide) ?_
  have e9 := Option.some.inj h
  subst e9
  exact (show zRet Γ cX4_takesDefaultData 2 0 0 (some (.int 1)) σ1 from K) _ _ dX4_takesDefaultData_89
def fX4_takesDefaultData_25 (σ : zS) (l0 : Nat) (l1 : Int32) : Option (Int32 × zS) := oGI σ 5 l0 10 (fun x3 => (if x3 = 0 then oPZ σ 5 l0 10 1 (fun σ2 => oGR σ2 5 l0 3 (fun a4 => oA (zk σ2 a4 = 6) (oB (fX5_defaultPicture σ2 a4) (fun a5 => oPR σ2 5 l0 4 a5 (fun σ3 => oGR σ3 5 l0 2 (fun a6 => oGR σ3 9 a6 0 (fun a7 => oA (zk σ3 a7 = 2) (oB (fX1_clear σ3 a7) (fun σ4 => fX4_takesDefaultData_58 σ4 l0 l1))))))))) else fX4_takesDefaultData_58 σ l0 l1))
set_option maxRecDepth 100000 in
theorem wX4_takesDefaultData_25 {Γ : zG} (E : zE Γ cX4_takesDefaultData RX4 2 { frames := 2, cells := 0, slots := 0, locals := 45 }) (σ : zS) (l0 : Nat) (l1 : Int32) {R : (Int32 × zS)} (h : fX4_takesDefaultData_25 σ l0 l1 = some R) (K : zRet Γ cX4_takesDefaultData 2 0 0 (some (.int R.1)) R.2) : zJ Γ 2 0 0 σ 25 [(0, .ref l0), (1, .int l1)] [] := by
  unfold fX4_takesDefaultData_25 at h
  refine zj_aload_n E dX4_takesDefaultData_25 rfl 0 rfl ?_
  refine zs_getI E zc4 10 (by decide) zw_8_11 rfl dX4_takesDefaultData_26 h (fun x3 h => ?_)
  refine zj_if_ne (tgt := 58) E dX4_takesDefaultData_29 (by decide) h (fun h => ?_) (fun h => ?_)
  · refine zj_lv [0, 1] rfl ?_
    exact wX4_takesDefaultData_58 E _ _ _ h K
  · refine zj_aload_n E dX4_takesDefaultData_32 rfl 0 rfl ?_
    refine zj_iconst (v := 1) E dX4_takesDefaultData_33 (by decide) ?_
    refine zs_putZ E zc4 10 (by decide) zw_8_11 rfl rfl dX4_takesDefaultData_34 h (fun σ2 h => ?_)
    refine zj_aload_n E dX4_takesDefaultData_37 rfl 0 rfl ?_
    refine zj_aload_n E dX4_takesDefaultData_38 rfl 0 rfl ?_
    refine zs_getR E zc4 3 (by decide) zw_3_11 rfl dX4_takesDefaultData_39 h (fun a4 h => ?_)
    obtain ⟨hk, h⟩ := oA_some h
    obtain ⟨a5, hc, h⟩ := oB_some h
    refine zs_callV (As := []) (rest := [.ref l0]) E zc5 zyX5_defaultPicture zw_16_12 (kX5_defaultPicture _ _ _ _ _ hc) rfl rfl hk rfl ⟨by decide, by decide⟩ ⟨by decide, by decide⟩ (Nat.le_of_ble_eq_true rfl) dX4_takesDefaultData_42 rfl (show zJ Γ 2 0 0 σ2 45 [(0, .ref l0), (1, .int l1)] [.ref a5, .ref l0] from ?_)
    refine zs_putR E zc4 4 (by decide) zw_3_12 rfl rfl dX4_takesDefaultData_45 h (fun σ3 h => ?_)
    refine zj_aload_n E dX4_takesDefaultData_48 rfl 0 rfl ?_
    refine zs_getR E zc4 2 (by decide) zw_3_9 rfl dX4_takesDefaultData_49 h (fun a6 h => ?_)
    refine zs_getRN E zc8 0 (by decide) (znf_11) rfl dX4_takesDefaultData_52 h (fun a7 h => ?_)
    obtain ⟨hk, h⟩ := oA_some h
    obtain ⟨σ4, hc, h⟩ := oB_some h
    refine zs_callV (As := []) (rest := []) E zc1 zyX1_clear zw_16_16 (kX1_clear _ _ _ _ _ hc) rfl rfl hk rfl ⟨by decide, by decide⟩ ⟨by decide, by decide⟩ (Nat.le_of_ble_eq_true rfl) dX4_takesDefaultData_55 rfl (show zJ Γ 2 0 0 σ4 58 [(0, .ref l0), (1, .int l1)] [] from ?_)
    refine zj_lv [0, 1] rfl ?_
    exact wX4_takesDefaultData_58 E _ _ _ h K
def gX4_takesDefaultData (σ : zS) (p0 : Nat) (p1 : Int32) : Option (Int32 × zS) := oGI σ 5 p0 9 (fun x1 => (if x1 = 0 then some (0, σ) else oGI σ 5 p0 10 (fun x2 => (if x2 = 0 then fX4_takesDefaultData_25 σ p0 p1 else oGI σ 5 p0 7 (fun x6 => (if x6 = (1229209940 : Int32) then fX4_takesDefaultData_25 σ p0 p1 else some (0, σ)))))))
def fX4_takesDefaultData (σ : zS) (p0 : Nat) (p1 : Int32) : Option (Int32 × zS) := oC (gX4_takesDefaultData σ p0 p1) (fun r s => oA (r = 0 ∨ r = 1) (some (r, s)))
set_option maxRecDepth 100000 in
theorem wX4_takesDefaultData {Γ : zG} (E : zE Γ cX4_takesDefaultData RX4 2 { frames := 2, cells := 0, slots := 0, locals := 45 }) (σ : zS) (p0 : Nat) (p1 : Int32) {R : (Int32 × zS)} (h : gX4_takesDefaultData σ p0 p1 = some R) (K : zRet Γ cX4_takesDefaultData 2 0 0 (some (.int R.1)) R.2) : zJ Γ 2 0 0 σ 0 [(0, .ref p0), (1, .int p1)] [] := by
  unfold gX4_takesDefaultData at h
  refine zj_aload_n E dX4_takesDefaultData_0 rfl 0 rfl ?_
  refine zs_getI E zc4 9 (by decide) zw_8_10 rfl dX4_takesDefaultData_1 h (fun x1 h => ?_)
  refine zj_if_eq (tgt := 23) E dX4_takesDefaultData_4 (by decide) h (fun h => ?_) (fun h => ?_)
  · refine zj_iconst (v := 0) E dX4_takesDefaultData_23 (by decide) ?_
    have e9 := Option.some.inj h
    subst e9
    exact (show zRet Γ cX4_takesDefaultData 2 0 0 (some (.int 0)) σ from K) _ _ dX4_takesDefaultData_24
  · refine zj_aload_n E dX4_takesDefaultData_7 rfl 0 rfl ?_
    refine zs_getI E zc4 10 (by decide) zw_8_11 rfl dX4_takesDefaultData_8 h (fun x2 h => ?_)
    refine zj_if_eq (tgt := 25) E dX4_takesDefaultData_11 (by decide) h (fun h => ?_) (fun h => ?_)
    · refine zj_lv [0, 1] rfl ?_
      exact wX4_takesDefaultData_25 E _ _ _ h K
    · refine zj_aload_n E dX4_takesDefaultData_14 rfl 0 rfl ?_
      refine zs_getI E zc4 7 (by decide) zw_8_8 rfl dX4_takesDefaultData_15 h (fun x6 h => ?_)
      refine zj_ldc (v := 1229209940) E zw_9_5 dX4_takesDefaultData_18 ?_
      refine zj_icmp_eq (tgt := 25) E dX4_takesDefaultData_20 (by decide) h (fun h => ?_) (fun h => ?_)
      · refine zj_lv [0, 1] rfl ?_
        exact wX4_takesDefaultData_25 E _ _ _ h K
      · refine zj_iconst (v := 0) E dX4_takesDefaultData_23 (by decide) ?_
        have e9 := Option.some.inj h
        subst e9
        exact (show zRet Γ cX4_takesDefaultData 2 0 0 (some (.int 0)) σ from K) _ _ dX4_takesDefaultData_24
set_option maxRecDepth 100000 in
theorem kX4_takesDefaultData (l : Launch) (D : va_G) (cs : zCs) (z0 : Nat) (σ : zS) {p0 : Nat} {p1 : Int32} {r : Int32} {σ' : zS} (h : fX4_takesDefaultData σ p0 p1 = some (r, σ')) : zM l D cs z0 yX4_takesDefaultData cX4_takesDefaultData 2 (some .boolean) { frames := 2, cells := 0, slots := 0, locals := 45 } [.ref p0, .int p1] σ (some (.int r)) σ' 0 0 := by
  obtain ⟨r0, s0, h0, h⟩ := oC_some h
  obtain ⟨hz, h⟩ := oA_some h
  cases h
  exact zM_of (by decide) rfl (Or.inr ⟨rfl, hz⟩) (Nat.le_of_ble_eq_true rfl) rfl (fun Γ e1 e2 e3 e4 E hN K => wX4_takesDefaultData E σ _ _ h0 K)
