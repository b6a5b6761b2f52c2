/-! X2_isNoneOrOneBit -/
def fX2_isNoneOrOneBit_25 (σ : zS) : Option Int32 := some 1
set_option maxRecDepth 100000 in
theorem wX2_isNoneOrOneBit_25 {Γ : zG} (E : zE Γ cX2_isNoneOrOneBit RX2 1 { frames := 0, cells := 0, slots := 0, locals := 0 }) (σ : zS) {R : Int32} (h : fX2_isNoneOrOneBit_25 σ = some R) (K : zRet Γ cX2_isNoneOrOneBit 1 0 0 (some (.int R)) σ) : zJ Γ 1 0 0 σ 25 [] [] := by
  unfold fX2_isNoneOrOneBit_25 at h
  refine zj_iconst (v := 1) E dX2_isNoneOrOneBit_25 (by decide) ?_
  refine zj_goto (tgt := 30) E dX2_isNoneOrOneBit_26 (by decide) ?_
  have e9 := Option.some.inj h
  subst e9
  exact (show zRet Γ cX2_isNoneOrOneBit 1 0 0 (some (.int 1)) σ from K) _ _ dX2_isNoneOrOneBit_30
def gX2_isNoneOrOneBit (σ : zS) (p0 : Nat) : Option Int32 := oGI σ 3 p0 3 (fun x1 => (if x1 = 0 then fX2_isNoneOrOneBit_25 σ else oGI σ 3 p0 3 (fun x2 => (if x2 = (1 : Int32) then oGR σ 3 p0 0 (fun a1 => oLd σ 21 a1 1 (fun x3 => (if x3 = (1 : Int32) then fX2_isNoneOrOneBit_25 σ else some 0))) else some 0))))
def fX2_isNoneOrOneBit (σ : zS) (p0 : Nat) : Option Int32 := oB (gX2_isNoneOrOneBit σ p0) (fun r => oA (r = 0 ∨ r = 1) (some r))
set_option maxRecDepth 100000 in
theorem wX2_isNoneOrOneBit {Γ : zG} (E : zE Γ cX2_isNoneOrOneBit RX2 1 { frames := 0, cells := 0, slots := 0, locals := 0 }) (σ : zS) (p0 : Nat) {R : Int32} (h : gX2_isNoneOrOneBit σ p0 = some R) (K : zRet Γ cX2_isNoneOrOneBit 1 0 0 (some (.int R)) σ) : zJ Γ 1 0 0 σ 0 [(0, .ref p0)] [] := by
  unfold gX2_isNoneOrOneBit at h
  refine zj_aload_n E dX2_isNoneOrOneBit_0 rfl 0 rfl ?_
  refine zs_getI E zc2 3 (by decide) zw_11_13 rfl dX2_isNoneOrOneBit_1 h (fun x1 h => ?_)
  refine zj_if_eq (tgt := 25) E dX2_isNoneOrOneBit_4 (by decide) h (fun h => ?_) (fun h => ?_)
  · refine zj_lv [] rfl ?_
    exact wX2_isNoneOrOneBit_25 E _ h K
  · refine zj_aload_n E dX2_isNoneOrOneBit_7 rfl 0 rfl ?_
    refine zs_getI E zc2 3 (by decide) zw_11_13 rfl dX2_isNoneOrOneBit_8 h (fun x2 h => ?_)
    refine zj_iconst (v := 1) E dX2_isNoneOrOneBit_11 (by decide) ?_
    refine zj_icmp_ne (tgt := 29) E dX2_isNoneOrOneBit_12 (by decide) h (fun h => ?_) (fun h => ?_)
    · refine zj_iconst (v := 0) E dX2_isNoneOrOneBit_29 (by decide) ?_
      have e9 := Option.some.inj h
      subst e9
      exact (show zRet Γ cX2_isNoneOrOneBit 1 0 0 (some (.int 0)) σ from K) _ _ dX2_isNoneOrOneBit_30
    · refine zj_aload_n E dX2_isNoneOrOneBit_15 rfl 0 rfl ?_
      refine zs_getR E zc2 0 (by decide) zw_4_17 rfl dX2_isNoneOrOneBit_16 h (fun a1 h => ?_)
      refine zj_iconst (v := 1) E dX2_isNoneOrOneBit_19 (by decide) ?_
      refine zs_iald E dX2_isNoneOrOneBit_20 h (fun x3 h => ?_)
      refine zj_iconst (v := 1) E dX2_isNoneOrOneBit_21 (by decide) ?_
      refine zj_icmp_ne (tgt := 29) E dX2_isNoneOrOneBit_22 (by decide) h (fun h => ?_) (fun h => ?_)
      · refine zj_iconst (v := 0) E dX2_isNoneOrOneBit_29 (by decide) ?_
        have e9 := Option.some.inj h
        subst e9
        exact (show zRet Γ cX2_isNoneOrOneBit 1 0 0 (some (.int 0)) σ from K) _ _ dX2_isNoneOrOneBit_30
      · refine zj_lv [] rfl ?_
        exact wX2_isNoneOrOneBit_25 E _ h K
set_option maxRecDepth 100000 in
theorem kX2_isNoneOrOneBit (l : Launch) (D : va_G) (cs : zCs) (z0 : Nat) (σ : zS) {p0 : Nat} {r : Int32} (h : fX2_isNoneOrOneBit σ p0 = some r) : zM l D cs z0 yX2_isNoneOrOneBit cX2_isNoneOrOneBit 1 (some .boolean) { frames := 0, cells := 0, slots := 0, locals := 0 } [.ref p0] σ (some (.int r)) σ 0 0 := by
  obtain ⟨r0, h0, h⟩ := oB_some h
  obtain ⟨hz, h⟩ := oA_some h
  cases h
  exact zM_of (by decide) rfl (Or.inr ⟨rfl, hz⟩) (Nat.le_of_ble_eq_true rfl) rfl (fun Γ e1 e2 e3 e4 E hN K => wX2_isNoneOrOneBit E σ _ h0 K)
/-! X3_init -/
def fX3_init (σ : zS) (p0 : Nat) : Option zS := oNa σ 21 256 (fun a1 σ1 => oPR σ1 4 p0 0 a1 (fun σ2 => some σ2))
set_option maxRecDepth 100000 in
theorem wX3_init {Γ : zG} (E : zE Γ cX3_init RX3 1 { frames := 1, cells := 1, slots := 256, locals := 20 }) (hN : (zgt Γ).name = "<init>") (σ : zS) (p0 : Nat) {R : zS} (h : fX3_init σ p0 = some R) (K : zRet Γ cX3_init 1 1 256 (none) R) : zJ Γ 1 0 0 σ 0 [(0, .ref p0)] [] := by
  unfold fX3_init at h
  refine zj_aload_n E dX3_init_0 rfl 0 rfl ?_
  refine zs_obj E zw_5_7 zw_1_11 zw_1_12 (by decide) (Nat.le_of_ble_eq_true rfl) dX3_init_1 ?_
  refine zj_aload_n E dX3_init_4 rfl 0 rfl ?_
  refine zj_sipush (v := 256) E dX3_init_5 (by decide) ?_
  refine zt_newI (N := 256) E zw_2_17 (by decide) ⟨by decide, by decide⟩ dX3_init_8 h (fun a1 σ1 h => ?_)
  show zJ Γ 1 1 256 σ1 10 [(0, .ref p0)] [.ref a1, .ref p0]
  refine zs_putFR E zc3 hN 0 (by decide) zw_5_8 rfl rfl rfl dX3_init_10 h (fun σ2 h => ?_)
  have e9 := Option.some.inj h
  subst e9
  exact (show zRet Γ cX3_init 1 1 256 (none) σ2 from K) _ _ dX3_init_13
set_option maxRecDepth 100000 in
theorem kX3_init (l : Launch) (D : va_G) (cs : zCs) (z0 : Nat) (σ : zS) {p0 : Nat}  {σ' : zS} (h : fX3_init σ p0 = some σ') : zM l D cs z0 yX3_init cX3_init 1 none { frames := 1, cells := 1, slots := 256, locals := 20 } [.ref p0] σ none σ' 1 256 := by
  exact zM_of (by decide) rfl rfl (Nat.le_of_ble_eq_true rfl) rfl (fun Γ e1 e2 e3 e4 E hN K => wX3_init E hN σ _ h K)
/-! X3_clear -/
def fX3_clear (σ : zS) (p0 : Nat) : Option zS := oGR σ 4 p0 0 (fun a1 => oB (fJ7_fill_53178 σ a1 0) (fun σ1 => some σ1))
set_option maxRecDepth 100000 in
theorem wX3_clear {Γ : zG} (E : zE Γ cX3_clear RX3 1 { frames := 1, cells := 0, slots := 0, locals := 23 }) (σ : zS) (p0 : Nat) {R : zS} (h : fX3_clear σ p0 = some R) (K : zRet Γ cX3_clear 1 0 0 (none) R) : zJ Γ 1 0 0 σ 0 [(0, .ref p0)] [] := by
  unfold fX3_clear at h
  refine zj_aload_n E dX3_clear_0 rfl 0 rfl ?_
  refine zs_getR E zc3 0 (by decide) zw_5_8 rfl dX3_clear_1 h (fun a1 h => ?_)
  refine zj_iconst (v := 0) E dX3_clear_4 (by decide) ?_
  obtain ⟨σ1, hc, h⟩ := oB_some h
  refine zs_callS (As := [.ref a1, .int 0]) (rest := []) E zyJ7_fill_53178 zw_24_12 (kJ7_fill_53178 _ _ _ _ _ hc) rfl rfl rfl ⟨by decide, by decide⟩ ⟨by decide, by decide⟩ (Nat.le_of_ble_eq_true rfl) dX3_clear_5 rfl (show zJ Γ 1 0 0 σ1 8 [(0, .ref p0)] [] from ?_)
  have e9 := Option.some.inj h
  subst e9
  exact (show zRet Γ cX3_clear 1 0 0 (none) σ1 from K) _ _ dX3_clear_8
set_option maxRecDepth 100000 in
theorem kX3_clear (l : Launch) (D : va_G) (cs : zCs) (z0 : Nat) (σ : zS) {p0 : Nat}  {σ' : zS} (h : fX3_clear σ p0 = some σ') : zM l D cs z0 yX3_clear cX3_clear 1 none { frames := 1, cells := 0, slots := 0, locals := 23 } [.ref p0] σ none σ' 0 0 := by
  exact zM_of (by decide) rfl rfl (Nat.le_of_ble_eq_true rfl) rfl (fun Γ e1 e2 e3 e4 E hN K => wX3_clear E σ _ h K)
/-! X3_fact -/
def fX3_fact (σ : zS) (p0 : Nat) (p1 : Int32) : Option Int32 := (if p1 = 5 then oGI σ 4 p0 1 (fun x1 => some x1) else (if p1 = 6 then oGI σ 4 p0 2 (fun x2 => some x2) else (if p1 = 7 then oGI σ 4 p0 3 (fun x3 => some x3) else (if p1 = 8 then oGI σ 4 p0 4 (fun x4 => some x4) else (if p1 = 9 then oGI σ 4 p0 5 (fun x5 => some x5) else oGI σ 4 p0 6 (fun x6 => some x6))))))
set_option maxRecDepth 100000 in
theorem wX3_fact {Γ : zG} (E : zE Γ cX3_fact RX3 2 { frames := 0, cells := 0, slots := 0, locals := 0 }) (σ : zS) (p0 : Nat) (p1 : Int32) {R : Int32} (h : fX3_fact σ p0 p1 = some R) (K : zRet Γ cX3_fact 2 0 0 (some (.int R)) σ) : zJ Γ 2 0 0 σ 0 [(0, .ref p0), (1, .int p1)] [] := by
  unfold fX3_fact at h
  refine zj_iload_n E dX3_fact_0 rfl 1 rfl ?_
  by_cases e0 : p1 = 5
  · rw [if_pos e0] at h
    refine zj_tIn (tgt := 36) E e0 dX3_fact_1 (by decide) (by decide) rfl (by decide) ?_
    refine zj_aload_n E dX3_fact_36 rfl 0 rfl ?_
    refine zs_getI E zc3 1 (by decide) zw_26_21 rfl dX3_fact_37 h (fun x1 h => ?_)
    have e9 := Option.some.inj h
    subst e9
    exact (show zRet Γ cX3_fact 2 0 0 (some (.int x1)) σ from K) _ _ dX3_fact_40
  rw [if_neg e0] at h
  by_cases e1 : p1 = 6
  · rw [if_pos e1] at h
    refine zj_tIn (tgt := 41) E e1 dX3_fact_1 (by decide) (by decide) rfl (by decide) ?_
    refine zj_aload_n E dX3_fact_41 rfl 0 rfl ?_
    refine zs_getI E zc3 2 (by decide) zw_26_22 rfl dX3_fact_42 h (fun x2 h => ?_)
    have e9 := Option.some.inj h
    subst e9
    exact (show zRet Γ cX3_fact 2 0 0 (some (.int x2)) σ from K) _ _ dX3_fact_45
  rw [if_neg e1] at h
  by_cases e2 : p1 = 7
  · rw [if_pos e2] at h
    refine zj_tIn (tgt := 46) E e2 dX3_fact_1 (by decide) (by decide) rfl (by decide) ?_
    refine zj_aload_n E dX3_fact_46 rfl 0 rfl ?_
    refine zs_getI E zc3 3 (by decide) zw_26_23 rfl dX3_fact_47 h (fun x3 h => ?_)
    have e9 := Option.some.inj h
    subst e9
    exact (show zRet Γ cX3_fact 2 0 0 (some (.int x3)) σ from K) _ _ dX3_fact_50
  rw [if_neg e2] at h
  by_cases e3 : p1 = 8
  · rw [if_pos e3] at h
    refine zj_tIn (tgt := 51) E e3 dX3_fact_1 (by decide) (by decide) rfl (by decide) ?_
    refine zj_aload_n E dX3_fact_51 rfl 0 rfl ?_
    refine zs_getI E zc3 4 (by decide) zw_27_0 rfl dX3_fact_52 h (fun x4 h => ?_)
    have e9 := Option.some.inj h
    subst e9
    exact (show zRet Γ cX3_fact 2 0 0 (some (.int x4)) σ from K) _ _ dX3_fact_55
  rw [if_neg e3] at h
  by_cases e4 : p1 = 9
  · rw [if_pos e4] at h
    refine zj_tIn (tgt := 56) E e4 dX3_fact_1 (by decide) (by decide) rfl (by decide) ?_
    refine zj_aload_n E dX3_fact_56 rfl 0 rfl ?_
    refine zs_getI E zc3 5 (by decide) zw_27_1 rfl dX3_fact_57 h (fun x5 h => ?_)
    have e9 := Option.some.inj h
    subst e9
    exact (show zRet Γ cX3_fact 2 0 0 (some (.int x5)) σ from K) _ _ dX3_fact_60
  rw [if_neg e4] at h
  refine zj_tOut (tgt := 61) E dX3_fact_1 (by have := And.intro (lv_neT (a := 5) e0 (by decide)) (And.intro (lv_neT (a := 6) e1 (by decide)) (And.intro (lv_neT (a := 7) e2 (by decide)) (And.intro (lv_neT (a := 8) e3 (by decide)) (lv_neT (a := 9) e4 (by decide))))); omega) (by decide) ?_
  refine zj_aload_n E dX3_fact_61 rfl 0 rfl ?_
  refine zs_getI E zc3 6 (by decide) zw_27_2 rfl dX3_fact_62 h (fun x6 h => ?_)
  have e9 := Option.some.inj h
  subst e9
  exact (show zRet Γ cX3_fact 2 0 0 (some (.int x6)) σ from K) _ _ dX3_fact_65
set_option maxRecDepth 100000 in
theorem kX3_fact (l : Launch) (D : va_G) (cs : zCs) (z0 : Nat) (σ : zS) {p0 : Nat} {p1 : Int32} {r : Int32} (h : fX3_fact σ p0 p1 = some r) : zM l D cs z0 yX3_fact cX3_fact 2 (some .int) { frames := 0, cells := 0, slots := 0, locals := 0 } [.ref p0, .int p1] σ (some (.int r)) σ 0 0 := by
  exact zM_of (by decide) rfl (Or.inl rfl) (Nat.le_of_ble_eq_true rfl) rfl (fun Γ e1 e2 e3 e4 E hN K => wX3_fact E σ _ _ h K)
/-! X9_init -/
def fX9_init (σ : zS) (p0 : Nat) : Option zS := oNw σ 2 (fun a1 σ1 => oB (fX1_init σ1 a1 8000) (fun σ2 => oPR σ2 9 p0 0 a1 (fun σ3 => oNw σ3 2 (fun a2 σ4 => oB (fX1_init σ4 a2 1100) (fun σ5 => oPR σ5 9 p0 1 a2 (fun σ6 => oNw σ6 1 (fun a3 σ7 => oGR σ7 9 p0 0 (fun a4 => oB (fX0_init σ7 a3 a4) (fun σ8 => oPR σ8 9 p0 2 a3 (fun σ9 => oNw σ9 3 (fun a5 σ10 => oB (fX2_init σ10 a5) (fun σ11 => oPR σ11 9 p0 3 a5 (fun σ12 => oNw σ12 3 (fun a6 σ13 => oB (fX2_init σ13 a6) (fun σ14 => oPR σ14 9 p0 4 a6 (fun σ15 => oNw σ15 3 (fun a7 σ16 => oB (fX2_init σ16 a7) (fun σ17 => oPR σ17 9 p0 5 a7 (fun σ18 => oNa σ18 21 320 (fun a8 σ19 => oPR σ19 9 p0 6 a8 (fun σ20 => some σ20)))))))))))))))))))))
set_option maxRecDepth 100000 in
theorem wX9_init {Γ : zG} (E : zE Γ cX9_init RX9 1 { frames := 2, cells := 18, slots := 10401, locals := 41 }) (hN : (zgt Γ).name = "<init>") (σ : zS) (p0 : Nat) {R : zS} (h : fX9_init σ p0 = some R) (K : zRet Γ cX9_init 1 18 10401 (none) R) : zJ Γ 1 0 0 σ 0 [(0, .ref p0)] [] := by
  unfold fX9_init at h
  refine zj_aload_n E dX9_init_0 rfl 0 rfl ?_
  refine zs_obj E zw_3_17 zw_1_11 zw_1_12 (by decide) (Nat.le_of_ble_eq_true rfl) dX9_init_1 ?_
  refine zj_aload_n E dX9_init_4 rfl 0 rfl ?_
  refine zt_new E zc1 zw_3_18 zw_1_17 zw_1_18 (by decide) ⟨by decide, by decide⟩ dX9_init_5 h (fun a1 σ1 h => ?_)
  show zJ Γ 1 1 2 σ1 8 [(0, .ref p0)] [.ref a1, .ref p0]
  refine zj_dup E dX9_init_8 rfl ?_
  refine zj_sipush (v := 8000) E dX9_init_9 (by decide) ?_
  obtain ⟨σ2, hc, h⟩ := oB_some h
  refine zs_callI (As := [.int 8000]) (rest := [.ref a1, .ref p0]) E zyX1_init zw_4_8 (kX1_init _ _ _ _ _ (N := 8000) (by decide) hc) rfl rfl rfl ⟨by decide, by decide⟩ ⟨by decide, by decide⟩ (Nat.le_of_ble_eq_true rfl) dX9_init_12 rfl (show zJ Γ 1 2 8002 σ2 15 [(0, .ref p0)] [.ref a1, .ref p0] from ?_)
  refine zs_putFR E zc8 hN 0 (by decide) zw_3_19 rfl rfl rfl dX9_init_15 h (fun σ3 h => ?_)
  refine zj_aload_n E dX9_init_18 rfl 0 rfl ?_
  refine zt_new E zc1 zw_3_18 zw_1_17 zw_1_18 (by decide) ⟨by decide, by decide⟩ dX9_init_19 h (fun a2 σ4 h => ?_)
  show zJ Γ 1 3 8004 σ4 22 [(0, .ref p0)] [.ref a2, .ref p0]
  refine zj_dup E dX9_init_22 rfl ?_
  refine zj_sipush (v := 1100) E dX9_init_23 (by decide) ?_
  obtain ⟨σ5, hc, h⟩ := oB_some h
  refine zs_callI (As := [.int 1100]) (rest := [.ref a2, .ref p0]) E zyX1_init zw_4_8 (kX1_init _ _ _ _ _ (N := 1100) (by decide) hc) rfl rfl rfl ⟨by decide, by decide⟩ ⟨by decide, by decide⟩ (Nat.le_of_ble_eq_true rfl) dX9_init_26 rfl (show zJ Γ 1 4 9104 σ5 29 [(0, .ref p0)] [.ref a2, .ref p0] from ?_)
  refine zs_putFR E zc8 hN 1 (by decide) zw_3_20 rfl rfl rfl dX9_init_29 h (fun σ6 h => ?_)
  refine zj_aload_n E dX9_init_32 rfl 0 rfl ?_
  refine zt_new E zc0 zw_3_21 zw_3_22 zw_3_23 (by decide) ⟨by decide, by decide⟩ dX9_init_33 h (fun a3 σ7 h => ?_)
  show zJ Γ 1 5 9106 σ7 36 [(0, .ref p0)] [.ref a3, .ref p0]
  refine zj_dup E dX9_init_36 rfl ?_
  refine zj_aload_n E dX9_init_37 rfl 0 rfl ?_
  refine zs_getR E zc8 0 (by decide) zw_3_19 rfl dX9_init_38 h (fun a4 h => ?_)
  obtain ⟨σ8, hc, h⟩ := oB_some h
  refine zs_callI (As := [.ref a4]) (rest := [.ref a3, .ref p0]) E zyX0_init zw_4_9 (kX0_init _ _ _ _ _ hc) rfl rfl rfl ⟨by decide, by decide⟩ ⟨by decide, by decide⟩ (Nat.le_of_ble_eq_true rfl) dX9_init_41 rfl (show zJ Γ 1 5 9106 σ8 44 [(0, .ref p0)] [.ref a3, .ref p0] from ?_)
  refine zs_putFR E zc8 hN 2 (by decide) zw_4_0 rfl rfl rfl dX9_init_44 h (fun σ9 h => ?_)
  refine zj_aload_n E dX9_init_47 rfl 0 rfl ?_
  refine zt_new E zc2 zw_4_1 zw_4_2 zw_4_3 (by decide) ⟨by decide, by decide⟩ dX9_init_48 h (fun a5 σ10 h => ?_)
  show zJ Γ 1 6 9110 σ10 51 [(0, .ref p0)] [.ref a5, .ref p0]
  refine zj_dup E dX9_init_51 rfl ?_
  obtain ⟨σ11, hc, h⟩ := oB_some h
  refine zs_callIN (As := []) (rest := [.ref a5, .ref p0]) E zyX2_init znm_1 (kX2_init _ _ _ _ _ hc) rfl rfl rfl ⟨by decide, by decide⟩ ⟨by decide, by decide⟩ (Nat.le_of_ble_eq_true rfl) dX9_init_52 rfl (show zJ Γ 1 9 9431 σ11 55 [(0, .ref p0)] [.ref a5, .ref p0] from ?_)
  refine zs_putFR E zc8 hN 3 (by decide) zw_4_4 rfl rfl rfl dX9_init_55 h (fun σ12 h => ?_)
  refine zj_aload_n E dX9_init_58 rfl 0 rfl ?_
  refine zt_new E zc2 zw_4_1 zw_4_2 zw_4_3 (by decide) ⟨by decide, by decide⟩ dX9_init_59 h (fun a6 σ13 h => ?_)
  show zJ Γ 1 10 9435 σ13 62 [(0, .ref p0)] [.ref a6, .ref p0]
  refine zj_dup E dX9_init_62 rfl ?_
  obtain ⟨σ14, hc, h⟩ := oB_some h
  refine zs_callIN (As := []) (rest := [.ref a6, .ref p0]) E zyX2_init znm_1 (kX2_init _ _ _ _ _ hc) rfl rfl rfl ⟨by decide, by decide⟩ ⟨by decide, by decide⟩ (Nat.le_of_ble_eq_true rfl) dX9_init_63 rfl (show zJ Γ 1 13 9756 σ14 66 [(0, .ref p0)] [.ref a6, .ref p0] from ?_)
  refine zs_putFR E zc8 hN 4 (by decide) zw_4_5 rfl rfl rfl dX9_init_66 h (fun σ15 h => ?_)
  refine zj_aload_n E dX9_init_69 rfl 0 rfl ?_
  refine zt_new E zc2 zw_4_1 zw_4_2 zw_4_3 (by decide) ⟨by decide, by decide⟩ dX9_init_70 h (fun a7 σ16 h => ?_)
  show zJ Γ 1 14 9760 σ16 73 [(0, .ref p0)] [.ref a7, .ref p0]
  refine zj_dup E dX9_init_73 rfl ?_
  obtain ⟨σ17, hc, h⟩ := oB_some h
  refine zs_callIN (As := []) (rest := [.ref a7, .ref p0]) E zyX2_init znm_1 (kX2_init _ _ _ _ _ hc) rfl rfl rfl ⟨by decide, by decide⟩ ⟨by decide, by decide⟩ (Nat.le_of_ble_eq_true rfl) dX9_init_74 rfl (show zJ Γ 1 17 10081 σ17 77 [(0, .ref p0)] [.ref a7, .ref p0] from ?_)
  refine zs_putFR E zc8 hN 5 (by decide) zw_4_6 rfl rfl rfl dX9_init_77 h (fun σ18 h => ?_)
  refine zj_aload_n E dX9_init_80 rfl 0 rfl ?_
  refine zj_sipush (v := 320) E dX9_init_81 (by decide) ?_
  refine zt_newI (N := 320) E zw_2_17 (by decide) ⟨by decide, by decide⟩ dX9_init_84 h (fun a8 σ19 h => ?_)
  show zJ Γ 1 18 10401 σ19 86 [(0, .ref p0)] [.ref a8, .ref p0]
  refine zs_putFR E zc8 hN 6 (by decide) zw_4_7 rfl rfl rfl dX9_init_86 h (fun σ20 h => ?_)
  have e9 := Option.some.inj h
  subst e9
  exact (show zRet Γ cX9_init 1 18 10401 (none) σ20 from K) _ _ dX9_init_89
set_option maxRecDepth 100000 in
theorem kX9_init (l : Launch) (D : va_G) (cs : zCs) (z0 : Nat) (σ : zS) {p0 : Nat}  {σ' : zS} (h : fX9_init σ p0 = some σ') : zM l D cs z0 yX9_init cX9_init 1 none { frames := 2, cells := 18, slots := 10401, locals := 41 } [.ref p0] σ none σ' 18 10401 := by
  exact zM_of (by decide) rfl rfl (Nat.le_of_ble_eq_true rfl) rfl (fun Γ e1 e2 e3 e4 E hN K => wX9_init E hN σ _ h K)
/-! X5_init -/
def fX5_init (σ : zS) (p0 : Nat) : Option zS := oNa σ 22 8 (fun a1 σ1 => oPR σ1 6 p0 0 a1 (fun σ2 => oNw σ2 4 (fun a2 σ3 => oB (fX3_init σ3 a2) (fun σ4 => oPR σ4 6 p0 1 a2 (fun σ5 => oGR σ5 6 p0 0 (fun a3 => oNw σ5 4 (fun a4 σ6 => oB (fX3_init σ6 a4) (fun σ7 => oSr σ7 a3 0 a4 (fun σ8 => oGR σ8 6 p0 0 (fun a5 => oNw σ8 4 (fun a6 σ9 => oB (fX3_init σ9 a6) (fun σ10 => oSr σ10 a5 1 a6 (fun σ11 => oGR σ11 6 p0 0 (fun a7 => oNw σ11 4 (fun a8 σ12 => oB (fX3_init σ12 a8) (fun σ13 => oSr σ13 a7 2 a8 (fun σ14 => oGR σ14 6 p0 0 (fun a9 => oNw σ14 4 (fun a10 σ15 => oB (fX3_init σ15 a10) (fun σ16 => oSr σ16 a9 3 a10 (fun σ17 => oGR σ17 6 p0 0 (fun a11 => oNw σ17 4 (fun a12 σ18 => oB (fX3_init σ18 a12) (fun σ19 => oSr σ19 a11 4 a12 (fun σ20 => oGR σ20 6 p0 0 (fun a13 => oNw σ20 4 (fun a14 σ21 => oB (fX3_init σ21 a14) (fun σ22 => oSr σ22 a13 5 a14 (fun σ23 => oGR σ23 6 p0 0 (fun a15 => oNw σ23 4 (fun a16 σ24 => oB (fX3_init σ24 a16) (fun σ25 => oSr σ25 a15 6 a16 (fun σ26 => oGR σ26 6 p0 0 (fun a17 => oNw σ26 4 (fun a18 σ27 => oB (fX3_init σ27 a18) (fun σ28 => oSr σ28 a17 7 a18 (fun σ29 => some σ29)))))))))))))))))))))))))))))))))))))
set_option maxRecDepth 100000 in
theorem wX5_init {Γ : zG} (E : zE Γ cX5_init RX5 2 { frames := 2, cells := 19, slots := 2375, locals := 40 }) (hN : (zgt Γ).name = "<init>") (σ : zS) (p0 : Nat) {R : zS} (h : fX5_init σ p0 = some R) (K : zRet Γ cX5_init 2 19 2375 (none) R) : zJ Γ 2 0 0 σ 0 [(0, .ref p0)] [] := by
  unfold fX5_init at h
  refine zj_aload_n E dX5_init_0 rfl 0 rfl ?_
  refine zs_obj E zw_4_23 zw_1_11 zw_1_12 (by decide) (Nat.le_of_ble_eq_true rfl) dX5_init_1 ?_
  refine zj_aload_n E dX5_init_4 rfl 0 rfl ?_
  refine zj_bipush (v := 8) E dX5_init_5 (by decide) ?_
  refine zt_newP (N := 8) E zw_5_0 (by decide) ⟨by decide, by decide⟩ dX5_init_7 h (fun a1 σ1 h => ?_)
  show zJ Γ 2 1 8 σ1 10 [(0, .ref p0)] [.ref a1, .ref p0]
  refine zs_putFR E zc5 hN 0 (by decide) zw_5_1 rfl rfl rfl dX5_init_10 h (fun σ2 h => ?_)
  refine zj_aload_n E dX5_init_13 rfl 0 rfl ?_
  refine zt_new E zc3 zw_5_0 zw_5_2 zw_5_3 (by decide) ⟨by decide, by decide⟩ dX5_init_14 h (fun a2 σ3 h => ?_)
  show zJ Γ 2 2 15 σ3 17 [(0, .ref p0)] [.ref a2, .ref p0]
  refine zj_dup E dX5_init_17 rfl ?_
  obtain ⟨σ4, hc, h⟩ := oB_some h
  refine zs_callIN (As := []) (rest := [.ref a2, .ref p0]) E zyX3_init znm_2 (kX3_init _ _ _ _ _ hc) rfl rfl rfl ⟨by decide, by decide⟩ ⟨by decide, by decide⟩ (Nat.le_of_ble_eq_true rfl) dX5_init_18 rfl (show zJ Γ 2 3 271 σ4 21 [(0, .ref p0)] [.ref a2, .ref p0] from ?_)
  refine zs_putFR E zc5 hN 1 (by decide) zw_5_4 rfl rfl rfl dX5_init_21 h (fun σ5 h => ?_)
  refine zj_iconst (v := 0) E dX5_init_24 (by decide) ?_
  refine zj_istore_n (lv2 := [(1, .int 0), (0, .ref p0)]) E dX5_init_25 rfl (by decide) rfl ?_
  refine zj_iload_n E dX5_init_26 rfl 0 rfl ?_
  refine zj_bipush (v := 8) E dX5_init_27 (by decide) ?_
  refine zj_icmp_geF (tgt := 51) E dX5_init_29 (by decide) (by decide) ?_
  refine zj_aload_n E dX5_init_32 rfl 1 rfl ?_
  refine zs_getR E zc5 0 (by decide) zw_5_1 rfl dX5_init_33 h (fun a3 h => ?_)
  refine zj_iload_n E dX5_init_36 rfl 0 rfl ?_
  refine zt_new E zc3 zw_5_0 zw_5_2 zw_5_3 (by decide) ⟨by decide, by decide⟩ dX5_init_37 h (fun a4 σ6 h => ?_)
  show zJ Γ 2 4 278 σ6 40 [(1, .int 0), (0, .ref p0)] [.ref a4, .int 0, .ref a3]
  refine zj_dup E dX5_init_40 rfl ?_
  obtain ⟨σ7, hc, h⟩ := oB_some h
  refine zs_callIN (As := []) (rest := [.ref a4, .int 0, .ref a3]) E zyX3_init znm_2 (kX3_init _ _ _ _ _ hc) rfl rfl rfl ⟨by decide, by decide⟩ ⟨by decide, by decide⟩ (Nat.le_of_ble_eq_true rfl) dX5_init_41 rfl (show zJ Γ 2 5 534 σ7 44 [(1, .int 0), (0, .ref p0)] [.ref a4, .int 0, .ref a3] from ?_)
  refine zs_aast E dX5_init_44 h (fun σ8 h => ?_)
  refine zj_iincC (v := 1) (lv2 := [(1, .int 1), (0, .ref p0)]) E dX5_init_45 0 rfl (by decide) (by decide) rfl ?_
  refine zj_goto (tgt := 26) E dX5_init_48 (by decide) ?_
  refine zj_iload_n E dX5_init_26 rfl 0 rfl ?_
  refine zj_bipush (v := 8) E dX5_init_27 (by decide) ?_
  refine zj_icmp_geF (tgt := 51) E dX5_init_29 (by decide) (by decide) ?_
  refine zj_aload_n E dX5_init_32 rfl 1 rfl ?_
  refine zs_getR E zc5 0 (by decide) zw_5_1 rfl dX5_init_33 h (fun a5 h => ?_)
  refine zj_iload_n E dX5_init_36 rfl 0 rfl ?_
  refine zt_new E zc3 zw_5_0 zw_5_2 zw_5_3 (by decide) ⟨by decide, by decide⟩ dX5_init_37 h (fun a6 σ9 h => ?_)
  show zJ Γ 2 6 541 σ9 40 [(1, .int 1), (0, .ref p0)] [.ref a6, .int 1, .ref a5]
  refine zj_dup E dX5_init_40 rfl ?_
  obtain ⟨σ10, hc, h⟩ := oB_some h
  refine zs_callIN (As := []) (rest := [.ref a6, .int 1, .ref a5]) E zyX3_init znm_2 (kX3_init _ _ _ _ _ hc) rfl rfl rfl ⟨by decide, by decide⟩ ⟨by decide, by decide⟩ (Nat.le_of_ble_eq_true rfl) dX5_init_41 rfl (show zJ Γ 2 7 797 σ10 44 [(1, .int 1), (0, .ref p0)] [.ref a6, .int 1, .ref a5] from ?_)
  refine zs_aast E dX5_init_44 h (fun σ11 h => ?_)
  refine zj_iincC (v := 2) (lv2 := [(1, .int 2), (0, .ref p0)]) E dX5_init_45 0 rfl (by decide) (by decide) rfl ?_
  refine zj_goto (tgt := 26) E dX5_init_48 (by decide) ?_
  refine zj_iload_n E dX5_init_26 rfl 0 rfl ?_
  refine zj_bipush (v := 8) E dX5_init_27 (by decide) ?_
  refine zj_icmp_geF (tgt := 51) E dX5_init_29 (by decide) (by decide) ?_
  refine zj_aload_n E dX5_init_32 rfl 1 rfl ?_
  refine zs_getR E zc5 0 (by decide) zw_5_1 rfl dX5_init_33 h (fun a7 h => ?_)
  refine zj_iload_n E dX5_init_36 rfl 0 rfl ?_
  refine zt_new E zc3 zw_5_0 zw_5_2 zw_5_3 (by decide) ⟨by decide, by decide⟩ dX5_init_37 h (fun a8 σ12 h => ?_)
  show zJ Γ 2 8 804 σ12 40 [(1, .int 2), (0, .ref p0)] [.ref a8, .int 2, .ref a7]
  refine zj_dup E dX5_init_40 rfl ?_
  obtain ⟨σ13, hc, h⟩ := oB_some h
  refine zs_callIN (As := []) (rest := [.ref a8, .int 2, .ref a7]) E zyX3_init znm_2 (kX3_init _ _ _ _ _ hc) rfl rfl rfl ⟨by decide, by decide⟩ ⟨by decide, by decide⟩ (Nat.le_of_ble_eq_true rfl) dX5_init_41 rfl (show zJ Γ 2 9 1060 σ13 44 [(1, .int 2), (0, .ref p0)] [.ref a8, .int 2, .ref a7] from ?_)
  refine zs_aast E dX5_init_44 h (fun σ14 h => ?_)
  refine zj_iincC (v := 3) (lv2 := [(1, .int 3), (0, .ref p0)]) E dX5_init_45 0 rfl (by decide) (by decide) rfl ?_
  refine zj_goto (tgt := 26) E dX5_init_48 (by decide) ?_
  refine zj_iload_n E dX5_init_26 rfl 0 rfl ?_
  refine zj_bipush (v := 8) E dX5_init_27 (by decide) ?_
  refine zj_icmp_geF (tgt := 51) E dX5_init_29 (by decide) (by decide) ?_
  refine zj_aload_n E dX5_init_32 rfl 1 rfl ?_
  refine zs_getR E zc5 0 (by decide) zw_5_1 rfl dX5_init_33 h (fun a9 h => ?_)
  refine zj_iload_n E dX5_init_36 rfl 0 rfl ?_
  refine zt_new E zc3 zw_5_0 zw_5_2 zw_5_3 (by decide) ⟨by decide, by decide⟩ dX5_init_37 h (fun a10 σ15 h => ?_)
  show zJ Γ 2 10 1067 σ15 40 [(1, .int 3), (0, .ref p0)] [.ref a10, .int 3, .ref a9]
  refine zj_dup E dX5_init_40 rfl ?_
  obtain ⟨σ16, hc, h⟩ := oB_some h
  refine zs_callIN (As := []) (rest := [.ref a10, .int 3, .ref a9]) E zyX3_init znm_2 (kX3_init _ _ _ _ _ hc) rfl rfl rfl ⟨by decide, by decide⟩ ⟨by decide, by decide⟩ (Nat.le_of_ble_eq_true rfl) dX5_init_41 rfl (show zJ Γ 2 11 1323 σ16 44 [(1, .int 3), (0, .ref p0)] [.ref a10, .int 3, .ref a9] from ?_)
  refine zs_aast E dX5_init_44 h (fun σ17 h => ?_)
  refine zj_iincC (v := 4) (lv2 := [(1, .int 4), (0, .ref p0)]) E dX5_init_45 0 rfl (by decide) (by decide) rfl ?_
  refine zj_goto (tgt := 26) E dX5_init_48 (by decide) ?_
  refine zj_iload_n E dX5_init_26 rfl 0 rfl ?_
  refine zj_bipush (v := 8) E dX5_init_27 (by decide) ?_
  refine zj_icmp_geF (tgt := 51) E dX5_init_29 (by decide) (by decide) ?_
  refine zj_aload_n E dX5_init_32 rfl 1 rfl ?_
  refine zs_getR E zc5 0 (by decide) zw_5_1 rfl dX5_init_33 h (fun a11 h => ?_)
  refine zj_iload_n E dX5_init_36 rfl 0 rfl ?_
  refine zt_new E zc3 zw_5_0 zw_5_2 zw_5_3 (by decide) ⟨by decide, by decide⟩ dX5_init_37 h (fun a12 σ18 h => ?_)
  show zJ Γ 2 12 1330 σ18 40 [(1, .int 4), (0, .ref p0)] [.ref a12, .int 4, .ref a11]
  refine zj_dup E dX5_init_40 rfl ?_
  obtain ⟨σ19, hc, h⟩ := oB_some h
  refine zs_callIN (As := []) (rest := [.ref a12, .int 4, .ref a11]) E zyX3_init znm_2 (kX3_init _ _ _ _ _ hc) rfl rfl rfl ⟨by decide, by decide⟩ ⟨by decide, by decide⟩ (Nat.le_of_ble_eq_true rfl) dX5_init_41 rfl (show zJ Γ 2 13 1586 σ19 44 [(1, .int 4), (0, .ref p0)] [.ref a12, .int 4, .ref a11] from ?_)
  refine zs_aast E dX5_init_44 h (fun σ20 h => ?_)
  refine zj_iincC (v := 5) (lv2 := [(1, .int 5), (0, .ref p0)]) E dX5_init_45 0 rfl (by decide) (by decide) rfl ?_
  refine zj_goto (tgt := 26) E dX5_init_48 (by decide) ?_
  refine zj_iload_n E dX5_init_26 rfl 0 rfl ?_
  refine zj_bipush (v := 8) E dX5_init_27 (by decide) ?_
  refine zj_icmp_geF (tgt := 51) E dX5_init_29 (by decide) (by decide) ?_
  refine zj_aload_n E dX5_init_32 rfl 1 rfl ?_
  refine zs_getR E zc5 0 (by decide) zw_5_1 rfl dX5_init_33 h (fun a13 h => ?_)
  refine zj_iload_n E dX5_init_36 rfl 0 rfl ?_
  refine zt_new E zc3 zw_5_0 zw_5_2 zw_5_3 (by decide) ⟨by decide, by decide⟩ dX5_init_37 h (fun a14 σ21 h => ?_)
  show zJ Γ 2 14 1593 σ21 40 [(1, .int 5), (0, .ref p0)] [.ref a14, .int 5, .ref a13]
  refine zj_dup E dX5_init_40 rfl ?_
  obtain ⟨σ22, hc, h⟩ := oB_some h
  refine zs_callIN (As := []) (rest := [.ref a14, .int 5, .ref a13]) E zyX3_init znm_2 (kX3_init _ _ _ _ _ hc) rfl rfl rfl ⟨by decide, by decide⟩ ⟨by decide, by decide⟩ (Nat.le_of_ble_eq_true rfl) dX5_init_41 rfl (show zJ Γ 2 15 1849 σ22 44 [(1, .int 5), (0, .ref p0)] [.ref a14, .int 5, .ref a13] from ?_)
  refine zs_aast E dX5_init_44 h (fun σ23 h => ?_)
  refine zj_iincC (v := 6) (lv2 := [(1, .int 6), (0, .ref p0)]) E dX5_init_45 0 rfl (by decide) (by decide) rfl ?_
  refine zj_goto (tgt := 26) E dX5_init_48 (by decide) ?_
  refine zj_iload_n E dX5_init_26 rfl 0 rfl ?_
  refine zj_bipush (v := 8) E dX5_init_27 (by decide) ?_
  refine zj_icmp_geF (tgt := 51) E dX5_init_29 (by decide) (by decide) ?_
  refine zj_aload_n E dX5_init_32 rfl 1 rfl ?_
  refine zs_getR E zc5 0 (by decide) zw_5_1 rfl dX5_init_33 h (fun a15 h => ?_)
  refine zj_iload_n E dX5_init_36 rfl 0 rfl ?_
  refine zt_new E zc3 zw_5_0 zw_5_2 zw_5_3 (by decide) ⟨by decide, by decide⟩ dX5_init_37 h (fun a16 σ24 h => ?_)
  show zJ Γ 2 16 1856 σ24 40 [(1, .int 6), (0, .ref p0)] [.ref a16, .int 6, .ref a15]
  refine zj_dup E dX5_init_40 rfl ?_
  obtain ⟨σ25, hc, h⟩ := oB_some h
  refine zs_callIN (As := []) (rest := [.ref a16, .int 6, .ref a15]) E zyX3_init znm_2 (kX3_init _ _ _ _ _ hc) rfl rfl rfl ⟨by decide, by decide⟩ ⟨by decide, by decide⟩ (Nat.le_of_ble_eq_true rfl) dX5_init_41 rfl (show zJ Γ 2 17 2112 σ25 44 [(1, .int 6), (0, .ref p0)] [.ref a16, .int 6, .ref a15] from ?_)
  refine zs_aast E dX5_init_44 h (fun σ26 h => ?_)
  refine zj_iincC (v := 7) (lv2 := [(1, .int 7), (0, .ref p0)]) E dX5_init_45 0 rfl (by decide) (by decide) rfl ?_
  refine zj_goto (tgt := 26) E dX5_init_48 (by decide) ?_
  refine zj_iload_n E dX5_init_26 rfl 0 rfl ?_
  refine zj_bipush (v := 8) E dX5_init_27 (by decide) ?_
  refine zj_icmp_geF (tgt := 51) E dX5_init_29 (by decide) (by decide) ?_
  refine zj_aload_n E dX5_init_32 rfl 1 rfl ?_
  refine zs_getR E zc5 0 (by decide) zw_5_1 rfl dX5_init_33 h (fun a17 h => ?_)
  refine zj_iload_n E dX5_init_36 rfl 0 rfl ?_
  refine zt_new E zc3 zw_5_0 zw_5_2 zw_5_3 (by decide) ⟨by decide, by decide⟩ dX5_init_37 h (fun a18 σ27 h => ?_)
  show zJ Γ 2 18 2119 σ27 40 [(1, .int 7), (0, .ref p0)] [.ref a18, .int 7, .ref a17]
  refine zj_dup E dX5_init_40 rfl ?_
  obtain ⟨σ28, hc, h⟩ := oB_some h
  refine zs_callIN (As := []) (rest := [.ref a18, .int 7, .ref a17]) E zyX3_init znm_2 (kX3_init _ _ _ _ _ hc) rfl rfl rfl ⟨by decide, by decide⟩ ⟨by decide, by decide⟩ (Nat.le_of_ble_eq_true rfl) dX5_init_41 rfl (show zJ Γ 2 19 2375 σ28 44 [(1, .int 7), (0, .ref p0)] [.ref a18, .int 7, .ref a17] from ?_)
  refine zs_aast E dX5_init_44 h (fun σ29 h => ?_)
  refine zj_iincC (v := 8) (lv2 := [(1, .int 8), (0, .ref p0)]) E dX5_init_45 0 rfl (by decide) (by decide) rfl ?_
  refine zj_goto (tgt := 26) E dX5_init_48 (by decide) ?_
  refine zj_iload_n E dX5_init_26 rfl 0 rfl ?_
  refine zj_bipush (v := 8) E dX5_init_27 (by decide) ?_
  refine zj_icmp_geT (tgt := 51) E dX5_init_29 (by decide) (by decide) ?_
  have e9 := Option.some.inj h
  subst e9
  exact (show zRet Γ cX5_init 2 19 2375 (none) σ29 from K) _ _ dX5_init_51
set_option maxRecDepth 100000 in
theorem kX5_init (l : Launch) (D : va_G) (cs : zCs) (z0 : Nat) (σ : zS) {p0 : Nat}  {σ' : zS} (h : fX5_init σ p0 = some σ') : zM l D cs z0 yX5_init cX5_init 2 none { frames := 2, cells := 19, slots := 2375, locals := 40 } [.ref p0] σ none σ' 19 2375 := by
  exact zM_of (by decide) rfl rfl (Nat.le_of_ble_eq_true rfl) rfl (fun Γ e1 e2 e3 e4 E hN K => wX5_init E hN σ _ h K)
/-! X4_init -/
def fX4_init (σ : zS) (p0 : Nat) (p1 : Nat) (p2 : Nat) : Option zS := oNw σ 9 (fun a1 σ1 => oB (fX9_init σ1 a1) (fun σ2 => oPR σ2 5 p0 2 a1 (fun σ3 => oNw σ3 6 (fun a2 σ4 => oB (fX5_init σ4 a2) (fun σ5 => oPR σ5 5 p0 3 a2 (fun σ6 => oGR σ6 5 p0 3 (fun a3 => oGR σ6 6 a3 1 (fun a4 => oPR σ6 5 p0 4 a4 (fun σ7 => oPR σ7 5 p0 0 p1 (fun σ8 => oPR σ8 5 p0 1 p2 (fun σ9 => some σ9)))))))))))
set_option maxRecDepth 100000 in
theorem wX4_init {Γ : zG} (E : zE Γ cX4_init RX4 3 { frames := 3, cells := 39, slots := 12793, locals := 61 }) (hN : (zgt Γ).name = "<init>") (σ : zS) (p0 : Nat) (p1 : Nat) (p2 : Nat) {R : zS} (h : fX4_init σ p0 p1 p2 = some R) (K : zRet Γ cX4_init 3 39 12793 (none) R) : zJ Γ 3 0 0 σ 0 [(0, .ref p0), (1, .ref p1), (2, .ref p2)] [] := by
  unfold fX4_init at h
  refine zj_aload_n E dX4_init_0 rfl 0 rfl ?_
  refine zs_obj E zw_3_5 zw_1_11 zw_1_12 (by decide) (Nat.le_of_ble_eq_true rfl) dX4_init_1 ?_
  refine zj_aload_n E dX4_init_4 rfl 0 rfl ?_
  refine zt_new E zc8 zw_3_6 zw_3_7 zw_3_8 (by decide) ⟨by decide, by decide⟩ dX4_init_5 h (fun a1 σ1 h => ?_)
  show zJ Γ 3 1 9 σ1 8 [(0, .ref p0), (1, .ref p1), (2, .ref p2)] [.ref a1, .ref p0]
  refine zj_dup E dX4_init_8 rfl ?_
  obtain ⟨σ2, hc, h⟩ := oB_some h
  refine zs_callIN (As := []) (rest := [.ref a1, .ref p0]) E zyX9_init znm_0 (kX9_init _ _ _ _ _ hc) rfl rfl rfl ⟨by decide, by decide⟩ ⟨by decide, by decide⟩ (Nat.le_of_ble_eq_true rfl) dX4_init_9 rfl (show zJ Γ 3 19 10410 σ2 12 [(0, .ref p0), (1, .ref p1), (2, .ref p2)] [.ref a1, .ref p0] from ?_)
  refine zs_putFR E zc4 hN 2 (by decide) zw_3_9 rfl rfl rfl dX4_init_12 h (fun σ3 h => ?_)
  refine zj_aload_n E dX4_init_15 rfl 0 rfl ?_
  refine zt_new E zc5 zw_3_10 zw_2_9 zw_2_10 (by decide) ⟨by decide, by decide⟩ dX4_init_16 h (fun a2 σ4 h => ?_)
  show zJ Γ 3 20 10418 σ4 19 [(0, .ref p0), (1, .ref p1), (2, .ref p2)] [.ref a2, .ref p0]
  refine zj_dup E dX4_init_19 rfl ?_
  obtain ⟨σ5, hc, h⟩ := oB_some h
  refine zs_callI (As := []) (rest := [.ref a2, .ref p0]) E zyX5_init zw_4_20 (kX5_init _ _ _ _ _ hc) rfl rfl rfl ⟨by decide, by decide⟩ ⟨by decide, by decide⟩ (Nat.le_of_ble_eq_true rfl) dX4_init_20 rfl (show zJ Γ 3 39 12793 σ5 23 [(0, .ref p0), (1, .ref p1), (2, .ref p2)] [.ref a2, .ref p0] from ?_)
  refine zs_putR E zc4 3 (by decide) zw_3_11 rfl rfl dX4_init_23 h (fun σ6 h => ?_)
  refine zj_aload_n E dX4_init_26 rfl 0 rfl ?_
  refine zj_aload_n E dX4_init_27 rfl 0 rfl ?_
  refine zs_getR E zc4 3 (by decide) zw_3_11 rfl dX4_init_28 h (fun a3 h => ?_)
  refine zs_getRN E zc5 1 (by decide) (znf_43) rfl dX4_init_31 h (fun a4 h => ?_)
  refine zs_putR E zc4 4 (by decide) zw_3_12 rfl rfl dX4_init_34 h (fun σ7 h => ?_)
  refine zj_aload_n E dX4_init_37 rfl 0 rfl ?_
  refine zj_aload_n E dX4_init_38 rfl 1 rfl ?_
  refine zs_putFR E zc4 hN 0 (by decide) zw_3_13 rfl rfl rfl dX4_init_39 h (fun σ8 h => ?_)
  refine zj_aload_n E dX4_init_42 rfl 0 rfl ?_
  refine zj_aload_n E dX4_init_43 rfl 2 rfl ?_
  refine zs_putFR E zc4 hN 1 (by decide) zw_3_14 rfl rfl rfl dX4_init_44 h (fun σ9 h => ?_)
  have e9 := Option.some.inj h
  subst e9
  exact (show zRet Γ cX4_init 3 39 12793 (none) σ9 from K) _ _ dX4_init_47
set_option maxRecDepth 100000 in
theorem kX4_init (l : Launch) (D : va_G) (cs : zCs) (z0 : Nat) (σ : zS) {p0 : Nat} {p1 : Nat} {p2 : Nat}  {σ' : zS} (h : fX4_init σ p0 p1 p2 = some σ') : zM l D cs z0 yX4_init cX4_init 3 none { frames := 3, cells := 39, slots := 12793, locals := 61 } [.ref p0, .ref p1, .ref p2] σ none σ' 39 12793 := by
  exact zM_of (by decide) rfl rfl (Nat.le_of_ble_eq_true rfl) rfl (fun Γ e1 e2 e3 e4 E hN K => wX4_init E hN σ _ _ _ h K)
/-! X4_exchange -/
def fX4_exchange (σ : zS) (p0 : Nat) (p1 : Nat) : Option (Nat × zS) := oGR σ 5 p0 3 (fun a1 => oPR σ 5 p0 3 p1 (fun σ1 => some (a1, σ1)))
set_option maxRecDepth 100000 in
theorem wX4_exchange {Γ : zG} (E : zE Γ cX4_exchange RX4 3 { frames := 0, cells := 0, slots := 0, locals := 0 }) (σ : zS) (p0 : Nat) (p1 : Nat) {R : (Nat × zS)} (h : fX4_exchange σ p0 p1 = some R) (K : zRet Γ cX4_exchange 3 0 0 (some (.ref R.1)) R.2) : zJ Γ 3 0 0 σ 0 [(0, .ref p0), (1, .ref p1)] [] := by
  unfold fX4_exchange at h
  refine zj_aload_n E dX4_exchange_0 rfl 0 rfl ?_
  refine zs_getR E zc4 3 (by decide) zw_3_11 rfl dX4_exchange_1 h (fun a1 h => ?_)
  refine zj_astore_n (lv2 := [(2, .ref a1), (0, .ref p0), (1, .ref p1)]) E dX4_exchange_4 rfl (by decide) rfl ?_
  refine zj_aload_n E dX4_exchange_5 rfl 1 rfl ?_
  refine zj_aload_n E dX4_exchange_6 rfl 2 rfl ?_
  refine zs_putR E zc4 3 (by decide) zw_3_11 rfl rfl dX4_exchange_7 h (fun σ1 h => ?_)
  refine zj_aload_n E dX4_exchange_10 rfl 0 rfl ?_
  have e9 := Option.some.inj h
  subst e9
  exact (show zRet Γ cX4_exchange 3 0 0 (some (.ref a1)) σ1 from K) _ _ dX4_exchange_11
set_option maxRecDepth 100000 in
theorem kX4_exchange (l : Launch) (D : va_G) (cs : zCs) (z0 : Nat) (σ : zS) {p0 : Nat} {p1 : Nat} {r : Nat} {σ' : zS} (h : fX4_exchange σ p0 p1 = some (r, σ')) : zM l D cs z0 yX4_exchange cX4_exchange 3 (some (.object "FrameReel$Reel")) { frames := 0, cells := 0, slots := 0, locals := 0 } [.ref p0, .ref p1] σ (some (.ref r)) σ' 0 0 := by
  exact zM_of (by decide) rfl ⟨_, rfl⟩ (Nat.le_of_ble_eq_true rfl) rfl (fun Γ e1 e2 e3 e4 E hN K => wX4_exchange E σ _ _ h K)
/-! X4_startsAsFile -/
def jX4_startsAsFile_2 (Γ : zG) (l0 : Nat) : (Int32 × zS) → Prop := fun x => zJ Γ 3 0 0 x.2 2 [(0, .ref l0), (1, .int x.1)] []
def eX4_startsAsFile_2 (Γ : zG) (l0 : Nat) : (zS ⊕ (Int32 × zS)) → Prop := Sum.elim (fun b => zJ Γ 3 0 0 b 60 [] []) (fun r => zRet Γ cX4_startsAsFile 3 0 0 (some (.int r.1)) r.2)
def fX4_startsAsFile_20 (σ : zS) (l0 : Nat) (l1 : Int32) (s0 : Int32) : Option ((Int32 × zS) ⊕ (zS ⊕ (Int32 × zS))) := oGR σ 5 l0 0 (fun a1 => oA (zk σ a1 = 2) (oB (fX1_at σ a1 l1) (fun x1 => (if x1 = (((s0.toUInt32 >>> (((24 : Int32) - ((l1 - l1 / (4 : Int32) * (4 : Int32)) * (8 : Int32))).toUInt32 &&& Int32.toUInt32 31)).toInt32) &&& (255 : Int32)) then oL (l1 + 1) (fun v1 => some (.inl (v1, σ))) else oPI σ 5 l0 5 l1 (fun σ1 => some (.inr (.inr (0, σ1))))))))
set_option maxRecDepth 100000 in
theorem wX4_startsAsFile_20 {Γ : zG} (E : zE Γ cX4_startsAsFile RX4 3 { frames := 1, cells := 0, slots := 0, locals := 21 }) (σ : zS) (l0 : Nat) (l1 : Int32) (s0 : Int32) {R : ((Int32 × zS) ⊕ (zS ⊕ (Int32 × zS)))} (h : fX4_startsAsFile_20 σ l0 l1 s0 = some R) (K : Sum.elim (jX4_startsAsFile_2 Γ l0) (eX4_startsAsFile_2 Γ l0) R) : zJ Γ 3 0 0 σ 20 [(0, .ref l0), (1, .int l1)] [.int s0] := by
  unfold fX4_startsAsFile_20 at h
  refine zj_istore_n (lv2 := [(2, .int s0), (0, .ref l0), (1, .int l1)]) E dX4_startsAsFile_20 rfl (by decide) rfl ?_
  refine zj_aload_n E dX4_startsAsFile_21 rfl 1 rfl ?_
  refine zs_getR E zc4 0 (by decide) zw_3_13 rfl dX4_startsAsFile_22 h (fun a1 h => ?_)
  refine zj_iload_n E dX4_startsAsFile_25 rfl 2 rfl ?_
  obtain ⟨hk, h⟩ := oA_some h
  obtain ⟨x1, hc, h⟩ := oB_some h
  refine zs_callV (As := [.int l1]) (rest := []) E zc1 zyX1_at zw_8_21 (kX1_at _ _ _ _ _ hc) rfl rfl hk rfl ⟨by decide, by decide⟩ ⟨by decide, by decide⟩ (Nat.le_of_ble_eq_true rfl) dX4_startsAsFile_26 rfl (show zJ Γ 3 0 0 σ 29 [(2, .int s0), (0, .ref l0), (1, .int l1)] [.int x1] from ?_)
  refine zj_iload_n E dX4_startsAsFile_29 rfl 0 rfl ?_
  refine zj_bipush (v := 24) E dX4_startsAsFile_30 (by decide) ?_
  refine zj_iload_n E dX4_startsAsFile_32 rfl 2 rfl ?_
  refine zj_iconst (v := 4) E dX4_startsAsFile_33 (by decide) ?_
  refine zj_irem E dX4_startsAsFile_34 (by decide) ?_
  refine zj_bipush (v := 8) E dX4_startsAsFile_35 (by decide) ?_
  refine zj_imul E dX4_startsAsFile_37 ?_
  refine zj_isub E dX4_startsAsFile_38 ?_
  refine zj_iushr E dX4_startsAsFile_39 ?_
  refine zj_sipush (v := 255) E dX4_startsAsFile_40 (by decide) ?_
  refine zj_iand E dX4_startsAsFile_43 ?_
  refine zj_icmp_eq (tgt := 54) E dX4_startsAsFile_44 (by decide) h (fun h => ?_) (fun h => ?_)
  · refine zs_iinc (lv2 := fun v1 => [(1, .int v1), (2, .int s0), (0, .ref l0)]) E dX4_startsAsFile_54 2 rfl (by decide) (by decide) (fun _ => rfl) h (fun v1 h => ?_)
    refine zj_goto (tgt := 2) E dX4_startsAsFile_57 (by decide) ?_
    have e9 := Option.some.inj h
    subst e9
    refine zj_lv [2, 0] rfl ?_
    exact K
  · refine zj_aload_n E dX4_startsAsFile_47 rfl 1 rfl ?_
    refine zj_iload_n E dX4_startsAsFile_48 rfl 2 rfl ?_
    refine zs_putI E zc4 5 (by decide) zw_8_14 rfl rfl dX4_startsAsFile_49 h (fun σ1 h => ?_)
    refine zj_iconst (v := 0) E dX4_startsAsFile_52 (by decide) ?_
    have e9 := Option.some.inj h
    subst e9
    exact (show zRet Γ cX4_startsAsFile 3 0 0 (some (.int 0)) σ1 from K) _ _ dX4_startsAsFile_53
def bX4_startsAsFile_2 (l0 : Nat) (l1 : Int32) (σ : zS) : Option ((Int32 × zS) ⊕ (zS ⊕ (Int32 × zS))) := (if (8 : Int32) ≤ l1 then some (.inr (.inl σ)) else (if (4 : Int32) ≤ l1 then fX4_startsAsFile_20 σ l0 l1 218765834 else fX4_startsAsFile_20 σ l0 l1 (-1991225785 : Int32)))
set_option maxRecDepth 100000 in
theorem wX4_startsAsFile_L2 {Γ : zG} (E : zE Γ cX4_startsAsFile RX4 3 { frames := 1, cells := 0, slots := 0, locals := 21 }) (l0 : Nat) : ∀ x R, (fun x => bX4_startsAsFile_2 l0 x.1 x.2) x = some R → Sum.elim (jX4_startsAsFile_2 Γ l0) (eX4_startsAsFile_2 Γ l0) R → jX4_startsAsFile_2 Γ l0 x := by
  intro x R h K
  obtain ⟨l1, σ⟩ := x
  have h : bX4_startsAsFile_2 l0 l1 σ = some R := h
  show zJ Γ 3 0 0 σ 2 [(0, .ref l0), (1, .int l1)] []
  unfold bX4_startsAsFile_2 at h
  refine zj_iload_n E dX4_startsAsFile_2 rfl 1 rfl ?_
  refine zj_bipush (v := 8) E dX4_startsAsFile_3 (by decide) ?_
  refine zj_icmp_ge (tgt := 60) E dX4_startsAsFile_5 (by decide) h (fun h => ?_) (fun h => ?_)
  · have e9 := Option.some.inj h
    subst e9
    refine zj_lv [] rfl ?_
    exact K
  · refine zj_iload_n E dX4_startsAsFile_8 rfl 1 rfl ?_
    refine zj_iconst (v := 4) E dX4_startsAsFile_9 (by decide) ?_
    refine zj_icmp_ge (tgt := 18) E dX4_startsAsFile_10 (by decide) h (fun h => ?_) (fun h => ?_)
    · refine zj_ldc (v := 218765834) E zw_8_20 dX4_startsAsFile_18 ?_
      refine zj_lv [0, 1] rfl ?_
      exact wX4_startsAsFile_20 E _ _ _ _ h K
    · refine zj_ldc (v := (-1991225785 : Int32)) E zw_8_19 dX4_startsAsFile_13 ?_
      refine zj_goto (tgt := 20) E dX4_startsAsFile_15 (by decide) ?_
      refine zj_lv [0, 1] rfl ?_
      exact wX4_startsAsFile_20 E _ _ _ _ h K
def gX4_startsAsFile (σ : zS) (p0 : Nat) : Option (Int32 × zS) := oB (zloop zF (fun x => bX4_startsAsFile_2 p0 x.1 x.2) (0, σ)) (fun b1 => oS b1 (fun c1 => (fun σ2 => some (1, σ2)) c1) (fun r1 => some r1))
def fX4_startsAsFile (σ : zS) (p0 : Nat) : Option (Int32 × zS) := oC (gX4_startsAsFile σ p0) (fun r s => oA (r = 0 ∨ r = 1) (some (r, s)))
set_option maxRecDepth 100000 in
theorem wX4_startsAsFile {Γ : zG} (E : zE Γ cX4_startsAsFile RX4 3 { frames := 1, cells := 0, slots := 0, locals := 21 }) (σ : zS) (p0 : Nat) {R : (Int32 × zS)} (h : gX4_startsAsFile σ p0 = some R) (K : zRet Γ cX4_startsAsFile 3 0 0 (some (.int R.1)) R.2) : zJ Γ 3 0 0 σ 0 [(0, .ref p0)] [] := by
  unfold gX4_startsAsFile at h
  refine zj_iconst (v := 0) E dX4_startsAsFile_0 (by decide) ?_
  refine zj_istore_n (lv2 := [(1, .int 0), (0, .ref p0)]) E dX4_startsAsFile_1 rfl (by decide) rfl ?_
  obtain ⟨b1, hb1, h⟩ := oB_some h
  refine zj_lv [1, 0] rfl ?_
  refine zj_loop (wX4_startsAsFile_L2 E p0) zF (0, σ) b1 hb1 ?_
  cases b1 with
  | inr r1 =>
    have e9 := Option.some.inj h
    subst e9
    exact K
  | inl c1 =>
    obtain ⟨σ2, rfl⟩ : ∃ z, z = c1 := ⟨_, rfl⟩
    dsimp only [oS] at h
    show zJ Γ 3 0 0 σ2 60 [] []
    refine zj_iconst (v := 1) E dX4_startsAsFile_60 (by decide) ?_
    have e9 := Option.some.inj h
    subst e9
    exact (show zRet Γ cX4_startsAsFile 3 0 0 (some (.int 1)) σ2 from K) _ _ dX4_startsAsFile_61
set_option maxRecDepth 100000 in
theorem kX4_startsAsFile (l : Launch) (D : va_G) (cs : zCs) (z0 : Nat) (σ : zS) {p0 : Nat} {r : Int32} {σ' : zS} (h : fX4_startsAsFile σ p0 = some (r, σ')) : zM l D cs z0 yX4_startsAsFile cX4_startsAsFile 3 (some .boolean) { frames := 1, cells := 0, slots := 0, locals := 21 } [.ref p0] σ (some (.int r)) σ' 0 0 := by
  obtain ⟨r0, s0, h0, h⟩ := oC_some h
  obtain ⟨hz, h⟩ := oA_some h
  cases h
  exact zM_of (by decide) rfl (Or.inr ⟨rfl, hz⟩) (Nat.le_of_ble_eq_true rfl) rfl (fun Γ e1 e2 e3 e4 E hN K => wX4_startsAsFile E σ _ h0 K)
/-! X8_ofChunk -/
def jX8_ofChunk_6 (Γ : zG) (σ : zS) (l0 : Nat) (l1 : Nat) (l3 : Int32) : (Int32 × Int32) → Prop := fun x => zJ Γ 6 0 0 σ 6 [(0, .ref l0), (1, .ref l1), (3, .int l3), (4, .int x.1), (5, .int x.2)] []
def eX8_ofChunk_6 (Γ : zG) (σ : zS) (l0 : Nat) (l1 : Nat) (l3 : Int32) : Int32 → Prop := fun b => zJ Γ 6 0 0 σ 44 [(4, .int b)] []
def bX8_ofChunk_6 (σ : zS) (l0 : Nat) (l1 : Nat) (l3 : Int32) (l4 : Int32) (l5 : Int32) : Option ((Int32 × Int32) ⊕ Int32) := (if l3 ≤ l5 then some (.inr l4) else oGR σ 8 l0 0 (fun a1 => oA (zk σ l1 = 2) (oB (fX1_at σ l1 l5) (fun x1 => oLd σ 21 a1 ((l4 ^^^ x1) &&& (255 : Int32)) (fun x2 => oL (((l4.toUInt32 >>> ((8 : Int32).toUInt32 &&& Int32.toUInt32 31)).toInt32) ^^^ x2) (fun v1 => oL (l5 + 1) (fun v2 => some (.inl (v1, v2)))))))))
set_option maxRecDepth 100000 in
theorem wX8_ofChunk_L6 {Γ : zG} (E : zE Γ cX8_ofChunk RX8 6 { frames := 1, cells := 0, slots := 0, locals := 21 }) (σ : zS) (l0 : Nat) (l1 : Nat) (l3 : Int32) : ∀ x R, (fun x => bX8_ofChunk_6 σ l0 l1 l3 x.1 x.2) x = some R → Sum.elim (jX8_ofChunk_6 Γ σ l0 l1 l3) (eX8_ofChunk_6 Γ σ l0 l1 l3) R → jX8_ofChunk_6 Γ σ l0 l1 l3 x := by
  intro x R h K
  obtain ⟨l4, l5⟩ := x
  have h : bX8_ofChunk_6 σ l0 l1 l3 l4 l5 = some R := h
  show zJ Γ 6 0 0 σ 6 [(0, .ref l0), (1, .ref l1), (3, .int l3), (4, .int l4), (5, .int l5)] []
  unfold bX8_ofChunk_6 at h
  refine zj_iload E dX8_ofChunk_6 4 rfl ?_
  refine zj_iload_n E dX8_ofChunk_8 rfl 2 rfl ?_
  refine zj_icmp_ge (tgt := 44) E dX8_ofChunk_9 (by decide) h (fun h => ?_) (fun h => ?_)
  · have e9 := Option.some.inj h
    subst e9
    refine zj_lv [3] rfl ?_
    exact K
  · refine zj_iload E dX8_ofChunk_12 3 rfl ?_
    refine zj_bipush (v := 8) E dX8_ofChunk_14 (by decide) ?_
    refine zj_iushr E dX8_ofChunk_16 ?_
    refine zj_aload_n E dX8_ofChunk_17 rfl 0 rfl ?_
    refine zs_getR E zc7 0 (by decide) zw_2_18 rfl dX8_ofChunk_18 h (fun a1 h => ?_)
    refine zj_iload E dX8_ofChunk_21 3 rfl ?_
    refine zj_aload_n E dX8_ofChunk_23 rfl 1 rfl ?_
    refine zj_iload E dX8_ofChunk_24 4 rfl ?_
    obtain ⟨hk, h⟩ := oA_some h
    obtain ⟨x1, hc, h⟩ := oB_some h
    refine zs_callV (As := [.int l5]) (rest := [.int l4, .ref a1, .int ((l4.toUInt32 >>> ((8 : Int32).toUInt32 &&& Int32.toUInt32 31)).toInt32)]) E zc1 zyX1_at zw_9_15 (kX1_at _ _ _ _ _ hc) rfl rfl hk rfl ⟨by decide, by decide⟩ ⟨by decide, by decide⟩ (Nat.le_of_ble_eq_true rfl) dX8_ofChunk_26 rfl (show zJ Γ 6 0 0 σ 29 [(0, .ref l0), (1, .ref l1), (3, .int l3), (4, .int l4), (5, .int l5)] [.int x1, .int l4, .ref a1, .int ((l4.toUInt32 >>> ((8 : Int32).toUInt32 &&& Int32.toUInt32 31)).toInt32)] from ?_)
    refine zj_ixor E dX8_ofChunk_29 ?_
    refine zj_sipush (v := 255) E dX8_ofChunk_30 (by decide) ?_
    refine zj_iand E dX8_ofChunk_33 ?_
    refine zs_iald E dX8_ofChunk_34 h (fun x2 h => ?_)
    refine zj_ixor E dX8_ofChunk_35 ?_
    refine zs_istore (lv2 := fun v1 => [(4, .int v1), (0, .ref l0), (1, .ref l1), (3, .int l3), (5, .int l5)]) E dX8_ofChunk_36 (by decide) (fun _ => rfl) h (fun v1 h => ?_)
    refine zs_iinc (lv2 := fun v2 => [(5, .int v2), (4, .int v1), (0, .ref l0), (1, .ref l1), (3, .int l3)]) E dX8_ofChunk_38 4 rfl (by decide) (by decide) (fun _ => rfl) h (fun v2 h => ?_)
    refine zj_goto (tgt := 6) E dX8_ofChunk_41 (by decide) ?_
    have e9 := Option.some.inj h
    subst e9
    refine zj_lv [2, 3, 4, 1, 0] rfl ?_
    exact K
def fX8_ofChunk (σ : zS) (p0 : Nat) (p1 : Nat) (p2 : Int32) (p3 : Int32) : Option Int32 := oB (zloop zF (fun x => bX8_ofChunk_6 σ p0 p1 p3 x.1 x.2) ((-1 : Int32), p2)) (fun b1 => (fun v3 => some (v3 ^^^ (-1 : Int32))) b1)
set_option maxRecDepth 100000 in
theorem wX8_ofChunk {Γ : zG} (E : zE Γ cX8_ofChunk RX8 6 { frames := 1, cells := 0, slots := 0, locals := 21 }) (σ : zS) (p0 : Nat) (p1 : Nat) (p2 : Int32) (p3 : Int32) {R : Int32} (h : fX8_ofChunk σ p0 p1 p2 p3 = some R) (K : zRet Γ cX8_ofChunk 6 0 0 (some (.int R)) σ) : zJ Γ 6 0 0 σ 0 [(0, .ref p0), (1, .ref p1), (2, .int p2), (3, .int p3)] [] := by
  unfold fX8_ofChunk at h
  refine zj_iconst (v := (-1 : Int32)) E dX8_ofChunk_0 (by decide) ?_
  refine zj_istore (lv2 := [(4, .int (-1 : Int32)), (0, .ref p0), (1, .ref p1), (2, .int p2), (3, .int p3)]) E dX8_ofChunk_1 (by decide) rfl ?_
  refine zj_iload_n E dX8_ofChunk_3 rfl 3 rfl ?_
  refine zj_istore (lv2 := [(5, .int p2), (4, .int (-1 : Int32)), (0, .ref p0), (1, .ref p1), (2, .int p2), (3, .int p3)]) E dX8_ofChunk_4 (by decide) rfl ?_
  obtain ⟨b1, hb1, h⟩ := oB_some h
  refine zj_lv [2, 3, 5, 1, 0] rfl ?_
  refine zj_loop (wX8_ofChunk_L6 E σ p0 p1 p3) zF ((-1 : Int32), p2) b1 hb1 ?_
  obtain ⟨v3, rfl⟩ : ∃ z, z = b1 := ⟨_, rfl⟩
  try dsimp only at h
  show zJ Γ 6 0 0 σ 44 [(4, .int v3)] []
  refine zj_iload E dX8_ofChunk_44 0 rfl ?_
  refine zj_iconst (v := (-1 : Int32)) E dX8_ofChunk_46 (by decide) ?_
  refine zj_ixor E dX8_ofChunk_47 ?_
  have e9 := Option.some.inj h
  subst e9
  exact (show zRet Γ cX8_ofChunk 6 0 0 (some (.int (v3 ^^^ (-1 : Int32)))) σ from K) _ _ dX8_ofChunk_48
set_option maxRecDepth 100000 in
theorem kX8_ofChunk (l : Launch) (D : va_G) (cs : zCs) (z0 : Nat) (σ : zS) {p0 : Nat} {p1 : Nat} {p2 : Int32} {p3 : Int32} {r : Int32} (h : fX8_ofChunk σ p0 p1 p2 p3 = some r) : zM l D cs z0 yX8_ofChunk cX8_ofChunk 6 (some .int) { frames := 1, cells := 0, slots := 0, locals := 21 } [.ref p0, .ref p1, .int p2, .int p3] σ (some (.int r)) σ 0 0 := by
  exact zM_of (by decide) rfl (Or.inl rfl) (Nat.le_of_ble_eq_true rfl) rfl (fun Γ e1 e2 e3 e4 E hN K => wX8_ofChunk E σ _ _ _ _ h K)
/-! X9_startsAsPacked -/
def gX9_startsAsPacked (σ : zS) (p0 : Nat) : Option Int32 := oGR σ 9 p0 0 (fun a1 => oA (zk σ a1 = 2) (oB (fX1_at σ a1 1) (fun x1 => oGR σ 9 p0 0 (fun a2 => oA (zk σ a2 = 2) (oB (fX1_at σ a2 0) (fun x2 => (if x2 = (120 : Int32) then (if x1 < 0 then some 0 else (if (x1 &&& (32 : Int32)) = 0 then (if (((30720 : Int32) + x1) - ((30720 : Int32) + x1) / (31 : Int32) * (31 : Int32)) = 0 then some 1 else some 0) else some 0)) else some 0)))))))
def fX9_startsAsPacked (σ : zS) (p0 : Nat) : Option Int32 := oB (gX9_startsAsPacked σ p0) (fun r => oA (r = 0 ∨ r = 1) (some r))
set_option maxRecDepth 100000 in
theorem wX9_startsAsPacked {Γ : zG} (E : zE Γ cX9_startsAsPacked RX9 2 { frames := 1, cells := 0, slots := 0, locals := 21 }) (σ : zS) (p0 : Nat) {R : Int32} (h : gX9_startsAsPacked σ p0 = some R) (K : zRet Γ cX9_startsAsPacked 2 0 0 (some (.int R)) σ) : zJ Γ 2 0 0 σ 0 [(0, .ref p0)] [] := by
  unfold gX9_startsAsPacked at h
  refine zj_aload_n E dX9_startsAsPacked_0 rfl 0 rfl ?_
  refine zs_getR E zc8 0 (by decide) zw_3_19 rfl dX9_startsAsPacked_1 h (fun a1 h => ?_)
  refine zj_iconst (v := 1) E dX9_startsAsPacked_4 (by decide) ?_
  obtain ⟨hk, h⟩ := oA_some h
  obtain ⟨x1, hc, h⟩ := oB_some h
  refine zs_callV (As := [.int 1]) (rest := []) E zc1 zyX1_at zw_10_4 (kX1_at _ _ _ _ _ hc) rfl rfl hk rfl ⟨by decide, by decide⟩ ⟨by decide, by decide⟩ (Nat.le_of_ble_eq_true rfl) dX9_startsAsPacked_5 rfl (show zJ Γ 2 0 0 σ 8 [(0, .ref p0)] [.int x1] from ?_)
  refine zj_istore_n (lv2 := [(1, .int x1), (0, .ref p0)]) E dX9_startsAsPacked_8 rfl (by decide) rfl ?_
  refine zj_aload_n E dX9_startsAsPacked_9 rfl 1 rfl ?_
  refine zs_getR E zc8 0 (by decide) zw_3_19 rfl dX9_startsAsPacked_10 h (fun a2 h => ?_)
  refine zj_iconst (v := 0) E dX9_startsAsPacked_13 (by decide) ?_
  obtain ⟨hk, h⟩ := oA_some h
  obtain ⟨x2, hc, h⟩ := oB_some h
  refine zs_callV (As := [.int 0]) (rest := []) E zc1 zyX1_at zw_10_4 (kX1_at _ _ _ _ _ hc) rfl rfl hk rfl ⟨by decide, by decide⟩ ⟨by decide, by decide⟩ (Nat.le_of_ble_eq_true rfl) dX9_startsAsPacked_14 rfl (show zJ Γ 2 0 0 σ 17 [(1, .int x1), (0, .ref p0)] [.int x2] from ?_)
  refine zj_bipush (v := 120) E dX9_startsAsPacked_17 (by decide) ?_
  refine zj_icmp_ne (tgt := 48) E dX9_startsAsPacked_19 (by decide) h (fun h => ?_) (fun h => ?_)
  · refine zj_iconst (v := 0) E dX9_startsAsPacked_48 (by decide) ?_
    have e9 := Option.some.inj h
    subst e9
    exact (show zRet Γ cX9_startsAsPacked 2 0 0 (some (.int 0)) σ from K) _ _ dX9_startsAsPacked_49
  · refine zj_iload_n E dX9_startsAsPacked_22 rfl 0 rfl ?_
    refine zj_if_lt (tgt := 48) E dX9_startsAsPacked_23 (by decide) h (fun h => ?_) (fun h => ?_)
    · refine zj_iconst (v := 0) E dX9_startsAsPacked_48 (by decide) ?_
      have e9 := Option.some.inj h
      subst e9
      exact (show zRet Γ cX9_startsAsPacked 2 0 0 (some (.int 0)) σ from K) _ _ dX9_startsAsPacked_49
    · refine zj_iload_n E dX9_startsAsPacked_26 rfl 0 rfl ?_
      refine zj_bipush (v := 32) E dX9_startsAsPacked_27 (by decide) ?_
      refine zj_iand E dX9_startsAsPacked_29 ?_
      refine zj_if_ne (tgt := 48) E dX9_startsAsPacked_30 (by decide) h (fun h => ?_) (fun h => ?_)
      · refine zj_iconst (v := 0) E dX9_startsAsPacked_48 (by decide) ?_
        have e9 := Option.some.inj h
        subst e9
        exact (show zRet Γ cX9_startsAsPacked 2 0 0 (some (.int 0)) σ from K) _ _ dX9_startsAsPacked_49
      · refine zj_sipush (v := 30720) E dX9_startsAsPacked_33 (by decide) ?_
        refine zj_iload_n E dX9_startsAsPacked_36 rfl 0 rfl ?_
        refine zj_iadd E dX9_startsAsPacked_37 ?_
        refine zj_bipush (v := 31) E dX9_startsAsPacked_38 (by decide) ?_
        refine zj_irem E dX9_startsAsPacked_40 (by decide) ?_
        refine zj_if_ne (tgt := 48) E dX9_startsAsPacked_41 (by decide) h (fun h => ?_) (fun h => ?_)
        · refine zj_iconst (v := 0) E dX9_startsAsPacked_48 (by decide) ?_
          have e9 := Option.some.inj h
          subst e9
          exact (show zRet Γ cX9_startsAsPacked 2 0 0 (some (.int 0)) σ from K) _ _ dX9_startsAsPacked_49
        · refine zj_iconst (v := 1) E dX9_startsAsPacked_44 (by decide) ?_
          refine zj_goto (tgt := 49) E dX9_startsAsPacked_45 (by decide) ?_
          have e9 := Option.some.inj h
          subst e9
          exact (show zRet Γ cX9_startsAsPacked 2 0 0 (some (.int 1)) σ from K) _ _ dX9_startsAsPacked_49
set_option maxRecDepth 100000 in
theorem kX9_startsAsPacked (l : Launch) (D : va_G) (cs : zCs) (z0 : Nat) (σ : zS) {p0 : Nat} {r : Int32} (h : fX9_startsAsPacked σ p0 = some r) : zM l D cs z0 yX9_startsAsPacked cX9_startsAsPacked 2 (some .boolean) { frames := 1, cells := 0, slots := 0, locals := 21 } [.ref p0] σ (some (.int r)) σ 0 0 := by
  obtain ⟨r0, h0, h⟩ := oB_some h
  obtain ⟨hz, h⟩ := oA_some h
  cases h
  exact zM_of (by decide) rfl (Or.inr ⟨rfl, hz⟩) (Nat.le_of_ble_eq_true rfl) rfl (fun Γ e1 e2 e3 e4 E hN K => wX9_startsAsPacked E σ _ h0 K)
/-! X9_copyPlain -/
def gX9_copyPlain (σ : zS) (p0 : Nat) : Option (Int32 × zS) := oGR σ 9 p0 2 (fun a1 => oA (zk σ a1 = 1) (oB (fX0_skipToByte σ a1) (fun σ1 => oGR σ1 9 p0 2 (fun a2 => oA (zk σ1 a2 = 1) (oC (fX0_take σ1 a2 16) (fun x1 σ2 => oGR σ2 9 p0 2 (fun a3 => oA (zk σ2 a3 = 1) (oC (fX0_take σ2 a3 16) (fun x2 σ3 => (if x1 < 0 then some (0, σ3) else (if x2 < 0 then some (0, σ3) else (if (x1 ^^^ x2) = (65535 : Int32) then oGR σ3 9 p0 2 (fun a4 => oGI σ3 1 a4 1 (fun x3 => oL (x3 / (8 : Int32)) (fun v1 => oGR σ3 9 p0 0 (fun a5 => oGI σ3 2 a5 1 (fun x4 => (if (x4 - v1) < x1 then some (0, σ3) else oGR σ3 9 p0 1 (fun a6 => oA (zk σ3 a6 = 2) (oB (fX1_fits σ3 a6 x1) (fun x5 => (if x5 = 0 then some (0, σ3) else oGR σ3 9 p0 1 (fun a7 => oGR σ3 9 p0 0 (fun a8 => oA (zk σ3 a7 = 2) (oB (fX1_addPart σ3 a7 a8 v1 (v1 + x1)) (fun σ4 => oGR σ4 9 p0 2 (fun a9 => oGI σ4 1 a9 1 (fun x6 => oPI σ4 1 a9 1 (x6 + (x1 * (8 : Int32))) (fun σ5 => some (1, σ5)))))))))))))))))) else some (0, σ3)))))))))))))
def fX9_copyPlain (σ : zS) (p0 : Nat) : Option (Int32 × zS) := oC (gX9_copyPlain σ p0) (fun r s => oA (r = 0 ∨ r = 1) (some (r, s)))
set_option maxRecDepth 100000 in
theorem wX9_copyPlain {Γ : zG} (E : zE Γ cX9_copyPlain RX9 4 { frames := 2, cells := 0, slots := 0, locals := 45 }) (σ : zS) (p0 : Nat) {R : (Int32 × zS)} (h : gX9_copyPlain σ p0 = some R) (K : zRet Γ cX9_copyPlain 4 0 0 (some (.int R.1)) R.2) : zJ Γ 4 0 0 σ 0 [(0, .ref p0)] [] := by
  unfold gX9_copyPlain at h
  refine zj_aload_n E dX9_copyPlain_0 rfl 0 rfl ?_
  refine zs_getR E zc8 2 (by decide) zw_4_0 rfl dX9_copyPlain_1 h (fun a1 h => ?_)
  obtain ⟨hk, h⟩ := oA_some h
  obtain ⟨σ1, hc, h⟩ := oB_some h
  refine zs_callV (As := []) (rest := []) E zc0 zyX0_skipToByte zw_10_15 (kX0_skipToByte _ _ _ _ _ hc) rfl rfl hk rfl ⟨by decide, by decide⟩ ⟨by decide, by decide⟩ (Nat.le_of_ble_eq_true rfl) dX9_copyPlain_4 rfl (show zJ Γ 4 0 0 σ1 7 [(0, .ref p0)] [] from ?_)
  refine zj_aload_n E dX9_copyPlain_7 rfl 0 rfl ?_
  refine zs_getR E zc8 2 (by decide) zw_4_0 rfl dX9_copyPlain_8 h (fun a2 h => ?_)
  refine zj_bipush (v := 16) E dX9_copyPlain_11 (by decide) ?_
  obtain ⟨hk, h⟩ := oA_some h
  obtain ⟨x1, σ2, hc, h⟩ := oC_some h
  refine zs_callV (As := [.int 16]) (rest := []) E zc0 zyX0_take zw_10_5 (kX0_take _ _ _ _ _ hc) rfl rfl hk rfl ⟨by decide, by decide⟩ ⟨by decide, by decide⟩ (Nat.le_of_ble_eq_true rfl) dX9_copyPlain_13 rfl (show zJ Γ 4 0 0 σ2 16 [(0, .ref p0)] [.int x1] from ?_)
  refine zj_istore_n (lv2 := [(1, .int x1), (0, .ref p0)]) E dX9_copyPlain_16 rfl (by decide) rfl ?_
  refine zj_aload_n E dX9_copyPlain_17 rfl 1 rfl ?_
  refine zs_getR E zc8 2 (by decide) zw_4_0 rfl dX9_copyPlain_18 h (fun a3 h => ?_)
  refine zj_bipush (v := 16) E dX9_copyPlain_21 (by decide) ?_
  obtain ⟨hk, h⟩ := oA_some h
  obtain ⟨x2, σ3, hc, h⟩ := oC_some h
  refine zs_callV (As := [.int 16]) (rest := []) E zc0 zyX0_take zw_10_5 (kX0_take _ _ _ _ _ hc) rfl rfl hk rfl ⟨by decide, by decide⟩ ⟨by decide, by decide⟩ (Nat.le_of_ble_eq_true rfl) dX9_copyPlain_23 rfl (show zJ Γ 4 0 0 σ3 26 [(1, .int x1), (0, .ref p0)] [.int x2] from ?_)
  refine zj_istore_n (lv2 := [(2, .int x2), (1, .int x1), (0, .ref p0)]) E dX9_copyPlain_26 rfl (by decide) rfl ?_
  refine zj_iload_n E dX9_copyPlain_27 rfl 1 rfl ?_
  refine zj_if_lt (tgt := 43) E dX9_copyPlain_28 (by decide) h (fun h => ?_) (fun h => ?_)
  · refine zj_iconst (v := 0) E dX9_copyPlain_43 (by decide) ?_
    have e9 := Option.some.inj h
    subst e9
    exact (show zRet Γ cX9_copyPlain 4 0 0 (some (.int 0)) σ3 from K) _ _ dX9_copyPlain_44
  · refine zj_iload_n E dX9_copyPlain_31 rfl 0 rfl ?_
    refine zj_if_lt (tgt := 43) E dX9_copyPlain_32 (by decide) h (fun h => ?_) (fun h => ?_)
    · refine zj_iconst (v := 0) E dX9_copyPlain_43 (by decide) ?_
      have e9 := Option.some.inj h
      subst e9
      exact (show zRet Γ cX9_copyPlain 4 0 0 (some (.int 0)) σ3 from K) _ _ dX9_copyPlain_44
    · refine zj_iload_n E dX9_copyPlain_35 rfl 1 rfl ?_
      refine zj_iload_n E dX9_copyPlain_36 rfl 0 rfl ?_
      refine zj_ixor E dX9_copyPlain_37 ?_
      refine zj_ldc (v := 65535) E zw_10_14 dX9_copyPlain_38 ?_
      refine zj_icmp_eq (tgt := 45) E dX9_copyPlain_40 (by decide) h (fun h => ?_) (fun h => ?_)
      · refine zj_aload_n E dX9_copyPlain_45 rfl 2 rfl ?_
        refine zs_getR E zc8 2 (by decide) zw_4_0 rfl dX9_copyPlain_46 h (fun a4 h => ?_)
        refine zs_getIN E zc0 1 (by decide) (znf_8) rfl dX9_copyPlain_49 h (fun x3 h => ?_)
        refine zj_bipush (v := 8) E dX9_copyPlain_52 (by decide) ?_
        refine zj_idiv E dX9_copyPlain_54 (by decide) ?_
        refine zs_istore_n (lv2 := fun v1 => [(3, .int v1), (2, .int x2), (1, .int x1), (0, .ref p0)]) E dX9_copyPlain_55 rfl (by decide) (fun _ => rfl) h (fun v1 h => ?_)
        refine zj_iload_n E dX9_copyPlain_56 rfl 2 rfl ?_
        refine zj_aload_n E dX9_copyPlain_57 rfl 3 rfl ?_
        refine zs_getR E zc8 0 (by decide) zw_3_19 rfl dX9_copyPlain_58 h (fun a5 h => ?_)
        refine zs_getIN E zc1 1 (by decide) (znf_4) rfl dX9_copyPlain_61 h (fun x4 h => ?_)
        refine zj_iload_n E dX9_copyPlain_64 rfl 0 rfl ?_
        refine zj_isub E dX9_copyPlain_65 ?_
        refine zj_icmp_gt (tgt := 80) E dX9_copyPlain_66 (by decide) h (fun h => ?_) (fun h => ?_)
        · refine zj_iconst (v := 0) E dX9_copyPlain_80 (by decide) ?_
          have e9 := Option.some.inj h
          subst e9
          exact (show zRet Γ cX9_copyPlain 4 0 0 (some (.int 0)) σ3 from K) _ _ dX9_copyPlain_81
        · refine zj_aload_n E dX9_copyPlain_69 rfl 3 rfl ?_
          refine zs_getR E zc8 1 (by decide) zw_3_20 rfl dX9_copyPlain_70 h (fun a6 h => ?_)
          refine zj_iload_n E dX9_copyPlain_73 rfl 2 rfl ?_
          obtain ⟨hk, h⟩ := oA_some h
          obtain ⟨x5, hc, h⟩ := oB_some h
          refine zs_callV (As := [.int x1]) (rest := []) E zc1 zyX1_fits zw_10_19 (kX1_fits _ _ _ _ _ hc) rfl rfl hk rfl ⟨by decide, by decide⟩ ⟨by decide, by decide⟩ (Nat.le_of_ble_eq_true rfl) dX9_copyPlain_74 rfl (show zJ Γ 4 0 0 σ3 77 [(3, .int v1), (2, .int x2), (1, .int x1), (0, .ref p0)] [.int x5] from ?_)
          refine zj_if_ne (tgt := 82) E dX9_copyPlain_77 (by decide) h (fun h => ?_) (fun h => ?_)
          · refine zj_aload_n E dX9_copyPlain_82 rfl 3 rfl ?_
            refine zs_getR E zc8 1 (by decide) zw_3_20 rfl dX9_copyPlain_83 h (fun a7 h => ?_)
            refine zj_aload_n E dX9_copyPlain_86 rfl 3 rfl ?_
            refine zs_getR E zc8 0 (by decide) zw_3_19 rfl dX9_copyPlain_87 h (fun a8 h => ?_)
            refine zj_iload_n E dX9_copyPlain_90 rfl 0 rfl ?_
            refine zj_iload_n E dX9_copyPlain_91 rfl 0 rfl ?_
            refine zj_iload_n E dX9_copyPlain_92 rfl 2 rfl ?_
            refine zj_iadd E dX9_copyPlain_93 ?_
            obtain ⟨hk, h⟩ := oA_some h
            obtain ⟨σ4, hc, h⟩ := oB_some h
            refine zs_callV (As := [.ref a8, .int v1, .int (v1 + x1)]) (rest := []) E zc1 zyX1_addPart zw_10_20 (kX1_addPart _ _ _ _ _ hc) rfl rfl hk rfl ⟨by decide, by decide⟩ ⟨by decide, by decide⟩ (Nat.le_of_ble_eq_true rfl) dX9_copyPlain_94 rfl (show zJ Γ 4 0 0 σ4 97 [(3, .int v1), (2, .int x2), (1, .int x1), (0, .ref p0)] [] from ?_)
            refine zj_aload_n E dX9_copyPlain_97 rfl 3 rfl ?_
            refine zs_getR E zc8 2 (by decide) zw_4_0 rfl dX9_copyPlain_98 h (fun a9 h => ?_)
            refine zj_dup E dX9_copyPlain_101 rfl ?_
            refine zs_getIN E zc0 1 (by decide) (znf_8) rfl dX9_copyPlain_102 h (fun x6 h => ?_)
            refine zj_iload_n E dX9_copyPlain_105 rfl 2 rfl ?_
            refine zj_bipush (v := 8) E dX9_copyPlain_106 (by decide) ?_
            refine zj_imul E dX9_copyPlain_108 ?_
            refine zj_iadd E dX9_copyPlain_109 ?_
            refine zs_putIN E zc0 1 (by decide) (znf_8) rfl rfl dX9_copyPlain_110 h (fun σ5 h => ?_)
            refine zj_iconst (v := 1) E dX9_copyPlain_113 (by decide) ?_
            have e9 := Option.some.inj h
            subst e9
            exact (show zRet Γ cX9_copyPlain 4 0 0 (some (.int 1)) σ5 from K) _ _ dX9_copyPlain_114
          · refine zj_iconst (v := 0) E dX9_copyPlain_80 (by decide) ?_
            have e9 := Option.some.inj h
            subst e9
            exact (show zRet Γ cX9_copyPlain 4 0 0 (some (.int 0)) σ3 from K) _ _ dX9_copyPlain_81
      · refine zj_iconst (v := 0) E dX9_copyPlain_43 (by decide) ?_
        have e9 := Option.some.inj h
        subst e9
        exact (show zRet Γ cX9_copyPlain 4 0 0 (some (.int 0)) σ3 from K) _ _ dX9_copyPlain_44
set_option maxRecDepth 100000 in
theorem kX9_copyPlain (l : Launch) (D : va_G) (cs : zCs) (z0 : Nat) (σ : zS) {p0 : Nat} {r : Int32} {σ' : zS} (h : fX9_copyPlain σ p0 = some (r, σ')) : zM l D cs z0 yX9_copyPlain cX9_copyPlain 4 (some .boolean) { frames := 2, cells := 0, slots := 0, locals := 45 } [.ref p0] σ (some (.int r)) σ' 0 0 := by
  obtain ⟨r0, s0, h0, h⟩ := oC_some h
  obtain ⟨hz, h⟩ := oA_some h
  cases h
  exact zM_of (by decide) rfl (Or.inr ⟨rfl, hz⟩) (Nat.le_of_ble_eq_true rfl) rfl (fun Γ e1 e2 e3 e4 E hN K => wX9_copyPlain E σ _ h0 K)
