/-! X5_hasFrame -/
def gX5_hasFrame (σ : zS) (p0 : Nat) (p1 : Int32) : Option Int32 := oGI σ 6 p0 2 (fun x1 => (if x1 = 0 then some 0 else (if p1 < 0 then some 0 else oGI σ 6 p0 7 (fun x2 => (if x2 ≤ p1 then some 0 else some 1)))))
def fX5_hasFrame (σ : zS) (p0 : Nat) (p1 : Int32) : Option Int32 := oB (gX5_hasFrame σ p0 p1) (fun r => oA (r = 0 ∨ r = 1) (some r))
set_option maxRecDepth 100000 in
theorem wX5_hasFrame {Γ : zG} (E : zE Γ cX5_hasFrame RX5 2 { frames := 0, cells := 0, slots := 0, locals := 0 }) (σ : zS) (p0 : Nat) (p1 : Int32) {R : Int32} (h : gX5_hasFrame σ p0 p1 = some R) (K : zRet Γ cX5_hasFrame 2 0 0 (some (.int R)) σ) : zJ Γ 2 0 0 σ 0 [(0, .ref p0), (1, .int p1)] [] := by
  unfold gX5_hasFrame at h
  refine zj_aload_n E dX5_hasFrame_0 rfl 0 rfl ?_
  refine zs_getI E zc5 2 (by decide) zw_15_3 rfl dX5_hasFrame_1 h (fun x1 h => ?_)
  refine zj_if_eq (tgt := 23) E dX5_hasFrame_4 (by decide) h (fun h => ?_) (fun h => ?_)
  · refine zj_iconst (v := 0) E dX5_hasFrame_23 (by decide) ?_
    have e9 := Option.some.inj h
    subst e9
    exact (show zRet Γ cX5_hasFrame 2 0 0 (some (.int 0)) σ from K) _ _ dX5_hasFrame_24
  · refine zj_iload_n E dX5_hasFrame_7 rfl 1 rfl ?_
    refine zj_if_lt (tgt := 23) E dX5_hasFrame_8 (by decide) h (fun h => ?_) (fun h => ?_)
    · refine zj_iconst (v := 0) E dX5_hasFrame_23 (by decide) ?_
      have e9 := Option.some.inj h
      subst e9
      exact (show zRet Γ cX5_hasFrame 2 0 0 (some (.int 0)) σ from K) _ _ dX5_hasFrame_24
    · refine zj_iload_n E dX5_hasFrame_11 rfl 1 rfl ?_
      refine zj_aload_n E dX5_hasFrame_12 rfl 0 rfl ?_
      refine zs_getI E zc5 7 (by decide) zw_15_7 rfl dX5_hasFrame_13 h (fun x2 h => ?_)
      refine zj_icmp_ge (tgt := 23) E dX5_hasFrame_16 (by decide) h (fun h => ?_) (fun h => ?_)
      · refine zj_iconst (v := 0) E dX5_hasFrame_23 (by decide) ?_
        have e9 := Option.some.inj h
        subst e9
        exact (show zRet Γ cX5_hasFrame 2 0 0 (some (.int 0)) σ from K) _ _ dX5_hasFrame_24
      · refine zj_iconst (v := 1) E dX5_hasFrame_19 (by decide) ?_
        refine zj_goto (tgt := 24) E dX5_hasFrame_20 (by decide) ?_
        have e9 := Option.some.inj h
        subst e9
        exact (show zRet Γ cX5_hasFrame 2 0 0 (some (.int 1)) σ from K) _ _ dX5_hasFrame_24
set_option maxRecDepth 100000 in
theorem kX5_hasFrame (l : Launch) (D : va_G) (cs : zCs) (z0 : Nat) (σ : zS) {p0 : Nat} {p1 : Int32} {r : Int32} (h : fX5_hasFrame σ p0 p1 = some r) : zM l D cs z0 yX5_hasFrame cX5_hasFrame 2 (some .boolean) { frames := 0, cells := 0, slots := 0, locals := 0 } [.ref p0, .int p1] σ (some (.int r)) σ 0 0 := by
  obtain ⟨r0, h0, h⟩ := oB_some h
  obtain ⟨hz, h⟩ := oA_some h
  cases h
  exact zM_of (by decide) rfl (Or.inr ⟨rfl, hz⟩) (Nat.le_of_ble_eq_true rfl) rfl (fun Γ e1 e2 e3 e4 E hN K => wX5_hasFrame E σ _ _ h0 K)
/-! X5_fact -/
def fX5_fact (σ : zS) (p0 : Nat) (p1 : Int32) : Option Int32 := (if p1 = 0 then oGI σ 6 p0 4 (fun x1 => some x1) else (if p1 = 1 then oGI σ 6 p0 5 (fun x2 => some x2) else (if p1 = 2 then oGI σ 6 p0 7 (fun x3 => some x3) else (if p1 = 3 then oGI σ 6 p0 6 (fun x4 => some x4) else oGI σ 6 p0 3 (fun x5 => (if x5 = 0 then some 0 else some 1))))))
set_option maxRecDepth 100000 in
theorem wX5_fact {Γ : zG} (E : zE Γ cX5_fact RX5 2 { frames := 0, cells := 0, slots := 0, locals := 0 }) (σ : zS) (p0 : Nat) (p1 : Int32) {R : Int32} (h : fX5_fact σ p0 p1 = some R) (K : zRet Γ cX5_fact 2 0 0 (some (.int R)) σ) : zJ Γ 2 0 0 σ 0 [(0, .ref p0), (1, .int p1)] [] := by
  unfold fX5_fact at h
  refine zj_iload_n E dX5_fact_0 rfl 1 rfl ?_
  by_cases e0 : p1 = 0
  · rw [if_pos e0] at h
    refine zj_tIn (tgt := 32) E e0 dX5_fact_1 (by decide) (by decide) rfl (by decide) ?_
    refine zj_aload_n E dX5_fact_32 rfl 0 rfl ?_
    refine zs_getI E zc5 4 (by decide) zw_15_5 rfl dX5_fact_33 h (fun x1 h => ?_)
    have e9 := Option.some.inj h
    subst e9
    exact (show zRet Γ cX5_fact 2 0 0 (some (.int x1)) σ from K) _ _ dX5_fact_36
  rw [if_neg e0] at h
  by_cases e1 : p1 = 1
  · rw [if_pos e1] at h
    refine zj_tIn (tgt := 37) E e1 dX5_fact_1 (by decide) (by decide) rfl (by decide) ?_
    refine zj_aload_n E dX5_fact_37 rfl 0 rfl ?_
    refine zs_getI E zc5 5 (by decide) zw_15_6 rfl dX5_fact_38 h (fun x2 h => ?_)
    have e9 := Option.some.inj h
    subst e9
    exact (show zRet Γ cX5_fact 2 0 0 (some (.int x2)) σ from K) _ _ dX5_fact_41
  rw [if_neg e1] at h
  by_cases e2 : p1 = 2
  · rw [if_pos e2] at h
    refine zj_tIn (tgt := 42) E e2 dX5_fact_1 (by decide) (by decide) rfl (by decide) ?_
    refine zj_aload_n E dX5_fact_42 rfl 0 rfl ?_
    refine zs_getI E zc5 7 (by decide) zw_15_7 rfl dX5_fact_43 h (fun x3 h => ?_)
    have e9 := Option.some.inj h
    subst e9
    exact (show zRet Γ cX5_fact 2 0 0 (some (.int x3)) σ from K) _ _ dX5_fact_46
  rw [if_neg e2] at h
  by_cases e3 : p1 = 3
  · rw [if_pos e3] at h
    refine zj_tIn (tgt := 47) E e3 dX5_fact_1 (by decide) (by decide) rfl (by decide) ?_
    refine zj_aload_n E dX5_fact_47 rfl 0 rfl ?_
    refine zs_getI E zc5 6 (by decide) zw_26_16 rfl dX5_fact_48 h (fun x4 h => ?_)
    have e9 := Option.some.inj h
    subst e9
    exact (show zRet Γ cX5_fact 2 0 0 (some (.int x4)) σ from K) _ _ dX5_fact_51
  rw [if_neg e3] at h
  refine zj_tOut (tgt := 52) E dX5_fact_1 (by have := And.intro (lv_neT (a := 0) e0 (by decide)) (And.intro (lv_neT (a := 1) e1 (by decide)) (And.intro (lv_neT (a := 2) e2 (by decide)) (lv_neT (a := 3) e3 (by decide)))); omega) (by decide) ?_
  refine zj_aload_n E dX5_fact_52 rfl 0 rfl ?_
  refine zs_getI E zc5 3 (by decide) zw_15_4 rfl dX5_fact_53 h (fun x5 h => ?_)
  refine zj_if_eq (tgt := 63) E dX5_fact_56 (by decide) h (fun h => ?_) (fun h => ?_)
  · refine zj_iconst (v := 0) E dX5_fact_63 (by decide) ?_
    have e9 := Option.some.inj h
    subst e9
    exact (show zRet Γ cX5_fact 2 0 0 (some (.int 0)) σ from K) _ _ dX5_fact_64
  · refine zj_iconst (v := 1) E dX5_fact_59 (by decide) ?_
    refine zj_goto (tgt := 64) E dX5_fact_60 (by decide) ?_
    have e9 := Option.some.inj h
    subst e9
    exact (show zRet Γ cX5_fact 2 0 0 (some (.int 1)) σ from K) _ _ dX5_fact_64
set_option maxRecDepth 100000 in
theorem kX5_fact (l : Launch) (D : va_G) (cs : zCs) (z0 : Nat) (σ : zS) {p0 : Nat} {p1 : Int32} {r : Int32} (h : fX5_fact σ p0 p1 = some r) : zM l D cs z0 yX5_fact cX5_fact 2 (some .int) { frames := 0, cells := 0, slots := 0, locals := 0 } [.ref p0, .int p1] σ (some (.int r)) σ 0 0 := by
  exact zM_of (by decide) rfl (Or.inl rfl) (Nat.le_of_ble_eq_true rfl) rfl (fun Γ e1 e2 e3 e4 E hN K => wX5_fact E σ _ _ h K)
/-! X7_init -/
def fX7_init (σ : zS) (p0 : Nat) : Option zS := oNa σ 21 256 (fun a1 σ1 => oPR σ1 7 p0 0 a1 (fun σ2 => oNa σ2 21 256 (fun a2 σ3 => oPR σ3 7 p0 1 a2 (fun σ4 => some σ4))))
set_option maxRecDepth 100000 in
theorem wX7_init {Γ : zG} (E : zE Γ cX7_init RX7 1 { frames := 1, cells := 2, slots := 512, locals := 20 }) (hN : (zgt Γ).name = "<init>") (σ : zS) (p0 : Nat) {R : zS} (h : fX7_init σ p0 = some R) (K : zRet Γ cX7_init 1 2 512 (none) R) : zJ Γ 1 0 0 σ 0 [(0, .ref p0)] [] := by
  unfold fX7_init at h
  refine zj_aload_n E dX7_init_0 rfl 0 rfl ?_
  refine zs_obj E zw_5_19 zw_1_11 zw_1_12 (by decide) (Nat.le_of_ble_eq_true rfl) dX7_init_1 ?_
  refine zj_aload_n E dX7_init_4 rfl 0 rfl ?_
  refine zj_sipush (v := 256) E dX7_init_5 (by decide) ?_
  refine zt_newI (N := 256) E zw_2_17 (by decide) ⟨by decide, by decide⟩ dX7_init_8 h (fun a1 σ1 h => ?_)
  show zJ Γ 1 1 256 σ1 10 [(0, .ref p0)] [.ref a1, .ref p0]
  refine zs_putFR E zc6 hN 0 (by decide) zw_5_20 rfl rfl rfl dX7_init_10 h (fun σ2 h => ?_)
  refine zj_aload_n E dX7_init_13 rfl 0 rfl ?_
  refine zj_sipush (v := 256) E dX7_init_14 (by decide) ?_
  refine zt_newI (N := 256) E zw_2_17 (by decide) ⟨by decide, by decide⟩ dX7_init_17 h (fun a2 σ3 h => ?_)
  show zJ Γ 1 2 512 σ3 19 [(0, .ref p0)] [.ref a2, .ref p0]
  refine zs_putFR E zc6 hN 1 (by decide) zw_5_21 rfl rfl rfl dX7_init_19 h (fun σ4 h => ?_)
  have e9 := Option.some.inj h
  subst e9
  exact (show zRet Γ cX7_init 1 2 512 (none) σ4 from K) _ _ dX7_init_22
set_option maxRecDepth 100000 in
theorem kX7_init (l : Launch) (D : va_G) (cs : zCs) (z0 : Nat) (σ : zS) {p0 : Nat}  {σ' : zS} (h : fX7_init σ p0 = some σ') : zM l D cs z0 yX7_init cX7_init 1 none { frames := 1, cells := 2, slots := 512, locals := 20 } [.ref p0] σ none σ' 2 512 := by
  exact zM_of (by decide) rfl rfl (Nat.le_of_ble_eq_true rfl) rfl (fun Γ e1 e2 e3 e4 E hN K => wX7_init E hN σ _ h K)
/-! X7_forget -/
def fX7_forget (σ : zS) (p0 : Nat) : Option zS := oPI σ 7 p0 2 0 (fun σ1 => oPI σ1 7 p0 3 0 (fun σ2 => some σ2))
set_option maxRecDepth 100000 in
theorem wX7_forget {Γ : zG} (E : zE Γ cX7_forget RX7 1 { frames := 0, cells := 0, slots := 0, locals := 0 }) (σ : zS) (p0 : Nat) {R : zS} (h : fX7_forget σ p0 = some R) (K : zRet Γ cX7_forget 1 0 0 (none) R) : zJ Γ 1 0 0 σ 0 [(0, .ref p0)] [] := by
  unfold fX7_forget at h
  refine zj_aload_n E dX7_forget_0 rfl 0 rfl ?_
  refine zj_iconst (v := 0) E dX7_forget_1 (by decide) ?_
  refine zs_putI E zc6 2 (by decide) zw_17_11 rfl rfl dX7_forget_2 h (fun σ1 h => ?_)
  refine zj_aload_n E dX7_forget_5 rfl 0 rfl ?_
  refine zj_iconst (v := 0) E dX7_forget_6 (by decide) ?_
  refine zs_putI E zc6 3 (by decide) zw_17_12 rfl rfl dX7_forget_7 h (fun σ2 h => ?_)
  have e9 := Option.some.inj h
  subst e9
  exact (show zRet Γ cX7_forget 1 0 0 (none) σ2 from K) _ _ dX7_forget_10
set_option maxRecDepth 100000 in
theorem kX7_forget (l : Launch) (D : va_G) (cs : zCs) (z0 : Nat) (σ : zS) {p0 : Nat}  {σ' : zS} (h : fX7_forget σ p0 = some σ') : zM l D cs z0 yX7_forget cX7_forget 1 none { frames := 0, cells := 0, slots := 0, locals := 0 } [.ref p0] σ none σ' 0 0 := by
  exact zM_of (by decide) rfl rfl (Nat.le_of_ble_eq_true rfl) rfl (fun Γ e1 e2 e3 e4 E hN K => wX7_forget E σ _ h K)
/-! X7_has -/
def gX7_has (σ : zS) (p0 : Nat) (p1 : Int32) (p2 : Int32) : Option Int32 := (if p1 < 0 then some 0 else oGI σ 7 p0 2 (fun x1 => (if x1 ≤ p1 then some 0 else (if p2 < 0 then some 0 else oGI σ 7 p0 3 (fun x2 => (if x2 ≤ p2 then some 0 else some 1))))))
def fX7_has (σ : zS) (p0 : Nat) (p1 : Int32) (p2 : Int32) : Option Int32 := oB (gX7_has σ p0 p1 p2) (fun r => oA (r = 0 ∨ r = 1) (some r))
set_option maxRecDepth 100000 in
theorem wX7_has {Γ : zG} (E : zE Γ cX7_has RX7 3 { frames := 0, cells := 0, slots := 0, locals := 0 }) (σ : zS) (p0 : Nat) (p1 : Int32) (p2 : Int32) {R : Int32} (h : gX7_has σ p0 p1 p2 = some R) (K : zRet Γ cX7_has 3 0 0 (some (.int R)) σ) : zJ Γ 3 0 0 σ 0 [(0, .ref p0), (1, .int p1), (2, .int p2)] [] := by
  unfold gX7_has at h
  refine zj_iload_n E dX7_has_0 rfl 1 rfl ?_
  refine zj_if_lt (tgt := 28) E dX7_has_1 (by decide) h (fun h => ?_) (fun h => ?_)
  · refine zj_iconst (v := 0) E dX7_has_28 (by decide) ?_
    have e9 := Option.some.inj h
    subst e9
    exact (show zRet Γ cX7_has 3 0 0 (some (.int 0)) σ from K) _ _ dX7_has_29
  · refine zj_iload_n E dX7_has_4 rfl 1 rfl ?_
    refine zj_aload_n E dX7_has_5 rfl 0 rfl ?_
    refine zs_getI E zc6 2 (by decide) zw_17_11 rfl dX7_has_6 h (fun x1 h => ?_)
    refine zj_icmp_ge (tgt := 28) E dX7_has_9 (by decide) h (fun h => ?_) (fun h => ?_)
    · refine zj_iconst (v := 0) E dX7_has_28 (by decide) ?_
      have e9 := Option.some.inj h
      subst e9
      exact (show zRet Γ cX7_has 3 0 0 (some (.int 0)) σ from K) _ _ dX7_has_29
    · refine zj_iload_n E dX7_has_12 rfl 2 rfl ?_
      refine zj_if_lt (tgt := 28) E dX7_has_13 (by decide) h (fun h => ?_) (fun h => ?_)
      · refine zj_iconst (v := 0) E dX7_has_28 (by decide) ?_
        have e9 := Option.some.inj h
        subst e9
        exact (show zRet Γ cX7_has 3 0 0 (some (.int 0)) σ from K) _ _ dX7_has_29
      · refine zj_iload_n E dX7_has_16 rfl 2 rfl ?_
        refine zj_aload_n E dX7_has_17 rfl 0 rfl ?_
        refine zs_getI E zc6 3 (by decide) zw_17_12 rfl dX7_has_18 h (fun x2 h => ?_)
        refine zj_icmp_ge (tgt := 28) E dX7_has_21 (by decide) h (fun h => ?_) (fun h => ?_)
        · refine zj_iconst (v := 0) E dX7_has_28 (by decide) ?_
          have e9 := Option.some.inj h
          subst e9
          exact (show zRet Γ cX7_has 3 0 0 (some (.int 0)) σ from K) _ _ dX7_has_29
        · refine zj_iconst (v := 1) E dX7_has_24 (by decide) ?_
          refine zj_goto (tgt := 29) E dX7_has_25 (by decide) ?_
          have e9 := Option.some.inj h
          subst e9
          exact (show zRet Γ cX7_has 3 0 0 (some (.int 1)) σ from K) _ _ dX7_has_29
set_option maxRecDepth 100000 in
theorem kX7_has (l : Launch) (D : va_G) (cs : zCs) (z0 : Nat) (σ : zS) {p0 : Nat} {p1 : Int32} {p2 : Int32} {r : Int32} (h : fX7_has σ p0 p1 p2 = some r) : zM l D cs z0 yX7_has cX7_has 3 (some .boolean) { frames := 0, cells := 0, slots := 0, locals := 0 } [.ref p0, .int p1, .int p2] σ (some (.int r)) σ 0 0 := by
  obtain ⟨r0, h0, h⟩ := oB_some h
  obtain ⟨hz, h⟩ := oA_some h
  cases h
  exact zM_of (by decide) rfl (Or.inr ⟨rfl, hz⟩) (Nat.le_of_ble_eq_true rfl) rfl (fun Γ e1 e2 e3 e4 E hN K => wX7_has E σ _ _ _ h0 K)
/-! X7_copy -/
def fX7_copy (σ : zS) (p0 : Nat) (p1 : Nat) : Option zS := oGI σ 4 p1 1 (fun x1 => oPI σ 7 p0 2 x1 (fun σ1 => oGI σ1 4 p1 2 (fun x2 => oPI σ1 7 p0 3 x2 (fun σ2 => oGR σ2 4 p1 0 (fun a1 => oGR σ2 7 p0 0 (fun a2 => oCp σ2 a1 0 a2 0 256 (fun σ3 => some σ3)))))))
set_option maxRecDepth 100000 in
theorem wX7_copy {Γ : zG} (E : zE Γ cX7_copy RX7 2 { frames := 1, cells := 0, slots := 0, locals := 40 }) (σ : zS) (p0 : Nat) (p1 : Nat) {R : zS} (h : fX7_copy σ p0 p1 = some R) (K : zRet Γ cX7_copy 2 0 0 (none) R) : zJ Γ 2 0 0 σ 0 [(0, .ref p0), (1, .ref p1)] [] := by
  unfold fX7_copy at h
  refine zj_aload_n E dX7_copy_0 rfl 0 rfl ?_
  refine zj_aload_n E dX7_copy_1 rfl 1 rfl ?_
  refine zs_getIN E zc3 1 (by decide) (znf_19) rfl dX7_copy_2 h (fun x1 h => ?_)
  refine zs_putI E zc6 2 (by decide) zw_17_11 rfl rfl dX7_copy_5 h (fun σ1 h => ?_)
  refine zj_aload_n E dX7_copy_8 rfl 0 rfl ?_
  refine zj_aload_n E dX7_copy_9 rfl 1 rfl ?_
  refine zs_getIN E zc3 2 (by decide) (znf_24) rfl dX7_copy_10 h (fun x2 h => ?_)
  refine zs_putI E zc6 3 (by decide) zw_17_12 rfl rfl dX7_copy_13 h (fun σ2 h => ?_)
  refine zj_aload_n E dX7_copy_16 rfl 1 rfl ?_
  refine zs_getRN E zc3 0 (by decide) (znf_14) rfl dX7_copy_17 h (fun a1 h => ?_)
  refine zj_iconst (v := 0) E dX7_copy_20 (by decide) ?_
  refine zj_aload_n E dX7_copy_21 rfl 0 rfl ?_
  refine zs_getR E zc6 0 (by decide) zw_5_20 rfl dX7_copy_22 h (fun a2 h => ?_)
  refine zj_iconst (v := 0) E dX7_copy_25 (by decide) ?_
  refine zj_sipush (v := 256) E dX7_copy_26 (by decide) ?_
  refine zs_copy E zw_27_15 zw_27_16 zw_27_17 zw_27_18 (by decide) (Nat.le_of_ble_eq_true rfl) dX7_copy_29 h (fun σ3 h => ?_)
  have e9 := Option.some.inj h
  subst e9
  exact (show zRet Γ cX7_copy 2 0 0 (none) σ3 from K) _ _ dX7_copy_32
set_option maxRecDepth 100000 in
theorem kX7_copy (l : Launch) (D : va_G) (cs : zCs) (z0 : Nat) (σ : zS) {p0 : Nat} {p1 : Nat}  {σ' : zS} (h : fX7_copy σ p0 p1 = some σ') : zM l D cs z0 yX7_copy cX7_copy 2 none { frames := 1, cells := 0, slots := 0, locals := 40 } [.ref p0, .ref p1] σ none σ' 0 0 := by
  exact zM_of (by decide) rfl rfl (Nat.le_of_ble_eq_true rfl) rfl (fun Γ e1 e2 e3 e4 E hN K => wX7_copy E σ _ _ h K)
/-! X7_blended -/
def fX7_blended_17 (σ : zS) (l0 : Int32) (l1 : Int32) (l2 : Int32) : Option Int32 := (if l2 = 0 then some l1 else some l0)
set_option maxRecDepth 100000 in
theorem wX7_blended_17 {Γ : zG} (E : zE Γ cX7_blended RX7 9 { frames := 0, cells := 0, slots := 0, locals := 0 }) (σ : zS) (l0 : Int32) (l1 : Int32) (l2 : Int32) {R : Int32} (h : fX7_blended_17 σ l0 l1 l2 = some R) (K : zRet Γ cX7_blended 9 0 0 (some (.int R)) σ) : zJ Γ 9 0 0 σ 17 [(0, .int l0), (1, .int l1), (2, .int l2)] [] := by
  unfold fX7_blended_17 at h
  refine zj_iload_n E dX7_blended_17 rfl 2 rfl ?_
  refine zj_if_ne (tgt := 25) E dX7_blended_18 (by decide) h (fun h => ?_) (fun h => ?_)
  · refine zj_iload_n E dX7_blended_25 rfl 0 rfl ?_
    have e9 := Option.some.inj h
    subst e9
    exact (show zRet Γ cX7_blended 9 0 0 (some (.int l0)) σ from K) _ _ dX7_blended_26
  · refine zj_iload_n E dX7_blended_21 rfl 1 rfl ?_
    refine zj_goto (tgt := 26) E dX7_blended_22 (by decide) ?_
    have e9 := Option.some.inj h
    subst e9
    exact (show zRet Γ cX7_blended 9 0 0 (some (.int l1)) σ from K) _ _ dX7_blended_26
def jX7_blended_60 (Γ : zG) (σ : zS) (l0 : Int32) (l1 : Int32) (l2 : Int32) (l3 : Int32) (l4 : Int32) : (Int32 × Int32) → Prop := fun x => zJ Γ 9 0 0 σ 60 [(0, .int l0), (1, .int l1), (2, .int l2), (3, .int l3), (4, .int l4), (5, .int x.1), (6, .int x.2)] []
def eX7_blended_60 (Γ : zG) (σ : zS) (l0 : Int32) (l1 : Int32) (l2 : Int32) (l3 : Int32) (l4 : Int32) : Int32 → Prop := fun b => zJ Γ 9 0 0 σ 123 [(5, .int b)] []
def bX7_blended_60 (σ : zS) (l0 : Int32) (l1 : Int32) (l2 : Int32) (l3 : Int32) (l4 : Int32) (l5 : Int32) (l6 : Int32) : Option ((Int32 × Int32) ⊕ Int32) := (if (24 : Int32) < l6 then some (.inr l5) else oL (((((l0.toUInt32 >>> (l6.toUInt32 &&& Int32.toUInt32 31)).toInt32) &&& (255 : Int32)) * l2) * (255 : Int32)) (fun v5 => oL (((((l1.toUInt32 >>> (l6.toUInt32 &&& Int32.toUInt32 31)).toInt32) &&& (255 : Int32)) * l3) * ((255 : Int32) - l2)) (fun v6 => oA (¬ l4 = 0) (oL (l5 ||| (((v5 + v6) / l4) <<< (l6 &&& 31))) (fun v7 => oL (l6 + 8) (fun v8 => some (.inl (v7, v8))))))))
set_option maxRecDepth 100000 in
theorem wX7_blended_L60 {Γ : zG} (E : zE Γ cX7_blended RX7 9 { frames := 0, cells := 0, slots := 0, locals := 0 }) (σ : zS) (l0 : Int32) (l1 : Int32) (l2 : Int32) (l3 : Int32) (l4 : Int32) : ∀ x R, (fun x => bX7_blended_60 σ l0 l1 l2 l3 l4 x.1 x.2) x = some R → Sum.elim (jX7_blended_60 Γ σ l0 l1 l2 l3 l4) (eX7_blended_60 Γ σ l0 l1 l2 l3 l4) R → jX7_blended_60 Γ σ l0 l1 l2 l3 l4 x := by
  intro x R h K
  obtain ⟨l5, l6⟩ := x
  have h : bX7_blended_60 σ l0 l1 l2 l3 l4 l5 l6 = some R := h
  show zJ Γ 9 0 0 σ 60 [(0, .int l0), (1, .int l1), (2, .int l2), (3, .int l3), (4, .int l4), (5, .int l5), (6, .int l6)] []
  unfold bX7_blended_60 at h
  refine zj_iload E dX7_blended_60 6 rfl ?_
  refine zj_bipush (v := 24) E dX7_blended_62 (by decide) ?_
  refine zj_icmp_gt (tgt := 123) E dX7_blended_64 (by decide) h (fun h => ?_) (fun h => ?_)
  · have e9 := Option.some.inj h
    subst e9
    refine zj_lv [5] rfl ?_
    exact K
  · refine zj_iload_n E dX7_blended_67 rfl 0 rfl ?_
    refine zj_iload E dX7_blended_68 6 rfl ?_
    refine zj_iushr E dX7_blended_70 ?_
    refine zj_sipush (v := 255) E dX7_blended_71 (by decide) ?_
    refine zj_iand E dX7_blended_74 ?_
    refine zj_iload_n E dX7_blended_75 rfl 2 rfl ?_
    refine zj_imul E dX7_blended_76 ?_
    refine zj_sipush (v := 255) E dX7_blended_77 (by decide) ?_
    refine zj_imul E dX7_blended_80 ?_
    refine zs_istore (lv2 := fun v5 => [(7, .int v5), (0, .int l0), (1, .int l1), (2, .int l2), (3, .int l3), (4, .int l4), (5, .int l5), (6, .int l6)]) E dX7_blended_81 (by decide) (fun _ => rfl) h (fun v5 h => ?_)
    refine zj_iload_n E dX7_blended_83 rfl 2 rfl ?_
    refine zj_iload E dX7_blended_84 7 rfl ?_
    refine zj_iushr E dX7_blended_86 ?_
    refine zj_sipush (v := 255) E dX7_blended_87 (by decide) ?_
    refine zj_iand E dX7_blended_90 ?_
    refine zj_iload_n E dX7_blended_91 rfl 4 rfl ?_
    refine zj_imul E dX7_blended_92 ?_
    refine zj_sipush (v := 255) E dX7_blended_93 (by decide) ?_
    refine zj_iload_n E dX7_blended_96 rfl 3 rfl ?_
    refine zj_isub E dX7_blended_97 ?_
    refine zj_imul E dX7_blended_98 ?_
    refine zs_istore (lv2 := fun v6 => [(8, .int v6), (7, .int v5), (0, .int l0), (1, .int l1), (2, .int l2), (3, .int l3), (4, .int l4), (5, .int l5), (6, .int l6)]) E dX7_blended_99 (by decide) (fun _ => rfl) h (fun v6 h => ?_)
    refine zj_iload E dX7_blended_101 7 rfl ?_
    refine zj_iload E dX7_blended_103 1 rfl ?_
    refine zj_iload E dX7_blended_105 0 rfl ?_
    refine zj_iadd E dX7_blended_107 ?_
    refine zj_iload E dX7_blended_108 6 rfl ?_
    obtain ⟨hne, h⟩ := oA_some h
    refine zj_idiv E dX7_blended_110 hne ?_
    refine zj_iload E dX7_blended_111 8 rfl ?_
    refine zj_ishl E dX7_blended_113 ?_
    refine zj_ior E dX7_blended_114 ?_
    refine zs_istore (lv2 := fun v7 => [(5, .int v7), (8, .int v6), (7, .int v5), (0, .int l0), (1, .int l1), (2, .int l2), (3, .int l3), (4, .int l4), (6, .int l6)]) E dX7_blended_115 (by decide) (fun _ => rfl) h (fun v7 h => ?_)
    refine zs_iinc (lv2 := fun v8 => [(6, .int v8), (5, .int v7), (8, .int v6), (7, .int v5), (0, .int l0), (1, .int l1), (2, .int l2), (3, .int l3), (4, .int l4)]) E dX7_blended_117 8 rfl (by decide) (by decide) (fun _ => rfl) h (fun v8 h => ?_)
    refine zj_goto (tgt := 60) E dX7_blended_120 (by decide) ?_
    have e9 := Option.some.inj h
    subst e9
    refine zj_lv [4, 5, 6, 7, 8, 1, 0] rfl ?_
    exact K
def fX7_blended (σ : zS) (p0 : Int32) (p1 : Int32) : Option Int32 := oL (p0 &&& (255 : Int32)) (fun v1 => (if v1 = 0 then fX7_blended_17 σ p0 p1 v1 else (if v1 = (255 : Int32) then fX7_blended_17 σ p0 p1 v1 else oL (p1 &&& (255 : Int32)) (fun v2 => oL ((v1 * (255 : Int32)) + (((255 : Int32) - v1) * v2)) (fun v3 => oL (v3 / (255 : Int32)) (fun v4 => oB (zloop zF (fun x => bX7_blended_60 σ p0 p1 v1 v2 v3 x.1 x.2) (v4, 8)) (fun b1 => (fun v9 => some v9) b1)))))))
set_option maxRecDepth 100000 in
theorem wX7_blended {Γ : zG} (E : zE Γ cX7_blended RX7 9 { frames := 0, cells := 0, slots := 0, locals := 0 }) (σ : zS) (p0 : Int32) (p1 : Int32) {R : Int32} (h : fX7_blended σ p0 p1 = some R) (K : zRet Γ cX7_blended 9 0 0 (some (.int R)) σ) : zJ Γ 9 0 0 σ 0 [(0, .int p0), (1, .int p1)] [] := by
  unfold fX7_blended at h
  refine zj_iload_n E dX7_blended_0 rfl 0 rfl ?_
  refine zj_sipush (v := 255) E dX7_blended_1 (by decide) ?_
  refine zj_iand E dX7_blended_4 ?_
  refine zs_istore_n (lv2 := fun v1 => [(2, .int v1), (0, .int p0), (1, .int p1)]) E dX7_blended_5 rfl (by decide) (fun _ => rfl) h (fun v1 h => ?_)
  refine zj_iload_n E dX7_blended_6 rfl 0 rfl ?_
  refine zj_if_eq (tgt := 17) E dX7_blended_7 (by decide) h (fun h => ?_) (fun h => ?_)
  · refine zj_lv [1, 2, 0] rfl ?_
    exact wX7_blended_17 E _ _ _ _ h K
  · refine zj_iload_n E dX7_blended_10 rfl 0 rfl ?_
    refine zj_sipush (v := 255) E dX7_blended_11 (by decide) ?_
    refine zj_icmp_ne (tgt := 27) E dX7_blended_14 (by decide) h (fun h => ?_) (fun h => ?_)
    · refine zj_iload_n E dX7_blended_27 rfl 2 rfl ?_
      refine zj_sipush (v := 255) E dX7_blended_28 (by decide) ?_
      refine zj_iand E dX7_blended_31 ?_
      refine zs_istore_n (lv2 := fun v2 => [(3, .int v2), (2, .int v1), (0, .int p0), (1, .int p1)]) E dX7_blended_32 rfl (by decide) (fun _ => rfl) h (fun v2 h => ?_)
      refine zj_iload_n E dX7_blended_33 rfl 1 rfl ?_
      refine zj_sipush (v := 255) E dX7_blended_34 (by decide) ?_
      refine zj_imul E dX7_blended_37 ?_
      refine zj_sipush (v := 255) E dX7_blended_38 (by decide) ?_
      refine zj_iload_n E dX7_blended_41 rfl 1 rfl ?_
      refine zj_isub E dX7_blended_42 ?_
      refine zj_iload_n E dX7_blended_43 rfl 0 rfl ?_
      refine zj_imul E dX7_blended_44 ?_
      refine zj_iadd E dX7_blended_45 ?_
      refine zs_istore (lv2 := fun v3 => [(4, .int v3), (3, .int v2), (2, .int v1), (0, .int p0), (1, .int p1)]) E dX7_blended_46 (by decide) (fun _ => rfl) h (fun v3 h => ?_)
      refine zj_iload E dX7_blended_48 0 rfl ?_
      refine zj_sipush (v := 255) E dX7_blended_50 (by decide) ?_
      refine zj_idiv E dX7_blended_53 (by decide) ?_
      refine zs_istore (lv2 := fun v4 => [(5, .int v4), (4, .int v3), (3, .int v2), (2, .int v1), (0, .int p0), (1, .int p1)]) E dX7_blended_54 (by decide) (fun _ => rfl) h (fun v4 h => ?_)
      refine zj_bipush (v := 8) E dX7_blended_56 (by decide) ?_
      refine zj_istore (lv2 := [(6, .int 8), (5, .int v4), (4, .int v3), (3, .int v2), (2, .int v1), (0, .int p0), (1, .int p1)]) E dX7_blended_58 (by decide) rfl ?_
      obtain ⟨b1, hb1, h⟩ := oB_some h
      refine zj_lv [5, 6, 4, 3, 2, 1, 0] rfl ?_
      refine zj_loop (wX7_blended_L60 E σ p0 p1 v1 v2 v3) zF (v4, 8) b1 hb1 ?_
      obtain ⟨v9, rfl⟩ : ∃ z, z = b1 := ⟨_, rfl⟩
      try dsimp only at h
      show zJ Γ 9 0 0 σ 123 [(5, .int v9)] []
      refine zj_iload E dX7_blended_123 0 rfl ?_
      have e9 := Option.some.inj h
      subst e9
      exact (show zRet Γ cX7_blended 9 0 0 (some (.int v9)) σ from K) _ _ dX7_blended_125
    · refine zj_lv [1, 2, 0] rfl ?_
      exact wX7_blended_17 E _ _ _ _ h K
set_option maxRecDepth 100000 in
theorem kX7_blended (l : Launch) (D : va_G) (cs : zCs) (z0 : Nat) (σ : zS) {p0 : Int32} {p1 : Int32} {r : Int32} (h : fX7_blended σ p0 p1 = some r) : zM l D cs z0 yX7_blended cX7_blended 9 (some .int) { frames := 0, cells := 0, slots := 0, locals := 0 } [.int p0, .int p1] σ (some (.int r)) σ 0 0 := by
  exact zM_of (by decide) rfl (Or.inl rfl) (Nat.le_of_ble_eq_true rfl) rfl (fun Γ e1 e2 e3 e4 E hN K => wX7_blended E σ _ _ h K)
/-! X7_draw -/
def jX7_draw_2 (Γ : zG) (l0 : Nat) (l1 : Nat) : (Int32 × zS) → Prop := fun x => zJ Γ 6 0 0 x.2 2 [(0, .ref l0), (1, .ref l1), (2, .int x.1)] []
def eX7_draw_2 (Γ : zG) (l0 : Nat) (l1 : Nat) : zS → Prop := fun b => zJ Γ 6 0 0 b 98 [] []
def jX7_draw_12 (Γ : zG) (l0 : Nat) (l1 : Nat) (l2 : Int32) : (Int32 × zS) → Prop := fun x => zJ Γ 6 0 0 x.2 12 [(0, .ref l0), (1, .ref l1), (2, .int l2), (3, .int x.1)] []
def eX7_draw_12 (Γ : zG) (l0 : Nat) (l1 : Nat) (l2 : Int32) : zS → Prop := fun b => zJ Γ 6 0 0 b 92 [(0, .ref l0), (1, .ref l1), (2, .int l2)] []
def fX7_draw_85 (σ : zS) (l0 : Nat) (l1 : Nat) (l2 : Int32) (l3 : Int32) (s0 : Int32) (s1 : Int32) (s2 : Nat) : Option ((Int32 × zS) ⊕ zS) := oSt σ 21 s2 s1 s0 (fun σ1 => oL (l3 + 1) (fun v2 => some (.inl (v2, σ1))))
set_option maxRecDepth 100000 in
theorem wX7_draw_85 {Γ : zG} (E : zE Γ cX7_draw RX7 6 { frames := 1, cells := 0, slots := 0, locals := 28 }) (σ : zS) (l0 : Nat) (l1 : Nat) (l2 : Int32) (l3 : Int32) (s0 : Int32) (s1 : Int32) (s2 : Nat) {R : ((Int32 × zS) ⊕ zS)} (h : fX7_draw_85 σ l0 l1 l2 l3 s0 s1 s2 = some R) (K : Sum.elim (jX7_draw_12 Γ l0 l1 l2) (eX7_draw_12 Γ l0 l1 l2) R) : zJ Γ 6 0 0 σ 85 [(0, .ref l0), (1, .ref l1), (2, .int l2), (3, .int l3)] [.int s0, .int s1, .ref s2] := by
  unfold fX7_draw_85 at h
  refine zs_iast E dX7_draw_85 h (fun σ1 h => ?_)
  refine zs_iinc (lv2 := fun v2 => [(3, .int v2), (0, .ref l0), (1, .ref l1), (2, .int l2)]) E dX7_draw_86 3 rfl (by decide) (by decide) (fun _ => rfl) h (fun v2 h => ?_)
  refine zj_goto (tgt := 12) E dX7_draw_89 (by decide) ?_
  have e9 := Option.some.inj h
  subst e9
  refine zj_lv [1, 2, 3, 0] rfl ?_
  exact K
def bX7_draw_12 (l0 : Nat) (l1 : Nat) (l2 : Int32) (l3 : Int32) (σ : zS) : Option ((Int32 × zS) ⊕ zS) := oGI σ 4 l1 1 (fun x2 => (if x2 ≤ l3 then some (.inr σ) else oGI σ 4 l1 4 (fun x3 => oGI σ 7 l0 2 (fun x4 => oGI σ 4 l1 3 (fun x5 => oL ((((x3 + l2) * x4) + x5) + l3) (fun v1 => oGR σ 4 l1 0 (fun a1 => oGI σ 4 l1 1 (fun x6 => oLd σ 21 a1 ((l2 * x6) + l3) (fun x7 => oGR σ 7 l0 0 (fun a2 => oGI σ 4 l1 6 (fun x8 => (if x8 = 0 then fX7_draw_85 σ l0 l1 l2 l3 x7 v1 a2 else oGR σ 7 l0 0 (fun a3 => oLd σ 21 a3 v1 (fun x9 => oB (fX7_blended σ x7 x9) (fun x10 => fX7_draw_85 σ l0 l1 l2 l3 x10 v1 a2)))))))))))))))
set_option maxRecDepth 100000 in
theorem wX7_draw_L12 {Γ : zG} (E : zE Γ cX7_draw RX7 6 { frames := 1, cells := 0, slots := 0, locals := 28 }) (l0 : Nat) (l1 : Nat) (l2 : Int32) : ∀ x R, (fun x => bX7_draw_12 l0 l1 l2 x.1 x.2) x = some R → Sum.elim (jX7_draw_12 Γ l0 l1 l2) (eX7_draw_12 Γ l0 l1 l2) R → jX7_draw_12 Γ l0 l1 l2 x := by
  intro x R h K
  obtain ⟨l3, σ⟩ := x
  have h : bX7_draw_12 l0 l1 l2 l3 σ = some R := h
  show zJ Γ 6 0 0 σ 12 [(0, .ref l0), (1, .ref l1), (2, .int l2), (3, .int l3)] []
  unfold bX7_draw_12 at h
  refine zj_iload_n E dX7_draw_12 rfl 3 rfl ?_
  refine zj_aload_n E dX7_draw_13 rfl 1 rfl ?_
  refine zs_getIN E zc3 1 (by decide) (znf_19) rfl dX7_draw_14 h (fun x2 h => ?_)
  refine zj_icmp_ge (tgt := 92) E dX7_draw_17 (by decide) h (fun h => ?_) (fun h => ?_)
  · have e9 := Option.some.inj h
    subst e9
    refine zj_lv [0, 1, 2] rfl ?_
    exact K
  · refine zj_aload_n E dX7_draw_20 rfl 1 rfl ?_
    refine zs_getIN E zc3 4 (by decide) (znf_31) rfl dX7_draw_21 h (fun x3 h => ?_)
    refine zj_iload_n E dX7_draw_24 rfl 2 rfl ?_
    refine zj_iadd E dX7_draw_25 ?_
    refine zj_aload_n E dX7_draw_26 rfl 0 rfl ?_
    refine zs_getI E zc6 2 (by decide) zw_17_11 rfl dX7_draw_27 h (fun x4 h => ?_)
    refine zj_imul E dX7_draw_30 ?_
    refine zj_aload_n E dX7_draw_31 rfl 1 rfl ?_
    refine zs_getIN E zc3 3 (by decide) (znf_28) rfl dX7_draw_32 h (fun x5 h => ?_)
    refine zj_iadd E dX7_draw_35 ?_
    refine zj_iload_n E dX7_draw_36 rfl 3 rfl ?_
    refine zj_iadd E dX7_draw_37 ?_
    refine zs_istore (lv2 := fun v1 => [(4, .int v1), (0, .ref l0), (1, .ref l1), (2, .int l2), (3, .int l3)]) E dX7_draw_38 (by decide) (fun _ => rfl) h (fun v1 h => ?_)
    refine zj_aload_n E dX7_draw_40 rfl 2 rfl ?_
    refine zs_getRN E zc3 0 (by decide) (znf_14) rfl dX7_draw_41 h (fun a1 h => ?_)
    refine zj_iload_n E dX7_draw_44 rfl 3 rfl ?_
    refine zj_aload_n E dX7_draw_45 rfl 2 rfl ?_
    refine zs_getIN E zc3 1 (by decide) (znf_19) rfl dX7_draw_46 h (fun x6 h => ?_)
    refine zj_imul E dX7_draw_49 ?_
    refine zj_iload_n E dX7_draw_50 rfl 4 rfl ?_
    refine zj_iadd E dX7_draw_51 ?_
    refine zs_iald E dX7_draw_52 h (fun x7 h => ?_)
    refine zj_istore (lv2 := [(5, .int x7), (4, .int v1), (0, .ref l0), (1, .ref l1), (2, .int l2), (3, .int l3)]) E dX7_draw_53 (by decide) rfl ?_
    refine zj_aload_n E dX7_draw_55 rfl 2 rfl ?_
    refine zs_getR E zc6 0 (by decide) zw_5_20 rfl dX7_draw_56 h (fun a2 h => ?_)
    refine zj_iload E dX7_draw_59 1 rfl ?_
    refine zj_aload_n E dX7_draw_61 rfl 3 rfl ?_
    refine zs_getIN E zc3 6 (by decide) (znf_37) rfl dX7_draw_62 h (fun x8 h => ?_)
    refine zj_if_ne (tgt := 73) E dX7_draw_65 (by decide) h (fun h => ?_) (fun h => ?_)
    · refine zj_iload E dX7_draw_73 0 rfl ?_
      refine zj_aload_n E dX7_draw_75 rfl 2 rfl ?_
      refine zs_getR E zc6 0 (by decide) zw_5_20 rfl dX7_draw_76 h (fun a3 h => ?_)
      refine zj_iload E dX7_draw_79 1 rfl ?_
      refine zs_iald E dX7_draw_81 h (fun x9 h => ?_)
      obtain ⟨x10, hc, h⟩ := oB_some h
      refine zs_callS (As := [.int x7, .int x9]) (rest := [.int v1, .ref a2]) E zyX7_blended zw_28_0 (kX7_blended _ _ _ _ _ hc) rfl rfl rfl ⟨by decide, by decide⟩ ⟨by decide, by decide⟩ (Nat.le_of_ble_eq_true rfl) dX7_draw_82 rfl (show zJ Γ 6 0 0 σ 85 [(5, .int x7), (4, .int v1), (0, .ref l0), (1, .ref l1), (2, .int l2), (3, .int l3)] [.int x10, .int v1, .ref a2] from ?_)
      refine zj_lv [2, 3, 4, 5] rfl ?_
      exact wX7_draw_85 E _ _ _ _ _ _ _ _ h K
    · refine zj_iload E dX7_draw_68 0 rfl ?_
      refine zj_goto (tgt := 85) E dX7_draw_70 (by decide) ?_
      refine zj_lv [2, 3, 4, 5] rfl ?_
      exact wX7_draw_85 E _ _ _ _ _ _ _ _ h K
def bX7_draw_2 (l0 : Nat) (l1 : Nat) (l2 : Int32) (σ : zS) : Option ((Int32 × zS) ⊕ zS) := oGI σ 4 l1 2 (fun x1 => (if x1 ≤ l2 then some (.inr σ) else oB (zloop zF (fun x => bX7_draw_12 l0 l1 l2 x.1 x.2) (0, σ)) (fun b1 => (fun σ2 => oL (l2 + 1) (fun v3 => some (.inl (v3, σ2)))) b1)))
set_option maxRecDepth 100000 in
theorem wX7_draw_L2 {Γ : zG} (E : zE Γ cX7_draw RX7 6 { frames := 1, cells := 0, slots := 0, locals := 28 }) (l0 : Nat) (l1 : Nat) : ∀ x R, (fun x => bX7_draw_2 l0 l1 x.1 x.2) x = some R → Sum.elim (jX7_draw_2 Γ l0 l1) (eX7_draw_2 Γ l0 l1) R → jX7_draw_2 Γ l0 l1 x := by
  intro x R h K
  obtain ⟨l2, σ⟩ := x
  have h : bX7_draw_2 l0 l1 l2 σ = some R := h
  show zJ Γ 6 0 0 σ 2 [(0, .ref l0), (1, .ref l1), (2, .int l2)] []
  unfold bX7_draw_2 at h
  refine zj_iload_n E dX7_draw_2 rfl 2 rfl ?_
  refine zj_aload_n E dX7_draw_3 rfl 1 rfl ?_
  refine zs_getIN E zc3 2 (by decide) (znf_24) rfl dX7_draw_4 h (fun x1 h => ?_)
  refine zj_icmp_ge (tgt := 98) E dX7_draw_7 (by decide) h (fun h => ?_) (fun h => ?_)
  · have e9 := Option.some.inj h
    subst e9
    refine zj_lv [] rfl ?_
    exact K
  · refine zj_iconst (v := 0) E dX7_draw_10 (by decide) ?_
    refine zj_istore_n (lv2 := [(3, .int 0), (0, .ref l0), (1, .ref l1), (2, .int l2)]) E dX7_draw_11 rfl (by decide) rfl ?_
    obtain ⟨b1, hb1, h⟩ := oB_some h
    refine zj_lv [1, 2, 3, 0] rfl ?_
    refine zj_loop (wX7_draw_L12 E l0 l1 l2) zF (0, σ) b1 hb1 ?_
    obtain ⟨σ2, rfl⟩ : ∃ z, z = b1 := ⟨_, rfl⟩
    try dsimp only at h
    show zJ Γ 6 0 0 σ2 92 [(0, .ref l0), (1, .ref l1), (2, .int l2)] []
    refine zs_iinc (lv2 := fun v3 => [(2, .int v3), (0, .ref l0), (1, .ref l1)]) E dX7_draw_92 2 rfl (by decide) (by decide) (fun _ => rfl) h (fun v3 h => ?_)
    refine zj_goto (tgt := 2) E dX7_draw_95 (by decide) ?_
    have e9 := Option.some.inj h
    subst e9
    refine zj_lv [1, 2, 0] rfl ?_
    exact K
def fX7_draw (σ : zS) (p0 : Nat) (p1 : Nat) : Option zS := oB (zloop zF (fun x => bX7_draw_2 p0 p1 x.1 x.2) (0, σ)) (fun b2 => (fun σ3 => some σ3) b2)
set_option maxRecDepth 100000 in
theorem wX7_draw {Γ : zG} (E : zE Γ cX7_draw RX7 6 { frames := 1, cells := 0, slots := 0, locals := 28 }) (σ : zS) (p0 : Nat) (p1 : Nat) {R : zS} (h : fX7_draw σ p0 p1 = some R) (K : zRet Γ cX7_draw 6 0 0 (none) R) : zJ Γ 6 0 0 σ 0 [(0, .ref p0), (1, .ref p1)] [] := by
  unfold fX7_draw at h
  refine zj_iconst (v := 0) E dX7_draw_0 (by decide) ?_
  refine zj_istore_n (lv2 := [(2, .int 0), (0, .ref p0), (1, .ref p1)]) E dX7_draw_1 rfl (by decide) rfl ?_
  obtain ⟨b2, hb2, h⟩ := oB_some h
  refine zj_lv [1, 2, 0] rfl ?_
  refine zj_loop (wX7_draw_L2 E p0 p1) zF (0, σ) b2 hb2 ?_
  obtain ⟨σ3, rfl⟩ : ∃ z, z = b2 := ⟨_, rfl⟩
  try dsimp only at h
  show zJ Γ 6 0 0 σ3 98 [] []
  have e9 := Option.some.inj h
  subst e9
  exact (show zRet Γ cX7_draw 6 0 0 (none) σ3 from K) _ _ dX7_draw_98
set_option maxRecDepth 100000 in
theorem kX7_draw (l : Launch) (D : va_G) (cs : zCs) (z0 : Nat) (σ : zS) {p0 : Nat} {p1 : Nat}  {σ' : zS} (h : fX7_draw σ p0 p1 = some σ') : zM l D cs z0 yX7_draw cX7_draw 6 none { frames := 1, cells := 0, slots := 0, locals := 28 } [.ref p0, .ref p1] σ none σ' 0 0 := by
  exact zM_of (by decide) rfl rfl (Nat.le_of_ble_eq_true rfl) rfl (fun Γ e1 e2 e3 e4 E hN K => wX7_draw E σ _ _ h K)
/-! X7_dispose -/
def jX7_dispose_37 (Γ : zG) (l0 : Nat) (l1 : Nat) : (Int32 × zS) → Prop := fun x => zJ Γ 5 0 0 x.2 37 [(0, .ref l0), (1, .ref l1), (2, .int x.1)] []
def eX7_dispose_37 (Γ : zG) (l0 : Nat) (l1 : Nat) : zS → Prop := fun b => zJ Γ 5 0 0 b 96 [] []
def jX7_dispose_65 (Γ : zG) (l0 : Nat) (l1 : Nat) (l2 : Int32) (l3 : Int32) : (Int32 × zS) → Prop := fun x => zJ Γ 5 0 0 x.2 65 [(0, .ref l0), (1, .ref l1), (2, .int l2), (3, .int l3), (4, .int x.1)] []
def eX7_dispose_65 (Γ : zG) (l0 : Nat) (l1 : Nat) (l2 : Int32) (l3 : Int32) : zS → Prop := fun b => zJ Γ 5 0 0 b 90 [(0, .ref l0), (1, .ref l1), (2, .int l2)] []
def bX7_dispose_65 (l0 : Nat) (l1 : Nat) (l2 : Int32) (l3 : Int32) (l4 : Int32) (σ : zS) : Option ((Int32 × zS) ⊕ zS) := oGI σ 4 l1 1 (fun x7 => (if x7 ≤ l4 then some (.inr σ) else oGR σ 7 l0 0 (fun a1 => oSt σ 21 a1 (l3 + l4) 0 (fun σ1 => oL (l4 + 1) (fun v2 => some (.inl (v2, σ1)))))))
set_option maxRecDepth 100000 in
theorem wX7_dispose_L65 {Γ : zG} (E : zE Γ cX7_dispose RX7 5 { frames := 1, cells := 0, slots := 0, locals := 40 }) (l0 : Nat) (l1 : Nat) (l2 : Int32) (l3 : Int32) : ∀ x R, (fun x => bX7_dispose_65 l0 l1 l2 l3 x.1 x.2) x = some R → Sum.elim (jX7_dispose_65 Γ l0 l1 l2 l3) (eX7_dispose_65 Γ l0 l1 l2 l3) R → jX7_dispose_65 Γ l0 l1 l2 l3 x := by
  intro x R h K
  obtain ⟨l4, σ⟩ := x
  have h : bX7_dispose_65 l0 l1 l2 l3 l4 σ = some R := h
  show zJ Γ 5 0 0 σ 65 [(0, .ref l0), (1, .ref l1), (2, .int l2), (3, .int l3), (4, .int l4)] []
  unfold bX7_dispose_65 at h
  refine zj_iload E dX7_dispose_65 4 rfl ?_
  refine zj_aload_n E dX7_dispose_67 rfl 1 rfl ?_
  refine zs_getIN E zc3 1 (by decide) (znf_19) rfl dX7_dispose_68 h (fun x7 h => ?_)
  refine zj_icmp_ge (tgt := 90) E dX7_dispose_71 (by decide) h (fun h => ?_) (fun h => ?_)
  · have e9 := Option.some.inj h
    subst e9
    refine zj_lv [0, 1, 2] rfl ?_
    exact K
  · refine zj_aload_n E dX7_dispose_74 rfl 0 rfl ?_
    refine zs_getR E zc6 0 (by decide) zw_5_20 rfl dX7_dispose_75 h (fun a1 h => ?_)
    refine zj_iload_n E dX7_dispose_78 rfl 3 rfl ?_
    refine zj_iload E dX7_dispose_79 4 rfl ?_
    refine zj_iadd E dX7_dispose_81 ?_
    refine zj_iconst (v := 0) E dX7_dispose_82 (by decide) ?_
    refine zs_iast E dX7_dispose_83 h (fun σ1 h => ?_)
    refine zs_iinc (lv2 := fun v2 => [(4, .int v2), (0, .ref l0), (1, .ref l1), (2, .int l2), (3, .int l3)]) E dX7_dispose_84 4 rfl (by decide) (by decide) (fun _ => rfl) h (fun v2 h => ?_)
    refine zj_goto (tgt := 65) E dX7_dispose_87 (by decide) ?_
    have e9 := Option.some.inj h
    subst e9
    refine zj_lv [1, 2, 3, 4, 0] rfl ?_
    exact K
def bX7_dispose_37 (l0 : Nat) (l1 : Nat) (l2 : Int32) (σ : zS) : Option ((Int32 × zS) ⊕ zS) := oGI σ 4 l1 2 (fun x3 => (if x3 ≤ l2 then some (.inr σ) else oGI σ 4 l1 4 (fun x4 => oGI σ 7 l0 2 (fun x5 => oGI σ 4 l1 3 (fun x6 => oL (((x4 + l2) * x5) + x6) (fun v1 => oB (zloop zF (fun x => bX7_dispose_65 l0 l1 l2 v1 x.1 x.2) (0, σ)) (fun b1 => (fun σ2 => oL (l2 + 1) (fun v3 => some (.inl (v3, σ2)))) b1)))))))
set_option maxRecDepth 100000 in
theorem wX7_dispose_L37 {Γ : zG} (E : zE Γ cX7_dispose RX7 5 { frames := 1, cells := 0, slots := 0, locals := 40 }) (l0 : Nat) (l1 : Nat) : ∀ x R, (fun x => bX7_dispose_37 l0 l1 x.1 x.2) x = some R → Sum.elim (jX7_dispose_37 Γ l0 l1) (eX7_dispose_37 Γ l0 l1) R → jX7_dispose_37 Γ l0 l1 x := by
  intro x R h K
  obtain ⟨l2, σ⟩ := x
  have h : bX7_dispose_37 l0 l1 l2 σ = some R := h
  show zJ Γ 5 0 0 σ 37 [(0, .ref l0), (1, .ref l1), (2, .int l2)] []
  unfold bX7_dispose_37 at h
  refine zj_iload_n E dX7_dispose_37 rfl 2 rfl ?_
  refine zj_aload_n E dX7_dispose_38 rfl 1 rfl ?_
  refine zs_getIN E zc3 2 (by decide) (znf_24) rfl dX7_dispose_39 h (fun x3 h => ?_)
  refine zj_icmp_ge (tgt := 96) E dX7_dispose_42 (by decide) h (fun h => ?_) (fun h => ?_)
  · have e9 := Option.some.inj h
    subst e9
    refine zj_lv [] rfl ?_
    exact K
  · refine zj_aload_n E dX7_dispose_45 rfl 1 rfl ?_
    refine zs_getIN E zc3 4 (by decide) (znf_31) rfl dX7_dispose_46 h (fun x4 h => ?_)
    refine zj_iload_n E dX7_dispose_49 rfl 2 rfl ?_
    refine zj_iadd E dX7_dispose_50 ?_
    refine zj_aload_n E dX7_dispose_51 rfl 0 rfl ?_
    refine zs_getI E zc6 2 (by decide) zw_17_11 rfl dX7_dispose_52 h (fun x5 h => ?_)
    refine zj_imul E dX7_dispose_55 ?_
    refine zj_aload_n E dX7_dispose_56 rfl 1 rfl ?_
    refine zs_getIN E zc3 3 (by decide) (znf_28) rfl dX7_dispose_57 h (fun x6 h => ?_)
    refine zj_iadd E dX7_dispose_60 ?_
    refine zs_istore_n (lv2 := fun v1 => [(3, .int v1), (0, .ref l0), (1, .ref l1), (2, .int l2)]) E dX7_dispose_61 rfl (by decide) (fun _ => rfl) h (fun v1 h => ?_)
    refine zj_iconst (v := 0) E dX7_dispose_62 (by decide) ?_
    refine zj_istore (lv2 := [(4, .int 0), (3, .int v1), (0, .ref l0), (1, .ref l1), (2, .int l2)]) E dX7_dispose_63 (by decide) rfl ?_
    obtain ⟨b1, hb1, h⟩ := oB_some h
    refine zj_lv [2, 3, 4, 1, 0] rfl ?_
    refine zj_loop (wX7_dispose_L65 E l0 l1 l2 v1) zF (0, σ) b1 hb1 ?_
    obtain ⟨σ2, rfl⟩ : ∃ z, z = b1 := ⟨_, rfl⟩
    try dsimp only at h
    show zJ Γ 5 0 0 σ2 90 [(0, .ref l0), (1, .ref l1), (2, .int l2)] []
    refine zs_iinc (lv2 := fun v3 => [(2, .int v3), (0, .ref l0), (1, .ref l1)]) E dX7_dispose_90 2 rfl (by decide) (by decide) (fun _ => rfl) h (fun v3 h => ?_)
    refine zj_goto (tgt := 37) E dX7_dispose_93 (by decide) ?_
    have e9 := Option.some.inj h
    subst e9
    refine zj_lv [1, 2, 0] rfl ?_
    exact K
def fX7_dispose (σ : zS) (p0 : Nat) (p1 : Nat) : Option zS := oGI σ 4 p1 5 (fun x1 => (if x1 = (2 : Int32) then oGR σ 7 p0 1 (fun a2 => oGR σ 7 p0 0 (fun a3 => oCp σ a2 0 a3 0 256 (fun σ4 => some σ4))) else oGI σ 4 p1 5 (fun x2 => (if x2 = (1 : Int32) then oB (zloop zF (fun x => bX7_dispose_37 p0 p1 x.1 x.2) (0, σ)) (fun b2 => (fun σ3 => some σ3) b2) else some σ))))
set_option maxRecDepth 100000 in
theorem wX7_dispose {Γ : zG} (E : zE Γ cX7_dispose RX7 5 { frames := 1, cells := 0, slots := 0, locals := 40 }) (σ : zS) (p0 : Nat) (p1 : Nat) {R : zS} (h : fX7_dispose σ p0 p1 = some R) (K : zRet Γ cX7_dispose 5 0 0 (none) R) : zJ Γ 5 0 0 σ 0 [(0, .ref p0), (1, .ref p1)] [] := by
  unfold fX7_dispose at h
  refine zj_aload_n E dX7_dispose_0 rfl 1 rfl ?_
  refine zs_getIN E zc3 5 (by decide) (znf_34) rfl dX7_dispose_1 h (fun x1 h => ?_)
  refine zj_iconst (v := 2) E dX7_dispose_4 (by decide) ?_
  refine zj_icmp_ne (tgt := 27) E dX7_dispose_5 (by decide) h (fun h => ?_) (fun h => ?_)
  · refine zj_aload_n E dX7_dispose_27 rfl 1 rfl ?_
    refine zs_getIN E zc3 5 (by decide) (znf_34) rfl dX7_dispose_28 h (fun x2 h => ?_)
    refine zj_iconst (v := 1) E dX7_dispose_31 (by decide) ?_
    refine zj_icmp_ne (tgt := 96) E dX7_dispose_32 (by decide) h (fun h => ?_) (fun h => ?_)
    · have e9 := Option.some.inj h
      subst e9
      exact (show zRet Γ cX7_dispose 5 0 0 (none) σ from K) _ _ dX7_dispose_96
    · refine zj_iconst (v := 0) E dX7_dispose_35 (by decide) ?_
      refine zj_istore_n (lv2 := [(2, .int 0), (0, .ref p0), (1, .ref p1)]) E dX7_dispose_36 rfl (by decide) rfl ?_
      obtain ⟨b2, hb2, h⟩ := oB_some h
      refine zj_lv [1, 2, 0] rfl ?_
      refine zj_loop (wX7_dispose_L37 E p0 p1) zF (0, σ) b2 hb2 ?_
      obtain ⟨σ3, rfl⟩ : ∃ z, z = b2 := ⟨_, rfl⟩
      try dsimp only at h
      show zJ Γ 5 0 0 σ3 96 [] []
      have e9 := Option.some.inj h
      subst e9
      exact (show zRet Γ cX7_dispose 5 0 0 (none) σ3 from K) _ _ dX7_dispose_96
  · refine zj_aload_n E dX7_dispose_8 rfl 0 rfl ?_
    refine zs_getR E zc6 1 (by decide) zw_5_21 rfl dX7_dispose_9 h (fun a2 h => ?_)
    refine zj_iconst (v := 0) E dX7_dispose_12 (by decide) ?_
    refine zj_aload_n E dX7_dispose_13 rfl 0 rfl ?_
    refine zs_getR E zc6 0 (by decide) zw_5_20 rfl dX7_dispose_14 h (fun a3 h => ?_)
    refine zj_iconst (v := 0) E dX7_dispose_17 (by decide) ?_
    refine zj_sipush (v := 256) E dX7_dispose_18 (by decide) ?_
    refine zs_copy E zw_27_15 zw_27_16 zw_27_17 zw_27_18 (by decide) (Nat.le_of_ble_eq_true rfl) dX7_dispose_21 h (fun σ4 h => ?_)
    refine zj_goto (tgt := 96) E dX7_dispose_24 (by decide) ?_
    have e9 := Option.some.inj h
    subst e9
    exact (show zRet Γ cX7_dispose 5 0 0 (none) σ4 from K) _ _ dX7_dispose_96
set_option maxRecDepth 100000 in
theorem kX7_dispose (l : Launch) (D : va_G) (cs : zCs) (z0 : Nat) (σ : zS) {p0 : Nat} {p1 : Nat}  {σ' : zS} (h : fX7_dispose σ p0 p1 = some σ') : zM l D cs z0 yX7_dispose cX7_dispose 5 none { frames := 1, cells := 0, slots := 0, locals := 40 } [.ref p0, .ref p1] σ none σ' 0 0 := by
  exact zM_of (by decide) rfl rfl (Nat.le_of_ble_eq_true rfl) rfl (fun Γ e1 e2 e3 e4 E hN K => wX7_dispose E σ _ _ h K)
/-! X7_compose -/
def jX7_compose_26 (Γ : zG) (l0 : Nat) (l1 : Nat) (l2 : Int32) : (Int32 × zS) → Prop := fun x => zJ Γ 5 0 0 x.2 26 [(0, .ref l0), (1, .ref l1), (2, .int l2), (3, .int x.1)] []
def eX7_compose_26 (Γ : zG) (l0 : Nat) (l1 : Nat) (l2 : Int32) : zS → Prop := fun b => zJ Γ 5 0 0 b 79 [(0, .ref l0), (1, .ref l1), (2, .int l2)] []
def bX7_compose_26 (l0 : Nat) (l1 : Nat) (l2 : Int32) (l3 : Int32) (σ : zS) : Option ((Int32 × zS) ⊕ zS) := (if l2 ≤ l3 then some (.inr σ) else (if (8 : Int32) ≤ l3 then some (.inr σ) else oGR σ 6 l1 0 (fun a2 => oLr σ a2 l3 (fun a3 => oGR σ 7 l0 0 (fun a4 => oGR σ 7 l0 1 (fun a5 => oCp σ a4 0 a5 0 256 (fun σ4 => oA (zk σ4 l0 = 7) (oB (fX7_draw σ4 l0 a3) (fun σ5 => oA (zk σ5 l0 = 7) (oB (fX7_dispose σ5 l0 a3) (fun σ6 => oL (l3 + 1) (fun v1 => some (.inl (v1, σ6))))))))))))))
set_option maxRecDepth 100000 in
theorem wX7_compose_L26 {Γ : zG} (E : zE Γ cX7_compose RX7 5 { frames := 2, cells := 0, slots := 0, locals := 64 }) (l0 : Nat) (l1 : Nat) (l2 : Int32) : ∀ x R, (fun x => bX7_compose_26 l0 l1 l2 x.1 x.2) x = some R → Sum.elim (jX7_compose_26 Γ l0 l1 l2) (eX7_compose_26 Γ l0 l1 l2) R → jX7_compose_26 Γ l0 l1 l2 x := by
  intro x R h K
  obtain ⟨l3, σ⟩ := x
  have h : bX7_compose_26 l0 l1 l2 l3 σ = some R := h
  show zJ Γ 5 0 0 σ 26 [(0, .ref l0), (1, .ref l1), (2, .int l2), (3, .int l3)] []
  unfold bX7_compose_26 at h
  refine zj_iload_n E dX7_compose_26 rfl 3 rfl ?_
  refine zj_iload_n E dX7_compose_27 rfl 2 rfl ?_
  refine zj_icmp_ge (tgt := 79) E dX7_compose_28 (by decide) h (fun h => ?_) (fun h => ?_)
  · have e9 := Option.some.inj h
    subst e9
    refine zj_lv [0, 1, 2] rfl ?_
    exact K
  · refine zj_iload_n E dX7_compose_31 rfl 3 rfl ?_
    refine zj_bipush (v := 8) E dX7_compose_32 (by decide) ?_
    refine zj_icmp_ge (tgt := 79) E dX7_compose_34 (by decide) h (fun h => ?_) (fun h => ?_)
    · have e9 := Option.some.inj h
      subst e9
      refine zj_lv [0, 1, 2] rfl ?_
      exact K
    · refine zj_aload_n E dX7_compose_37 rfl 1 rfl ?_
      refine zs_getRN E zc5 0 (by decide) (znf_40) rfl dX7_compose_38 h (fun a2 h => ?_)
      refine zj_iload_n E dX7_compose_41 rfl 3 rfl ?_
      refine zs_aald E dX7_compose_42 h (fun a3 h => ?_)
      refine zj_astore (lv2 := [(4, .ref a3), (0, .ref l0), (1, .ref l1), (2, .int l2), (3, .int l3)]) E dX7_compose_43 (by decide) rfl ?_
      refine zj_aload_n E dX7_compose_45 rfl 1 rfl ?_
      refine zs_getR E zc6 0 (by decide) zw_5_20 rfl dX7_compose_46 h (fun a4 h => ?_)
      refine zj_iconst (v := 0) E dX7_compose_49 (by decide) ?_
      refine zj_aload_n E dX7_compose_50 rfl 1 rfl ?_
      refine zs_getR E zc6 1 (by decide) zw_5_21 rfl dX7_compose_51 h (fun a5 h => ?_)
      refine zj_iconst (v := 0) E dX7_compose_54 (by decide) ?_
      refine zj_sipush (v := 256) E dX7_compose_55 (by decide) ?_
      refine zs_copy E zw_27_15 zw_27_16 zw_27_17 zw_27_18 (by decide) (Nat.le_of_ble_eq_true rfl) dX7_compose_58 h (fun σ4 h => ?_)
      refine zj_aload_n E dX7_compose_61 rfl 1 rfl ?_
      refine zj_aload E dX7_compose_62 0 rfl ?_
      obtain ⟨hk, h⟩ := oA_some h
      obtain ⟨σ5, hc, h⟩ := oB_some h
      refine zs_callV (As := [.ref a3]) (rest := []) E zc6 zyX7_draw zw_27_20 (kX7_draw _ _ _ _ _ hc) rfl rfl hk rfl ⟨by decide, by decide⟩ ⟨by decide, by decide⟩ (Nat.le_of_ble_eq_true rfl) dX7_compose_64 rfl (show zJ Γ 5 0 0 σ5 67 [(4, .ref a3), (0, .ref l0), (1, .ref l1), (2, .int l2), (3, .int l3)] [] from ?_)
      refine zj_aload_n E dX7_compose_67 rfl 1 rfl ?_
      refine zj_aload E dX7_compose_68 0 rfl ?_
      obtain ⟨hk, h⟩ := oA_some h
      obtain ⟨σ6, hc, h⟩ := oB_some h
      refine zs_callV (As := [.ref a3]) (rest := []) E zc6 zyX7_dispose zw_28_3 (kX7_dispose _ _ _ _ _ hc) rfl rfl hk rfl ⟨by decide, by decide⟩ ⟨by decide, by decide⟩ (Nat.le_of_ble_eq_true rfl) dX7_compose_70 rfl (show zJ Γ 5 0 0 σ6 73 [(4, .ref a3), (0, .ref l0), (1, .ref l1), (2, .int l2), (3, .int l3)] [] from ?_)
      refine zs_iinc (lv2 := fun v1 => [(3, .int v1), (4, .ref a3), (0, .ref l0), (1, .ref l1), (2, .int l2)]) E dX7_compose_73 4 rfl (by decide) (by decide) (fun _ => rfl) h (fun v1 h => ?_)
      refine zj_goto (tgt := 26) E dX7_compose_76 (by decide) ?_
      have e9 := Option.some.inj h
      subst e9
      refine zj_lv [2, 3, 4, 0] rfl ?_
      exact K
def fX7_compose (σ : zS) (p0 : Nat) (p1 : Nat) (p2 : Int32) : Option zS := oGI σ 6 p1 4 (fun x1 => oPI σ 7 p0 2 x1 (fun σ1 => oGI σ1 6 p1 5 (fun x2 => oPI σ1 7 p0 3 x2 (fun σ2 => oGR σ2 7 p0 0 (fun a1 => oB (fJ7_fill_53178 σ2 a1 0) (fun σ3 => oB (zloop zF (fun x => bX7_compose_26 p0 p1 p2 x.1 x.2) (0, σ3)) (fun b1 => (fun σ7 => oGR σ7 6 p1 0 (fun a6 => oLr σ7 a6 p2 (fun a7 => oA (zk σ7 p0 = 7) (oB (fX7_draw σ7 p0 a7) (fun σ8 => some σ8))))) b1)))))))
set_option maxRecDepth 100000 in
theorem wX7_compose {Γ : zG} (E : zE Γ cX7_compose RX7 5 { frames := 2, cells := 0, slots := 0, locals := 64 }) (σ : zS) (p0 : Nat) (p1 : Nat) (p2 : Int32) {R : zS} (h : fX7_compose σ p0 p1 p2 = some R) (K : zRet Γ cX7_compose 5 0 0 (none) R) : zJ Γ 5 0 0 σ 0 [(0, .ref p0), (1, .ref p1), (2, .int p2)] [] := by
  unfold fX7_compose at h
  refine zj_aload_n E dX7_compose_0 rfl 0 rfl ?_
  refine zj_aload_n E dX7_compose_1 rfl 1 rfl ?_
  refine zs_getIN E zc5 4 (by decide) (znf_49) rfl dX7_compose_2 h (fun x1 h => ?_)
  refine zs_putI E zc6 2 (by decide) zw_17_11 rfl rfl dX7_compose_5 h (fun σ1 h => ?_)
  refine zj_aload_n E dX7_compose_8 rfl 0 rfl ?_
  refine zj_aload_n E dX7_compose_9 rfl 1 rfl ?_
  refine zs_getIN E zc5 5 (by decide) (znf_51) rfl dX7_compose_10 h (fun x2 h => ?_)
  refine zs_putI E zc6 3 (by decide) zw_17_12 rfl rfl dX7_compose_13 h (fun σ2 h => ?_)
  refine zj_aload_n E dX7_compose_16 rfl 0 rfl ?_
  refine zs_getR E zc6 0 (by decide) zw_5_20 rfl dX7_compose_17 h (fun a1 h => ?_)
  refine zj_iconst (v := 0) E dX7_compose_20 (by decide) ?_
  obtain ⟨σ3, hc, h⟩ := oB_some h
  refine zs_callS (As := [.ref a1, .int 0]) (rest := []) E zyJ7_fill_53178 zw_27_19 (kJ7_fill_53178 _ _ _ _ _ hc) rfl rfl rfl ⟨by decide, by decide⟩ ⟨by decide, by decide⟩ (Nat.le_of_ble_eq_true rfl) dX7_compose_21 rfl (show zJ Γ 5 0 0 σ3 24 [(0, .ref p0), (1, .ref p1), (2, .int p2)] [] from ?_)
  refine zj_iconst (v := 0) E dX7_compose_24 (by decide) ?_
  refine zj_istore_n (lv2 := [(3, .int 0), (0, .ref p0), (1, .ref p1), (2, .int p2)]) E dX7_compose_25 rfl (by decide) rfl ?_
  obtain ⟨b1, hb1, h⟩ := oB_some h
  refine zj_lv [1, 2, 3, 0] rfl ?_
  refine zj_loop (wX7_compose_L26 E p0 p1 p2) zF (0, σ3) b1 hb1 ?_
  obtain ⟨σ7, rfl⟩ : ∃ z, z = b1 := ⟨_, rfl⟩
  try dsimp only at h
  show zJ Γ 5 0 0 σ7 79 [(0, .ref p0), (1, .ref p1), (2, .int p2)] []
  refine zj_aload_n E dX7_compose_79 rfl 0 rfl ?_
  refine zj_aload_n E dX7_compose_80 rfl 1 rfl ?_
  refine zs_getRN E zc5 0 (by decide) (znf_40) rfl dX7_compose_81 h (fun a6 h => ?_)
  refine zj_iload_n E dX7_compose_84 rfl 2 rfl ?_
  refine zs_aald E dX7_compose_85 h (fun a7 h => ?_)
  obtain ⟨hk, h⟩ := oA_some h
  obtain ⟨σ8, hc, h⟩ := oB_some h
  refine zs_callV (As := [.ref a7]) (rest := []) E zc6 zyX7_draw zw_27_20 (kX7_draw _ _ _ _ _ hc) rfl rfl hk rfl ⟨by decide, by decide⟩ ⟨by decide, by decide⟩ (Nat.le_of_ble_eq_true rfl) dX7_compose_86 rfl (show zJ Γ 5 0 0 σ8 89 [(0, .ref p0), (1, .ref p1), (2, .int p2)] [] from ?_)
  have e9 := Option.some.inj h
  subst e9
  exact (show zRet Γ cX7_compose 5 0 0 (none) σ8 from K) _ _ dX7_compose_89
set_option maxRecDepth 100000 in
theorem kX7_compose (l : Launch) (D : va_G) (cs : zCs) (z0 : Nat) (σ : zS) {p0 : Nat} {p1 : Nat} {p2 : Int32}  {σ' : zS} (h : fX7_compose σ p0 p1 p2 = some σ') : zM l D cs z0 yX7_compose cX7_compose 5 none { frames := 2, cells := 0, slots := 0, locals := 64 } [.ref p0, .ref p1, .int p2] σ none σ' 0 0 := by
  exact zM_of (by decide) rfl rfl (Nat.le_of_ble_eq_true rfl) rfl (fun Γ e1 e2 e3 e4 E hN K => wX7_compose E σ _ _ _ h K)
/-! X8_init -/
def jX8_init_15 (Γ : zG) (l0 : Nat) : (Int32 × zS) → Prop := fun x => zJ Γ 4 1 256 x.2 15 [(0, .ref l0), (1, .int x.1)] []
def eX8_init_15 (Γ : zG) (l0 : Nat) : zS → Prop := fun b => zJ Γ 4 1 256 b 70 [] []
def jX8_init_26 (Γ : zG) (σ : zS) (l0 : Nat) (l1 : Int32) : (Int32 × Int32) → Prop := fun x => zJ Γ 4 1 256 σ 26 [(0, .ref l0), (1, .int l1), (2, .int x.1), (3, .int x.2)] []
def eX8_init_26 (Γ : zG) (σ : zS) (l0 : Nat) (l1 : Int32) : Int32 → Prop := fun b => zJ Γ 4 1 256 σ 57 [(0, .ref l0), (1, .int l1), (2, .int b)] []
def fX8_init_50 (σ : zS) (l0 : Nat) (l1 : Int32) (l3 : Int32) (s0 : Int32) : Option ((Int32 × Int32) ⊕ Int32) := oL (l3 + 1) (fun v1 => some (.inl (s0, v1)))
set_option maxRecDepth 100000 in
theorem wX8_init_50 {Γ : zG} (E : zE Γ cX8_init RX8 4 { frames := 1, cells := 1, slots := 256, locals := 20 }) (σ : zS) (l0 : Nat) (l1 : Int32) (l3 : Int32) (s0 : Int32) {R : ((Int32 × Int32) ⊕ Int32)} (h : fX8_init_50 σ l0 l1 l3 s0 = some R) (K : Sum.elim (jX8_init_26 Γ σ l0 l1) (eX8_init_26 Γ σ l0 l1) R) : zJ Γ 4 1 256 σ 50 [(0, .ref l0), (1, .int l1), (3, .int l3)] [.int s0] := by
  unfold fX8_init_50 at h
  refine zj_istore_n (lv2 := [(2, .int s0), (0, .ref l0), (1, .int l1), (3, .int l3)]) E dX8_init_50 rfl (by decide) rfl ?_
  refine zs_iinc (lv2 := fun v1 => [(3, .int v1), (2, .int s0), (0, .ref l0), (1, .int l1)]) E dX8_init_51 3 rfl (by decide) (by decide) (fun _ => rfl) h (fun v1 h => ?_)
  refine zj_goto (tgt := 26) E dX8_init_54 (by decide) ?_
  have e9 := Option.some.inj h
  subst e9
  refine zj_lv [2, 3, 1, 0] rfl ?_
  exact K
def bX8_init_26 (σ : zS) (l0 : Nat) (l1 : Int32) (l2 : Int32) (l3 : Int32) : Option ((Int32 × Int32) ⊕ Int32) := (if (8 : Int32) ≤ l3 then some (.inr l2) else (if (l2 &&& (1 : Int32)) = 0 then fX8_init_50 σ l0 l1 l3 ((l2.toUInt32 >>> ((1 : Int32).toUInt32 &&& Int32.toUInt32 31)).toInt32) else fX8_init_50 σ l0 l1 l3 (((l2.toUInt32 >>> ((1 : Int32).toUInt32 &&& Int32.toUInt32 31)).toInt32) ^^^ (-306674912 : Int32))))
set_option maxRecDepth 100000 in
theorem wX8_init_L26 {Γ : zG} (E : zE Γ cX8_init RX8 4 { frames := 1, cells := 1, slots := 256, locals := 20 }) (σ : zS) (l0 : Nat) (l1 : Int32) : ∀ x R, (fun x => bX8_init_26 σ l0 l1 x.1 x.2) x = some R → Sum.elim (jX8_init_26 Γ σ l0 l1) (eX8_init_26 Γ σ l0 l1) R → jX8_init_26 Γ σ l0 l1 x := by
  intro x R h K
  obtain ⟨l2, l3⟩ := x
  have h : bX8_init_26 σ l0 l1 l2 l3 = some R := h
  show zJ Γ 4 1 256 σ 26 [(0, .ref l0), (1, .int l1), (2, .int l2), (3, .int l3)] []
  unfold bX8_init_26 at h
  refine zj_iload_n E dX8_init_26 rfl 3 rfl ?_
  refine zj_bipush (v := 8) E dX8_init_27 (by decide) ?_
  refine zj_icmp_ge (tgt := 57) E dX8_init_29 (by decide) h (fun h => ?_) (fun h => ?_)
  · have e9 := Option.some.inj h
    subst e9
    refine zj_lv [0, 1, 2] rfl ?_
    exact K
  · refine zj_iload_n E dX8_init_32 rfl 2 rfl ?_
    refine zj_iconst (v := 1) E dX8_init_33 (by decide) ?_
    refine zj_iand E dX8_init_34 ?_
    refine zj_if_ne (tgt := 44) E dX8_init_35 (by decide) h (fun h => ?_) (fun h => ?_)
    · refine zj_iload_n E dX8_init_44 rfl 2 rfl ?_
      refine zj_iconst (v := 1) E dX8_init_45 (by decide) ?_
      refine zj_iushr E dX8_init_46 ?_
      refine zj_ldc (v := (-306674912 : Int32)) E zw_2_19 dX8_init_47 ?_
      refine zj_ixor E dX8_init_49 ?_
      refine zj_lv [0, 1, 3] rfl ?_
      exact wX8_init_50 E _ _ _ _ _ h K
    · refine zj_iload_n E dX8_init_38 rfl 2 rfl ?_
      refine zj_iconst (v := 1) E dX8_init_39 (by decide) ?_
      refine zj_iushr E dX8_init_40 ?_
      refine zj_goto (tgt := 50) E dX8_init_41 (by decide) ?_
      refine zj_lv [0, 1, 3] rfl ?_
      exact wX8_init_50 E _ _ _ _ _ h K
def bX8_init_15 (l0 : Nat) (l1 : Int32) (σ : zS) : Option ((Int32 × zS) ⊕ zS) := (if (256 : Int32) ≤ l1 then some (.inr σ) else oB (zloop zF (fun x => bX8_init_26 σ l0 l1 x.1 x.2) (l1, 0)) (fun b1 => (fun v2 => oGR σ 8 l0 0 (fun a2 => oSt σ 21 a2 l1 v2 (fun σ3 => oL (l1 + 1) (fun v3 => some (.inl (v3, σ3)))))) b1))
set_option maxRecDepth 100000 in
theorem wX8_init_L15 {Γ : zG} (E : zE Γ cX8_init RX8 4 { frames := 1, cells := 1, slots := 256, locals := 20 }) (l0 : Nat) : ∀ x R, (fun x => bX8_init_15 l0 x.1 x.2) x = some R → Sum.elim (jX8_init_15 Γ l0) (eX8_init_15 Γ l0) R → jX8_init_15 Γ l0 x := by
  intro x R h K
  obtain ⟨l1, σ⟩ := x
  have h : bX8_init_15 l0 l1 σ = some R := h
  show zJ Γ 4 1 256 σ 15 [(0, .ref l0), (1, .int l1)] []
  unfold bX8_init_15 at h
  refine zj_iload_n E dX8_init_15 rfl 1 rfl ?_
  refine zj_sipush (v := 256) E dX8_init_16 (by decide) ?_
  refine zj_icmp_ge (tgt := 70) E dX8_init_19 (by decide) h (fun h => ?_) (fun h => ?_)
  · have e9 := Option.some.inj h
    subst e9
    refine zj_lv [] rfl ?_
    exact K
  · refine zj_iload_n E dX8_init_22 rfl 1 rfl ?_
    refine zj_istore_n (lv2 := [(2, .int l1), (0, .ref l0), (1, .int l1)]) E dX8_init_23 rfl (by decide) rfl ?_
    refine zj_iconst (v := 0) E dX8_init_24 (by decide) ?_
    refine zj_istore_n (lv2 := [(3, .int 0), (2, .int l1), (0, .ref l0), (1, .int l1)]) E dX8_init_25 rfl (by decide) rfl ?_
    obtain ⟨b1, hb1, h⟩ := oB_some h
    refine zj_lv [2, 3, 1, 0] rfl ?_
    refine zj_loop (wX8_init_L26 E σ l0 l1) zF (l1, 0) b1 hb1 ?_
    obtain ⟨v2, rfl⟩ : ∃ z, z = b1 := ⟨_, rfl⟩
    try dsimp only at h
    show zJ Γ 4 1 256 σ 57 [(0, .ref l0), (1, .int l1), (2, .int v2)] []
    refine zj_aload_n E dX8_init_57 rfl 0 rfl ?_
    refine zs_getR E zc7 0 (by decide) zw_2_18 rfl dX8_init_58 h (fun a2 h => ?_)
    refine zj_iload_n E dX8_init_61 rfl 1 rfl ?_
    refine zj_iload_n E dX8_init_62 rfl 2 rfl ?_
    refine zs_iast E dX8_init_63 h (fun σ3 h => ?_)
    refine zs_iinc (lv2 := fun v3 => [(1, .int v3), (0, .ref l0), (2, .int v2)]) E dX8_init_64 1 rfl (by decide) (by decide) (fun _ => rfl) h (fun v3 h => ?_)
    refine zj_goto (tgt := 15) E dX8_init_67 (by decide) ?_
    have e9 := Option.some.inj h
    subst e9
    refine zj_lv [1, 0] rfl ?_
    exact K
def fX8_init (σ : zS) (p0 : Nat) : Option zS := oNa σ 21 256 (fun a1 σ1 => oPR σ1 8 p0 0 a1 (fun σ2 => oB (zloop zF (fun x => bX8_init_15 p0 x.1 x.2) (0, σ2)) (fun b2 => (fun σ4 => some σ4) b2)))
set_option maxRecDepth 100000 in
theorem wX8_init {Γ : zG} (E : zE Γ cX8_init RX8 4 { frames := 1, cells := 1, slots := 256, locals := 20 }) (hN : (zgt Γ).name = "<init>") (σ : zS) (p0 : Nat) {R : zS} (h : fX8_init σ p0 = some R) (K : zRet Γ cX8_init 4 1 256 (none) R) : zJ Γ 4 0 0 σ 0 [(0, .ref p0)] [] := by
  unfold fX8_init at h
  refine zj_aload_n E dX8_init_0 rfl 0 rfl ?_
  refine zs_obj E zw_2_16 zw_1_11 zw_1_12 (by decide) (Nat.le_of_ble_eq_true rfl) dX8_init_1 ?_
  refine zj_aload_n E dX8_init_4 rfl 0 rfl ?_
  refine zj_sipush (v := 256) E dX8_init_5 (by decide) ?_
  refine zt_newI (N := 256) E zw_2_17 (by decide) ⟨by decide, by decide⟩ dX8_init_8 h (fun a1 σ1 h => ?_)
  show zJ Γ 4 1 256 σ1 10 [(0, .ref p0)] [.ref a1, .ref p0]
  refine zs_putFR E zc7 hN 0 (by decide) zw_2_18 rfl rfl rfl dX8_init_10 h (fun σ2 h => ?_)
  refine zj_iconst (v := 0) E dX8_init_13 (by decide) ?_
  refine zj_istore_n (lv2 := [(1, .int 0), (0, .ref p0)]) E dX8_init_14 rfl (by decide) rfl ?_
  obtain ⟨b2, hb2, h⟩ := oB_some h
  refine zj_lv [1, 0] rfl ?_
  refine zj_loop (wX8_init_L15 E p0) zF (0, σ2) b2 hb2 ?_
  obtain ⟨σ4, rfl⟩ : ∃ z, z = b2 := ⟨_, rfl⟩
  try dsimp only at h
  show zJ Γ 4 1 256 σ4 70 [] []
  have e9 := Option.some.inj h
  subst e9
  exact (show zRet Γ cX8_init 4 1 256 (none) σ4 from K) _ _ dX8_init_70
set_option maxRecDepth 100000 in
theorem kX8_init (l : Launch) (D : va_G) (cs : zCs) (z0 : Nat) (σ : zS) {p0 : Nat}  {σ' : zS} (h : fX8_init σ p0 = some σ') : zM l D cs z0 yX8_init cX8_init 4 none { frames := 1, cells := 1, slots := 256, locals := 20 } [.ref p0] σ none σ' 1 256 := by
  exact zM_of (by decide) rfl rfl (Nat.le_of_ble_eq_true rfl) rfl (fun Γ e1 e2 e3 e4 E hN K => wX8_init E hN σ _ h K)
