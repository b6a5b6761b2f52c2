/-! X2_isNoneOrOneBit -/
def fX2_isNoneOrOneBit_25 (σ : zS) : Option Int32 := some 1
set_option maxRecDepth 100000 in
theorem wX2_isNoneOrOneBit_25 {Γ : zG} (E : zE Γ cX2_isNoneOrOneBit RX2 1 { frames := 0, cells := 0, slots := 0, locals := 0 }) (σ : zS) {R : Int32} (h : fX2_isNoneOrOneBit_25 σ = some R) (K : zRet Γ cX2_isNoneOrOneBit 1 0 0 (some (.int R)) σ) : zJ Γ 1 0 0 σ 25 [] [] := by
  unfold fX2_isNoneOrOneBit_25 at h
  refine zj_iconst (v := 1) E dX2_isNoneOrOneBit_25 (by decide) ?_
  refine zj_goto (tgt := 30) E dX2_isNoneOrOneBit_26 (by decide) ?_
  have e9 := Option.some.inj h
  subst e9
  exact (show zRet Γ cX2_isNoneOrOneBit 1 0 0 (some (.int 1)) σ from K) _ _ dX2_isNoneOrOneBit_30
def gX2_isNoneOrOneBit (σ : zS) (p0 : Nat) : Option Int32 := oGI σ 3 p0 3 (fun x1 => (if x1 = 0 then fX2_isNoneOrOneBit_25 σ else oGI σ 3 p0 3 (fun x2 => (if x2 = (1 : Int32) then oGR σ 3 p0 0 (fun a1 => oLd σ 21 a1 1 (fun x3 => (if x3 = (1 : Int32) then fX2_isNoneOrOneBit_25 σ else some 0))) else some 0))))
def fX2_isNoneOrOneBit (σ : zS) (p0 : Nat) : Option Int32 := oB (gX2_isNoneOrOneBit σ p0) (fun r => oA (r = 0 ∨ r = 1) (some r))
set_option maxRecDepth 100000 in
theorem wX2_isNoneOrOneBit {Γ : zG} (E : zE Γ cX2_isNoneOrOneBit RX2 1 { frames := 0, cells := 0, slots := 0, locals := 0 }) (σ : zS) (p0 : Nat) {R : Int32} (h : gX2_isNoneOrOneBit σ p0 = some R) (K : zRet Γ cX2_isNoneOrOneBit 1 0 0 (some (.int R)) σ) : zJ Γ 1 0 0 σ 0 [(0, .ref p0)] [] := by
  unfold gX2_isNoneOrOneBit at h
  refine zj_aload_n E dX2_isNoneOrOneBit_0 rfl 0 rfl ?_
  refine zs_getI E zc2 3 (by decide) zw_11_13 rfl dX2_isNoneOrOneBit_1 h (fun x1 h => ?_)
  refine zj_if_eq (tgt := 25) E dX2_isNoneOrOneBit_4 (by decide) h (fun h => ?_) (fun h => ?_)
  · refine zj_lv [] rfl ?_
    exact wX2_isNoneOrOneBit_25 E _ h K
  · refine zj_aload_n E dX2_isNoneOrOneBit_7 rfl 0 rfl ?_
    refine zs_getI E zc2 3 (by decide) zw_11_13 rfl dX2_isNoneOrOneBit_8 h (fun x2 h => ?_)
    refine zj_iconst (v := 1) E dX2_isNoneOrOneBit_11 (by decide) ?_
    refine zj_icmp_ne (tgt := 29) E dX2_isNoneOrOneBit_12 (by decide) h (fun h => ?_) (fun h => ?_)
    · refine zj_iconst (v := 0) E dX2_isNoneOrOneBit_29 (by decide) ?_
      have e9 := Option.some.inj h
      subst e9
      exact (show zRet Γ cX2_isNoneOrOneBit 1 0 0 (some (.int 0)) σ from K) _ _ dX2_isNoneOrOneBit_30
    · refine zj_aload_n E dX2_isNoneOrOneBit_15 rfl 0 rfl ?_
      refine zs_getR E zc2 0 (by decide) zw_4_17 rfl dX2_isNoneOrOneBit_16 h (fun a1 h => ?_)
      refine zj_iconst (v := 1) E dX2_isNoneOrOneBit_19 (by decide) ?_
      refine zs_iald E dX2_isNoneOrOneBit_20 h (fun x3 h => ?_)
      refine zj_iconst (v := 1) E dX2_isNoneOrOneBit_21 (by decide) ?_
      refine zj_icmp_ne (tgt := 29) E dX2_isNoneOrOneBit_22 (by decide) h (fun h => ?_) (fun h => ?_)
      · refine zj_iconst (v := 0) E dX2_isNoneOrOneBit_29 (by decide) ?_
        have e9 := Option.some.inj h
        subst e9
        exact (show zRet Γ cX2_isNoneOrOneBit 1 0 0 (some (.int 0)) σ from K) _ _ dX2_isNoneOrOneBit_30
      · refine zj_lv [] rfl ?_
        exact wX2_isNoneOrOneBit_25 E _ h K
set_option maxRecDepth 100000 in
theorem kX2_isNoneOrOneBit (l : Launch) (D : va_G) (cs : zCs) (z0 : Nat) (σ : zS) {p0 : Nat} {r : Int32} (h : fX2_isNoneOrOneBit σ p0 = some r) : zM l D cs z0 yX2_isNoneOrOneBit cX2_isNoneOrOneBit 1 (some .boolean) { frames := 0, cells := 0, slots := 0, locals := 0 } [.ref p0] σ (some (.int r)) σ 0 0 := by
  obtain ⟨r0, h0, h⟩ := oB_some h
  obtain ⟨hz, h⟩ := oA_some h
  cases h
  exact zM_of (by decide) rfl (Or.inr ⟨rfl, hz⟩) (Nat.le_of_ble_eq_true rfl) rfl (fun Γ e1 e2 e3 e4 E _ K => wX2_isNoneOrOneBit E σ _ h0 K)
/-! X3_clear -/
def fX3_clear (σ : zS) (p0 : Nat) : Option zS := oGR σ 4 p0 0 (fun a1 => oB (fJ7_fill_53178 σ a1 0) (fun σ1 => some σ1))
set_option maxRecDepth 100000 in
theorem wX3_clear {Γ : zG} (E : zE Γ cX3_clear RX3 1 { frames := 1, cells := 0, slots := 0, locals := 23 }) (σ : zS) (p0 : Nat) {R : zS} (h : fX3_clear σ p0 = some R) (K : zRet Γ cX3_clear 1 0 0 (none) R) : zJ Γ 1 0 0 σ 0 [(0, .ref p0)] [] := by
  unfold fX3_clear at h
  refine zj_aload_n E dX3_clear_0 rfl 0 rfl ?_
  refine zs_getR E zc3 0 (by decide) zw_5_8 rfl dX3_clear_1 h (fun a1 h => ?_)
  refine zj_iconst (v := 0) E dX3_clear_4 (by decide) ?_
  obtain ⟨σ1, hc, h⟩ := oB_some h
  refine zs_callS (As := [.ref a1, .int 0]) (rest := []) E zyJ7_fill_53178 zw_24_12 (kJ7_fill_53178 _ _ _ _ _ hc) rfl rfl rfl ⟨by decide, by decide⟩ ⟨by decide, by decide⟩ (Nat.le_of_ble_eq_true rfl) dX3_clear_5 rfl (show zJ Γ 1 0 0 σ1 8 [(0, .ref p0)] [] from ?_)
  have e9 := Option.some.inj h
  subst e9
  exact (show zRet Γ cX3_clear 1 0 0 (none) σ1 from K) _ _ dX3_clear_8
set_option maxRecDepth 100000 in
theorem kX3_clear (l : Launch) (D : va_G) (cs : zCs) (z0 : Nat) (σ : zS) {p0 : Nat}  {σ' : zS} (h : fX3_clear σ p0 = some σ') : zM l D cs z0 yX3_clear cX3_clear 1 none { frames := 1, cells := 0, slots := 0, locals := 23 } [.ref p0] σ none σ' 0 0 := by
  exact zM_of (by decide) rfl rfl (Nat.le_of_ble_eq_true rfl) rfl (fun Γ e1 e2 e3 e4 E _ K => wX3_clear E σ _ h K)
/-! X3_fact -/
def fX3_fact (σ : zS) (p0 : Nat) (p1 : Int32) : Option Int32 := (if p1 = 5 then oGI σ 4 p0 1 (fun x1 => some x1) else (if p1 = 6 then oGI σ 4 p0 2 (fun x2 => some x2) else (if p1 = 7 then oGI σ 4 p0 3 (fun x3 => some x3) else (if p1 = 8 then oGI σ 4 p0 4 (fun x4 => some x4) else (if p1 = 9 then oGI σ 4 p0 5 (fun x5 => some x5) else oGI σ 4 p0 6 (fun x6 => some x6))))))
set_option maxRecDepth 100000 in
theorem wX3_fact {Γ : zG} (E : zE Γ cX3_fact RX3 2 { frames := 0, cells := 0, slots := 0, locals := 0 }) (σ : zS) (p0 : Nat) (p1 : Int32) {R : Int32} (h : fX3_fact σ p0 p1 = some R) (K : zRet Γ cX3_fact 2 0 0 (some (.int R)) σ) : zJ Γ 2 0 0 σ 0 [(0, .ref p0), (1, .int p1)] [] := by
  unfold fX3_fact at h
  refine zj_iload_n E dX3_fact_0 rfl 1 rfl ?_
  by_cases e0 : p1 = 5
  · rw [if_pos e0] at h
    refine zj_tIn (tgt := 36) E e0 dX3_fact_1 (by decide) (by decide) rfl (by decide) ?_
    refine zj_aload_n E dX3_fact_36 rfl 0 rfl ?_
    refine zs_getI E zc3 1 (by decide) zw_26_21 rfl dX3_fact_37 h (fun x1 h => ?_)
    have e9 := Option.some.inj h
    subst e9
    exact (show zRet Γ cX3_fact 2 0 0 (some (.int x1)) σ from K) _ _ dX3_fact_40
  rw [if_neg e0] at h
  by_cases e1 : p1 = 6
  · rw [if_pos e1] at h
    refine zj_tIn (tgt := 41) E e1 dX3_fact_1 (by decide) (by decide) rfl (by decide) ?_
    refine zj_aload_n E dX3_fact_41 rfl 0 rfl ?_
    refine zs_getI E zc3 2 (by decide) zw_26_22 rfl dX3_fact_42 h (fun x2 h => ?_)
    have e9 := Option.some.inj h
    subst e9
    exact (show zRet Γ cX3_fact 2 0 0 (some (.int x2)) σ from K) _ _ dX3_fact_45
  rw [if_neg e1] at h
  by_cases e2 : p1 = 7
  · rw [if_pos e2] at h
    refine zj_tIn (tgt := 46) E e2 dX3_fact_1 (by decide) (by decide) rfl (by decide) ?_
    refine zj_aload_n E dX3_fact_46 rfl 0 rfl ?_
    refine zs_getI E zc3 3 (by decide) zw_26_23 rfl dX3_fact_47 h (fun x3 h => ?_)
    have e9 := Option.some.inj h
    subst e9
    exact (show zRet Γ cX3_fact 2 0 0 (some (.int x3)) σ from K) _ _ dX3_fact_50
  rw [if_neg e2] at h
  by_cases e3 : p1 = 8
  · rw [if_pos e3] at h
    refine zj_tIn (tgt := 51) E e3 dX3_fact_1 (by decide) (by decide) rfl (by decide) ?_
    refine zj_aload_n E dX3_fact_51 rfl 0 rfl ?_
    refine zs_getI E zc3 4 (by decide) zw_27_0 rfl dX3_fact_52 h (fun x4 h => ?_)
    have e9 := Option.some.inj h
    subst e9
    exact (show zRet Γ cX3_fact 2 0 0 (some (.int x4)) σ from K) _ _ dX3_fact_55
  rw [if_neg e3] at h
  by_cases e4 : p1 = 9
  · rw [if_pos e4] at h
    refine zj_tIn (tgt := 56) E e4 dX3_fact_1 (by decide) (by decide) rfl (by decide) ?_
    refine zj_aload_n E dX3_fact_56 rfl 0 rfl ?_
    refine zs_getI E zc3 5 (by decide) zw_27_1 rfl dX3_fact_57 h (fun x5 h => ?_)
    have e9 := Option.some.inj h
    subst e9
    exact (show zRet Γ cX3_fact 2 0 0 (some (.int x5)) σ from K) _ _ dX3_fact_60
  rw [if_neg e4] at h
  refine zj_tOut (tgt := 61) E dX3_fact_1 (by have := And.intro (lv_neT (a := 5) e0 (by decide)) (And.intro (lv_neT (a := 6) e1 (by decide)) (And.intro (lv_neT (a := 7) e2 (by decide)) (And.intro (lv_neT (a := 8) e3 (by decide)) (lv_neT (a := 9) e4 (by decide))))); omega) (by decide) ?_
  refine zj_aload_n E dX3_fact_61 rfl 0 rfl ?_
  refine zs_getI E zc3 6 (by decide) zw_27_2 rfl dX3_fact_62 h (fun x6 h => ?_)
  have e9 := Option.some.inj h
  subst e9
  exact (show zRet Γ cX3_fact 2 0 0 (some (.int x6)) σ from K) _ _ dX3_fact_65
set_option maxRecDepth 100000 in
theorem kX3_fact (l : Launch) (D : va_G) (cs : zCs) (z0 : Nat) (σ : zS) {p0 : Nat} {p1 : Int32} {r : Int32} (h : fX3_fact σ p0 p1 = some r) : zM l D cs z0 yX3_fact cX3_fact 2 (some .int) { frames := 0, cells := 0, slots := 0, locals := 0 } [.ref p0, .int p1] σ (some (.int r)) σ 0 0 := by
  exact zM_of (by decide) rfl (Or.inl rfl) (Nat.le_of_ble_eq_true rfl) rfl (fun Γ e1 e2 e3 e4 E _ K => wX3_fact E σ _ _ h K)
/-! X4_exchange -/
def fX4_exchange (σ : zS) (p0 : Nat) (p1 : Nat) : Option (Nat × zS) := oGR σ 5 p0 3 (fun a1 => oPR σ 5 p0 3 p1 (fun σ1 => some (a1, σ1)))
set_option maxRecDepth 100000 in
theorem wX4_exchange {Γ : zG} (E : zE Γ cX4_exchange RX4 3 { frames := 0, cells := 0, slots := 0, locals := 0 }) (σ : zS) (p0 : Nat) (p1 : Nat) {R : (Nat × zS)} (h : fX4_exchange σ p0 p1 = some R) (K : zRet Γ cX4_exchange 3 0 0 (some (.ref R.1)) R.2) : zJ Γ 3 0 0 σ 0 [(0, .ref p0), (1, .ref p1)] [] := by
  unfold fX4_exchange at h
  refine zj_aload_n E dX4_exchange_0 rfl 0 rfl ?_
  refine zs_getR E zc4 3 (by decide) zw_3_11 rfl dX4_exchange_1 h (fun a1 h => ?_)
  refine zj_astore_n (lv2 := [(2, .ref a1), (0, .ref p0), (1, .ref p1)]) E dX4_exchange_4 rfl (by decide) rfl ?_
  refine zj_aload_n E dX4_exchange_5 rfl 1 rfl ?_
  refine zj_aload_n E dX4_exchange_6 rfl 2 rfl ?_
  refine zs_putR E zc4 3 (by decide) zw_3_11 rfl rfl dX4_exchange_7 h (fun σ1 h => ?_)
  refine zj_aload_n E dX4_exchange_10 rfl 0 rfl ?_
  have e9 := Option.some.inj h
  subst e9
  exact (show zRet Γ cX4_exchange 3 0 0 (some (.ref a1)) σ1 from K) _ _ dX4_exchange_11
set_option maxRecDepth 100000 in
theorem kX4_exchange (l : Launch) (D : va_G) (cs : zCs) (z0 : Nat) (σ : zS) {p0 : Nat} {p1 : Nat} {r : Nat} {σ' : zS} (h : fX4_exchange σ p0 p1 = some (r, σ')) : zM l D cs z0 yX4_exchange cX4_exchange 3 (some (.object "FrameReel$Reel")) { frames := 0, cells := 0, slots := 0, locals := 0 } [.ref p0, .ref p1] σ (some (.ref r)) σ' 0 0 := by
  exact zM_of (by decide) rfl ⟨_, rfl⟩ (Nat.le_of_ble_eq_true rfl) rfl (fun Γ e1 e2 e3 e4 E _ K => wX4_exchange E σ _ _ h K)
/-! X4_startsAsFile -/
def jX4_startsAsFile_2 (Γ : zG) (l0 : Nat) : (Int32 × zS) → Prop := fun x => zJ Γ 3 0 0 x.2 2 [(0, .ref l0), (1, .int x.1)] []
def eX4_startsAsFile_2 (Γ : zG) (l0 : Nat) : (zS ⊕ (Int32 × zS)) → Prop := Sum.elim (fun b => zJ Γ 3 0 0 b 60 [] []) (fun r => zRet Γ cX4_startsAsFile 3 0 0 (some (.int r.1)) r.2)
def fX4_startsAsFile_20 (σ : zS) (l0 : Nat) (l1 : Int32) (s0 : Int32) : Option ((Int32 × zS) ⊕ (zS ⊕ (Int32 × zS))) := oGR σ 5 l0 0 (fun a1 => oA (zk σ a1 = 2) (oB (fX1_at σ a1 l1) (fun x1 => (if x1 = (((s0.toUInt32 >>> (((24 : Int32) - ((l1 - l1 / (4 : Int32) * (4 : Int32)) * (8 : Int32))).toUInt32 &&& Int32.toUInt32 31)).toInt32) &&& (255 : Int32)) then oL (l1 + 1) (fun v1 => some (.inl (v1, σ))) else oPI σ 5 l0 5 l1 (fun σ1 => some (.inr (.inr (0, σ1))))))))
set_option maxRecDepth 100000 in
theorem wX4_startsAsFile_20 {Γ : zG} (E : zE Γ cX4_startsAsFile RX4 3 { frames := 1, cells := 0, slots := 0, locals := 21 }) (σ : zS) (l0 : Nat) (l1 : Int32) (s0 : Int32) {R : ((Int32 × zS) ⊕ (zS ⊕ (Int32 × zS)))} (h : fX4_startsAsFile_20 σ l0 l1 s0 = some R) (K : Sum.elim (jX4_startsAsFile_2 Γ l0) (eX4_startsAsFile_2 Γ l0) R) : zJ Γ 3 0 0 σ 20 [(0, .ref l0), (1, .int l1)] [.int s0] := by
  unfold fX4_startsAsFile_20 at h
  refine zj_istore_n (lv2 := [(2, .int s0), (0, .ref l0), (1, .int l1)]) E dX4_startsAsFile_20 rfl (by decide) rfl ?_
  refine zj_aload_n E dX4_startsAsFile_21 rfl 1 rfl ?_
  refine zs_getR E zc4 0 (by decide) zw_3_13 rfl dX4_startsAsFile_22 h (fun a1 h => ?_)
  refine zj_iload_n E dX4_startsAsFile_25 rfl 2 rfl ?_
  obtain ⟨hk, h⟩ := oA_some h
  obtain ⟨x1, hc, h⟩ := oB_some h
  refine zs_callV (As := [.int l1]) (rest := []) E zc1 zyX1_at zw_8_21 (kX1_at _ _ _ _ _ hc) rfl rfl hk rfl ⟨by decide, by decide⟩ ⟨by decide, by decide⟩ (Nat.le_of_ble_eq_true rfl) dX4_startsAsFile_26 rfl (show zJ Γ 3 0 0 σ 29 [(2, .int s0), (0, .ref l0), (1, .int l1)] [.int x1] from ?_)
  refine zj_iload_n E dX4_startsAsFile_29 rfl 0 rfl ?_
  refine zj_bipush (v := 24) E dX4_startsAsFile_30 (by decide) ?_
  refine zj_iload_n E dX4_startsAsFile_32 rfl 2 rfl ?_
  refine zj_iconst (v := 4) E dX4_startsAsFile_33 (by decide) ?_
  refine zj_irem E dX4_startsAsFile_34 (by decide) ?_
  refine zj_bipush (v := 8) E dX4_startsAsFile_35 (by decide) ?_
  refine zj_imul E dX4_startsAsFile_37 ?_
  refine zj_isub E dX4_startsAsFile_38 ?_
  refine zj_iushr E dX4_startsAsFile_39 ?_
  refine zj_sipush (v := 255) E dX4_startsAsFile_40 (by decide) ?_
  refine zj_iand E dX4_startsAsFile_43 ?_
  refine zj_icmp_eq (tgt := 54) E dX4_startsAsFile_44 (by decide) h (fun h => ?_) (fun h => ?_)
  · refine zs_iinc (lv2 := fun v1 => [(1, .int v1), (2, .int s0), (0, .ref l0)]) E dX4_startsAsFile_54 2 rfl (by decide) (by decide) (fun _ => rfl) h (fun v1 h => ?_)
    refine zj_goto (tgt := 2) E dX4_startsAsFile_57 (by decide) ?_
    have e9 := Option.some.inj h
    subst e9
    refine zj_lv [2, 0] rfl ?_
    exact K
  · refine zj_aload_n E dX4_startsAsFile_47 rfl 1 rfl ?_
    refine zj_iload_n E dX4_startsAsFile_48 rfl 2 rfl ?_
    refine zs_putI E zc4 5 (by decide) zw_8_14 rfl rfl dX4_startsAsFile_49 h (fun σ1 h => ?_)
    refine zj_iconst (v := 0) E dX4_startsAsFile_52 (by decide) ?_
    have e9 := Option.some.inj h
    subst e9
    exact (show zRet Γ cX4_startsAsFile 3 0 0 (some (.int 0)) σ1 from K) _ _ dX4_startsAsFile_53
def bX4_startsAsFile_2 (l0 : Nat) (l1 : Int32) (σ : zS) : Option ((Int32 × zS) ⊕ (zS ⊕ (Int32 × zS))) := (if (8 : Int32) ≤ l1 then some (.inr (.inl σ)) else (if (4 : Int32) ≤ l1 then fX4_startsAsFile_20 σ l0 l1 218765834 else fX4_startsAsFile_20 σ l0 l1 (-1991225785 : Int32)))
set_option maxRecDepth 100000 in
theorem wX4_startsAsFile_L2 {Γ : zG} (E : zE Γ cX4_startsAsFile RX4 3 { frames := 1, cells := 0, slots := 0, locals := 21 }) (l0 : Nat) : ∀ x R, (fun x => bX4_startsAsFile_2 l0 x.1 x.2) x = some R → Sum.elim (jX4_startsAsFile_2 Γ l0) (eX4_startsAsFile_2 Γ l0) R → jX4_startsAsFile_2 Γ l0 x := by
  intro x R h K
  obtain ⟨l1, σ⟩ := x
  have h : bX4_startsAsFile_2 l0 l1 σ = some R := h
  show zJ Γ 3 0 0 σ 2 [(0, .ref l0), (1, .int l1)] []
  unfold bX4_startsAsFile_2 at h
  refine zj_iload_n E dX4_startsAsFile_2 rfl 1 rfl ?_
  refine zj_bipush (v := 8) E dX4_startsAsFile_3 (by decide) ?_
  refine zj_icmp_ge (tgt := 60) E dX4_startsAsFile_5 (by decide) h (fun h => ?_) (fun h => ?_)
  · have e9 := Option.some.inj h
    subst e9
    refine zj_lv [] rfl ?_
    exact K
  · refine zj_iload_n E dX4_startsAsFile_8 rfl 1 rfl ?_
    refine zj_iconst (v := 4) E dX4_startsAsFile_9 (by decide) ?_
    refine zj_icmp_ge (tgt := 18) E dX4_startsAsFile_10 (by decide) h (fun h => ?_) (fun h => ?_)
    · refine zj_ldc (v := 218765834) E zw_8_20 dX4_startsAsFile_18 ?_
      refine zj_lv [0, 1] rfl ?_
      exact wX4_startsAsFile_20 E _ _ _ _ h K
    · refine zj_ldc (v := (-1991225785 : Int32)) E zw_8_19 dX4_startsAsFile_13 ?_
      refine zj_goto (tgt := 20) E dX4_startsAsFile_15 (by decide) ?_
      refine zj_lv [0, 1] rfl ?_
      exact wX4_startsAsFile_20 E _ _ _ _ h K
def gX4_startsAsFile (σ : zS) (p0 : Nat) : Option (Int32 × zS) := oB (zloop zF (fun x => bX4_startsAsFile_2 p0 x.1 x.2) (0, σ)) (fun b1 => oS b1 (fun c1 => (fun σ2 => some (1, σ2)) c1) (fun r1 => some r1))
def fX4_startsAsFile (σ : zS) (p0 : Nat) : Option (Int32 × zS) := oC (gX4_startsAsFile σ p0) (fun r s => oA (r = 0 ∨ r = 1) (some (r, s)))
set_option maxRecDepth 100000 in
theorem wX4_startsAsFile {Γ : zG} (E : zE Γ cX4_startsAsFile RX4 3 { frames := 1, cells := 0, slots := 0, locals := 21 }) (σ : zS) (p0 : Nat) {R : (Int32 × zS)} (h : gX4_startsAsFile σ p0 = some R) (K : zRet Γ cX4_startsAsFile 3 0 0 (some (.int R.1)) R.2) : zJ Γ 3 0 0 σ 0 [(0, .ref p0)] [] := by
  unfold gX4_startsAsFile at h
  refine zj_iconst (v := 0) E dX4_startsAsFile_0 (by decide) ?_
  refine zj_istore_n (lv2 := [(1, .int 0), (0, .ref p0)]) E dX4_startsAsFile_1 rfl (by decide) rfl ?_
  obtain ⟨b1, hb1, h⟩ := oB_some h
  refine zj_lv [1, 0] rfl ?_
  refine zj_loop (wX4_startsAsFile_L2 E p0) zF (0, σ) b1 hb1 ?_
  cases b1 with
  | inr r1 =>
    have e9 := Option.some.inj h
    subst e9
    exact K
  | inl c1 =>
    obtain ⟨σ2, rfl⟩ : ∃ z, z = c1 := ⟨_, rfl⟩
    dsimp only [oS] at h
    show zJ Γ 3 0 0 σ2 60 [] []
    refine zj_iconst (v := 1) E dX4_startsAsFile_60 (by decide) ?_
    have e9 := Option.some.inj h
    subst e9
    exact (show zRet Γ cX4_startsAsFile 3 0 0 (some (.int 1)) σ2 from K) _ _ dX4_startsAsFile_61
set_option maxRecDepth 100000 in
theorem kX4_startsAsFile (l : Launch) (D : va_G) (cs : zCs) (z0 : Nat) (σ : zS) {p0 : Nat} {r : Int32} {σ' : zS} (h : fX4_startsAsFile σ p0 = some (r, σ')) : zM l D cs z0 yX4_startsAsFile cX4_startsAsFile 3 (some .boolean) { frames := 1, cells := 0, slots := 0, locals := 21 } [.ref p0] σ (some (.int r)) σ' 0 0 := by
  obtain ⟨r0, s0, h0, h⟩ := oC_some h
  obtain ⟨hz, h⟩ := oA_some h
  cases h
  exact zM_of (by decide) rfl (Or.inr ⟨rfl, hz⟩) (Nat.le_of_ble_eq_true rfl) rfl (fun Γ e1 e2 e3 e4 E _ K => wX4_startsAsFile E σ _ h0 K)
/-! X8_ofChunk -/
def jX8_ofChunk_6 (Γ : zG) (σ : zS) (l0 : Nat) (l1 : Nat) (l3 : Int32) : (Int32 × Int32) → Prop := fun x => zJ Γ 6 0 0 σ 6 [(0, .ref l0), (1, .ref l1), (3, .int l3), (4, .int x.1), (5, .int x.2)] []
def eX8_ofChunk_6 (Γ : zG) (σ : zS) (l0 : Nat) (l1 : Nat) (l3 : Int32) : Int32 → Prop := fun b => zJ Γ 6 0 0 σ 44 [(4, .int b)] []
def bX8_ofChunk_6 (σ : zS) (l0 : Nat) (l1 : Nat) (l3 : Int32) (l4 : Int32) (l5 : Int32) : Option ((Int32 × Int32) ⊕ Int32) := (if l3 ≤ l5 then some (.inr l4) else oGR σ 8 l0 0 (fun a1 => oA (zk σ l1 = 2) (oB (fX1_at σ l1 l5) (fun x1 => oLd σ 21 a1 ((l4 ^^^ x1) &&& (255 : Int32)) (fun x2 => oL (((l4.toUInt32 >>> ((8 : Int32).toUInt32 &&& Int32.toUInt32 31)).toInt32) ^^^ x2) (fun v1 => oL (l5 + 1) (fun v2 => some (.inl (v1, v2)))))))))
set_option maxRecDepth 100000 in
theorem wX8_ofChunk_L6 {Γ : zG} (E : zE Γ cX8_ofChunk RX8 6 { frames := 1, cells := 0, slots := 0, locals := 21 }) (σ : zS) (l0 : Nat) (l1 : Nat) (l3 : Int32) : ∀ x R, (fun x => bX8_ofChunk_6 σ l0 l1 l3 x.1 x.2) x = some R → Sum.elim (jX8_ofChunk_6 Γ σ l0 l1 l3) (eX8_ofChunk_6 Γ σ l0 l1 l3) R → jX8_ofChunk_6 Γ σ l0 l1 l3 x := by
  intro x R h K
  obtain ⟨l4, l5⟩ := x
  have h : bX8_ofChunk_6 σ l0 l1 l3 l4 l5 = some R := h
  show zJ Γ 6 0 0 σ 6 [(0, .ref l0), (1, .ref l1), (3, .int l3), (4, .int l4), (5, .int l5)] []
  unfold bX8_ofChunk_6 at h
  refine zj_iload E dX8_ofChunk_6 4 rfl ?_
  refine zj_iload_n E dX8_ofChunk_8 rfl 2 rfl ?_
  refine zj_icmp_ge (tgt := 44) E dX8_ofChunk_9 (by decide) h (fun h => ?_) (fun h => ?_)
  · have e9 := Option.some.inj h
    subst e9
    refine zj_lv [3] rfl ?_
    exact K
  · refine zj_iload E dX8_ofChunk_12 3 rfl ?_
    refine zj_bipush (v := 8) E dX8_ofChunk_14 (by decide) ?_
    refine zj_iushr E dX8_ofChunk_16 ?_
    refine zj_aload_n E dX8_ofChunk_17 rfl 0 rfl ?_
    refine zs_getR E zc7 0 (by decide) zw_2_18 rfl dX8_ofChunk_18 h (fun a1 h => ?_)
    refine zj_iload E dX8_ofChunk_21 3 rfl ?_
    refine zj_aload_n E dX8_ofChunk_23 rfl 1 rfl ?_
    refine zj_iload E dX8_ofChunk_24 4 rfl ?_
    obtain ⟨hk, h⟩ := oA_some h
    obtain ⟨x1, hc, h⟩ := oB_some h
    refine zs_callV (As := [.int l5]) (rest := [.int l4, .ref a1, .int ((l4.toUInt32 >>> ((8 : Int32).toUInt32 &&& Int32.toUInt32 31)).toInt32)]) E zc1 zyX1_at zw_9_15 (kX1_at _ _ _ _ _ hc) rfl rfl hk rfl ⟨by decide, by decide⟩ ⟨by decide, by decide⟩ (Nat.le_of_ble_eq_true rfl) dX8_ofChunk_26 rfl (show zJ Γ 6 0 0 σ 29 [(0, .ref l0), (1, .ref l1), (3, .int l3), (4, .int l4), (5, .int l5)] [.int x1, .int l4, .ref a1, .int ((l4.toUInt32 >>> ((8 : Int32).toUInt32 &&& Int32.toUInt32 31)).toInt32)] from ?_)
    refine zj_ixor E dX8_ofChunk_29 ?_
    refine zj_sipush (v := 255) E dX8_ofChunk_30 (by decide) ?_
    refine zj_iand E dX8_ofChunk_33 ?_
    refine zs_iald E dX8_ofChunk_34 h (fun x2 h => ?_)
    refine zj_ixor E dX8_ofChunk_35 ?_
    refine zs_istore (lv2 := fun v1 => [(4, .int v1), (0, .ref l0), (1, .ref l1), (3, .int l3), (5, .int l5)]) E dX8_ofChunk_36 (by decide) (fun _ => rfl) h (fun v1 h => ?_)
    refine zs_iinc (lv2 := fun v2 => [(5, .int v2), (4, .int v1), (0, .ref l0), (1, .ref l1), (3, .int l3)]) E dX8_ofChunk_38 4 rfl (by decide) (by decide) (fun _ => rfl) h (fun v2 h => ?_)
    refine zj_goto (tgt := 6) E dX8_ofChunk_41 (by decide) ?_
    have e9 := Option.some.inj h
    subst e9
    refine zj_lv [2, 3, 4, 1, 0] rfl ?_
    exact K
def fX8_ofChunk (σ : zS) (p0 : Nat) (p1 : Nat) (p2 : Int32) (p3 : Int32) : Option Int32 := oB (zloop zF (fun x => bX8_ofChunk_6 σ p0 p1 p3 x.1 x.2) ((-1 : Int32), p2)) (fun b1 => (fun v3 => some (v3 ^^^ (-1 : Int32))) b1)
set_option maxRecDepth 100000 in
theorem wX8_ofChunk {Γ : zG} (E : zE Γ cX8_ofChunk RX8 6 { frames := 1, cells := 0, slots := 0, locals := 21 }) (σ : zS) (p0 : Nat) (p1 : Nat) (p2 : Int32) (p3 : Int32) {R : Int32} (h : fX8_ofChunk σ p0 p1 p2 p3 = some R) (K : zRet Γ cX8_ofChunk 6 0 0 (some (.int R)) σ) : zJ Γ 6 0 0 σ 0 [(0, .ref p0), (1, .ref p1), (2, .int p2), (3, .int p3)] [] := by
  unfold fX8_ofChunk at h
  refine zj_iconst (v := (-1 : Int32)) E dX8_ofChunk_0 (by decide) ?_
  refine zj_istore (lv2 := [(4, .int (-1 : Int32)), (0, .ref p0), (1, .ref p1), (2, .int p2), (3, .int p3)]) E dX8_ofChunk_1 (by decide) rfl ?_
  refine zj_iload_n E dX8_ofChunk_3 rfl 3 rfl ?_
  refine zj_istore (lv2 := [(5, .int p2), (4, .int (-1 : Int32)), (0, .ref p0), (1, .ref p1), (2, .int p2), (3, .int p3)]) E dX8_ofChunk_4 (by decide) rfl ?_
  obtain ⟨b1, hb1, h⟩ := oB_some h
  refine zj_lv [2, 3, 5, 1, 0] rfl ?_
  refine zj_loop (wX8_ofChunk_L6 E σ p0 p1 p3) zF ((-1 : Int32), p2) b1 hb1 ?_
  obtain ⟨v3, rfl⟩ : ∃ z, z = b1 := ⟨_, rfl⟩
  try dsimp only at h
  show zJ Γ 6 0 0 σ 44 [(4, .int v3)] []
  refine zj_iload E dX8_ofChunk_44 0 rfl ?_
  refine zj_iconst (v := (-1 : Int32)) E dX8_ofChunk_46 (by decide) ?_
  refine zj_ixor E dX8_ofChunk_47 ?_
  have e9 := Option.some.inj h
  subst e9
  exact (show zRet Γ cX8_ofChunk 6 0 0 (some (.int (v3 ^^^ (-1 : Int32)))) σ from K) _ _ dX8_ofChunk_48
set_option maxRecDepth 100000 in
theorem kX8_ofChunk (l : Launch) (D : va_G) (cs : zCs) (z0 : Nat) (σ : zS) {p0 : Nat} {p1 : Nat} {p2 : Int32} {p3 : Int32} {r : Int32} (h : fX8_ofChunk σ p0 p1 p2 p3 = some r) : zM l D cs z0 yX8_ofChunk cX8_ofChunk 6 (some .int) { frames := 1, cells := 0, slots := 0, locals := 21 } [.ref p0, .ref p1, .int p2, .int p3] σ (some (.int r)) σ 0 0 := by
  exact zM_of (by decide) rfl (Or.inl rfl) (Nat.le_of_ble_eq_true rfl) rfl (fun Γ e1 e2 e3 e4 E _ K => wX8_ofChunk E σ _ _ _ _ h K)
/-! X9_startsAsPacked -/
def gX9_startsAsPacked (σ : zS) (p0 : Nat) : Option Int32 := oGR σ 9 p0 0 (fun a1 => oA (zk σ a1 = 2) (oB (fX1_at σ a1 1) (fun x1 => oGR σ 9 p0 0 (fun a2 => oA (zk σ a2 = 2) (oB (fX1_at σ a2 0) (fun x2 => (if x2 = (120 : Int32) then (if x1 < 0 then some 0 else (if (x1 &&& (32 : Int32)) = 0 then (if (((30720 : Int32) + x1) - ((30720 : Int32) + x1) / (31 : Int32) * (31 : Int32)) = 0 then some 1 else some 0) else some 0)) else some 0)))))))
def fX9_startsAsPacked (σ : zS) (p0 : Nat) : Option Int32 := oB (gX9_startsAsPacked σ p0) (fun r => oA (r = 0 ∨ r = 1) (some r))
set_option maxRecDepth 100000 in
theorem wX9_startsAsPacked {Γ : zG} (E : zE Γ cX9_startsAsPacked RX9 2 { frames := 1, cells := 0, slots := 0, locals := 21 }) (σ : zS) (p0 : Nat) {R : Int32} (h : gX9_startsAsPacked σ p0 = some R) (K : zRet Γ cX9_startsAsPacked 2 0 0 (some (.int R)) σ) : zJ Γ 2 0 0 σ 0 [(0, .ref p0)] [] := by
  unfold gX9_startsAsPacked at h
  refine zj_aload_n E dX9_startsAsPacked_0 rfl 0 rfl ?_
  refine zs_getR E zc8 0 (by decide) zw_3_19 rfl dX9_startsAsPacked_1 h (fun a1 h => ?_)
  refine zj_iconst (v := 1) E dX9_startsAsPacked_4 (by decide) ?_
  obtain ⟨hk, h⟩ := oA_some h
  obtain ⟨x1, hc, h⟩ := oB_some h
  refine zs_callV (As := [.int 1]) (rest := []) E zc1 zyX1_at zw_10_4 (kX1_at _ _ _ _ _ hc) rfl rfl hk rfl ⟨by decide, by decide⟩ ⟨by decide, by decide⟩ (Nat.le_of_ble_eq_true rfl) dX9_startsAsPacked_5 rfl (show zJ Γ 2 0 0 σ 8 [(0, .ref p0)] [.int x1] from ?_)
  refine zj_istore_n (lv2 := [(1, .int x1), (0, .ref p0)]) E dX9_startsAsPacked_8 rfl (by decide) rfl ?_
  refine zj_aload_n E dX9_startsAsPacked_9 rfl 1 rfl ?_
  refine zs_getR E zc8 0 (by decide) zw_3_19 rfl dX9_startsAsPacked_10 h (fun a2 h => ?_)
  refine zj_iconst (v := 0) E dX9_startsAsPacked_13 (by decide) ?_
  obtain ⟨hk, h⟩ := oA_some h
  obtain ⟨x2, hc, h⟩ := oB_some h
  refine zs_callV (As := [.int 0]) (rest := []) E zc1 zyX1_at zw_10_4 (kX1_at _ _ _ _ _ hc) rfl rfl hk rfl ⟨by decide, by decide⟩ ⟨by decide, by decide⟩ (Nat.le_of_ble_eq_true rfl) dX9_startsAsPacked_14 rfl (show zJ Γ 2 0 0 σ 17 [(1, .int x1), (0, .ref p0)] [.int x2] from ?_)
  refine zj_bipush (v := 120) E dX9_startsAsPacked_17 (by decide) ?_
  refine zj_icmp_ne (tgt := 48) E dX9_startsAsPacked_19 (by decide) h (fun h => ?_) (fun h => ?_)
  · refine zj_iconst (v := 0) E dX9_startsAsPacked_48 (by decide) ?_
    have e9 := Option.some.inj h
    subst e9
    exact (show zRet Γ cX9_startsAsPacked 2 0 0 (some (.int 0)) σ from K) _ _ dX9_startsAsPacked_49
  · refine zj_iload_n E dX9_startsAsPacked_22 rfl 0 rfl ?_
    refine zj_if_lt (tgt := 48) E dX9_startsAsPacked_23 (by decide) h (fun h => ?_) (fun h => ?_)
    · refine zj_iconst (v := 0) E dX9_startsAsPacked_48 (by decide) ?_
      have e9 := Option.some.inj h
      subst e9
      exact (show zRet Γ cX9_startsAsPacked 2 0 0 (some (.int 0)) σ from K) _ _ dX9_startsAsPacked_49
    · refine zj_iload_n E dX9_startsAsPacked_26 rfl 0 rfl ?_
      refine zj_bipush (v := 32) E dX9_startsAsPacked_27 (by decide) ?_
      refine zj_iand E dX9_startsAsPacked_29 ?_
      refine zj_if_ne (tgt := 48) E dX9_startsAsPacked_30 (by decide) h (fun h => ?_) (fun h => ?_)
      · refine zj_iconst (v := 0) E dX9_startsAsPacked_48 (by decide) ?_
        have e9 := Option.some.inj h
        subst e9
        exact (show zRet Γ cX9_startsAsPacked 2 0 0 (some (.int 0)) σ from K) _ _ dX9_startsAsPacked_49
      · refine zj_sipush (v := 30720) E dX9_startsAsPacked_33 (by decide) ?_
        refine zj_iload_n E dX9_startsAsPacked_36 rfl 0 rfl ?_
        refine zj_iadd E dX9_startsAsPacked_37 ?_
        refine zj_bipush (v := 31) E dX9_startsAsPacked_38 (by decide) ?_
        refine zj_irem E dX9_startsAsPacked_40 (by decide) ?_
        refine zj_if_ne (tgt := 48) E dX9_startsAsPacked_41 (by decide) h (fun h => ?_) (fun h => ?_)
        · refine zj_iconst (v := 0) E dX9_startsAsPacked_48 (by decide) ?_
          have e9 := Option.some.inj h
          subst e9
          exact (show zRet Γ cX9_startsAsPacked 2 0 0 (some (.int 0)) σ from K) _ _ dX9_startsAsPacked_49
        · refine zj_iconst (v := 1) E dX9_startsAsPacked_44 (by decide) ?_
          refine zj_goto (tgt := 49) E dX9_startsAsPacked_45 (by decide) ?_
          have e9 := Option.some.inj h
          subst e9
          exact (show zRet Γ cX9_startsAsPacked 2 0 0 (some (.int 1)) σ from K) _ _ dX9_startsAsPacked_49
set_option maxRecDepth 100000 in
theorem kX9_startsAsPacked (l : Launch) (D : va_G) (cs : zCs) (z0 : Nat) (σ : zS) {p0 : Nat} {r : Int32} (h : fX9_startsAsPacked σ p0 = some r) : zM l D cs z0 yX9_startsAsPacked cX9_startsAsPacked 2 (some .boolean) { frames := 1, cells := 0, slots := 0, locals := 21 } [.ref p0] σ (some (.int r)) σ 0 0 := by
  obtain ⟨r0, h0, h⟩ := oB_some h
  obtain ⟨hz, h⟩ := oA_some h
  cases h
  exact zM_of (by decide) rfl (Or.inr ⟨rfl, hz⟩) (Nat.le_of_ble_eq_true rfl) rfl (fun Γ e1 e2 e3 e4 E _ K => wX9_startsAsPacked E σ _ h0 K)
/-! X9_copyPlain -/
def gX9_copyPlain (σ : zS) (p0 : Nat) : Option (Int32 × zS) := oGR σ 9 p0 2 (fun a1 => oA (zk σ a1 = 1) (oB (fX0_skipToByte σ a1) (fun σ1 => oGR σ1 9 p0 2 (fun a2 => oA (zk σ1 a2 = 1) (oC (fX0_take σ1 a2 16) (fun x1 σ2 => oGR σ2 9 p0 2 (fun a3 => oA (zk σ2 a3 = 1) (oC (fX0_take σ2 a3 16) (fun x2 σ3 => (if x1 < 0 then some (0, σ3) else (if x2 < 0 then some (0, σ3) else (if (x1 ^^^ x2) = (65535 : Int32) then oGR σ3 9 p0 2 (fun a4 => oGI σ3 1 a4 1 (fun x3 => oL (x3 / (8 : Int32)) (fun v1 => oGR σ3 9 p0 0 (fun a5 => oGI σ3 2 a5 1 (fun x4 => (if (x4 - v1) < x1 then some (0, σ3) else oGR σ3 9 p0 1 (fun a6 => oA (zk σ3 a6 = 2) (oB (fX1_fits σ3 a6 x1) (fun x5 => (if x5 = 0 then some (0, σ3) else oGR σ3 9 p0 1 (fun a7 => oGR σ3 9 p0 0 (fun a8 => oA (zk σ3 a7 = 2) (oB (fX1_addPart σ3 a7 a8 v1 (v1 + x1)) (fun σ4 => oGR σ4 9 p0 2 (fun a9 => oGI σ4 1 a9 1 (fun x6 => oPI σ4 1 a9 1 (x6 + (x1 * (8 : Int32))) (fun σ5 => some (1, σ5)))))))))))))))))) else some (0, σ3)))))))))))))
def fX9_copyPlain (σ : zS) (p0 : Nat) : Option (Int32 × zS) := oC (gX9_copyPlain σ p0) (fun r s => oA (r = 0 ∨ r = 1) (some (r, s)))
set_option maxRecDepth 100000 in
theorem wX9_copyPlain {Γ : zG} (E : zE Γ cX9_copyPlain RX9 4 { frames := 2, cells := 0, slots := 0, locals := 45 }) (σ : zS) (p0 : Nat) {R : (Int32 × zS)} (h : gX9_copyPlain σ p0 = some R) (K : zRet Γ cX9_copyPlain 4 0 0 (some (.int R.1)) R.2) : zJ Γ 4 0 0 σ 0 [(0, .ref p0)] [] := by
  unfold gX9_copyPlain at h
  refine zj_aload_n E dX9_copyPlain_0 rfl 0 rfl ?_
  refine zs_getR E zc8 2 (by decide) zw_4_0 rfl dX9_copyPlain_1 h (fun a1 h => ?_)
  obtain ⟨hk, h⟩ := oA_some h
  obtain ⟨σ1, hc, h⟩ := oB_some h
  refine zs_callV (As := []) (rest := []) E zc0 zyX0_skipToByte zw_10_15 (kX0_skipToByte _ _ _ _ _ hc) rfl rfl hk rfl ⟨by decide, by decide⟩ ⟨by decide, by decide⟩ (Nat.le_of_ble_eq_true rfl) dX9_copyPlain_4 rfl (show zJ Γ 4 0 0 σ1 7 [(0, .ref p0)] [] from ?_)
  refine zj_aload_n E dX9_copyPlain_7 rfl 0 rfl ?_
  refine zs_getR E zc8 2 (by decide) zw_4_0 rfl dX9_copyPlain_8 h (fun a2 h => ?_)
  refine zj_bipush (v := 16) E dX9_copyPlain_11 (by decide) ?_
  obtain ⟨hk, h⟩ := oA_some h
  obtain ⟨x1, σ2, hc, h⟩ := oC_some h
  refine zs_callV (As := [.int 16]) (rest := []) E zc0 zyX0_take zw_10_5 (kX0_take _ _ _ _ _ hc) rfl rfl hk rfl ⟨by decide, by decide⟩ ⟨by decide, by decide⟩ (Nat.le_of_ble_eq_true rfl) dX9_copyPlain_13 rfl (show zJ Γ 4 0 0 σ2 16 [(0, .ref p0)] [.int x1] from ?_)
  refine zj_istore_n (lv2 := [(1, .int x1), (0, .ref p0)]) E dX9_copyPlain_16 rfl (by decide) rfl ?_
  refine zj_aload_n E dX9_copyPlain_17 rfl 1 rfl ?_
  refine zs_getR E zc8 2 (by decide) zw_4_0 rfl dX9_copyPlain_18 h (fun a3 h => ?_)
  refine zj_bipush (v := 16) E dX9_copyPlain_21 (by decide) ?_
  obtain ⟨hk, h⟩ := oA_some h
  obtain ⟨x2, σ3, hc, h⟩ := oC_some h
  refine zs_callV (As := [.int 16]) (rest := []) E zc0 zyX0_take zw_10_5 (kX0_take _ _ _ _ _ hc) rfl rfl hk rfl ⟨by decide, by decide⟩ ⟨by decide, by decide⟩ (Nat.le_of_ble_eq_true rfl) dX9_copyPlain_23 rfl (show zJ Γ 4 0 0 σ3 26 [(1, .int x1), (0, .ref p0)] [.int x2] from ?_)
  refine zj_istore_n (lv2 := [(2, .int x2), (1, .int x1), (0, .ref p0)]) E dX9_copyPlain_26 rfl (by decide) rfl ?_
  refine zj_iload_n E dX9_copyPlain_27 rfl 1 rfl ?_
  refine zj_if_lt (tgt := 43) E dX9_copyPlain_28 (by decide) h (fun h => ?_) (fun h => ?_)
  · refine zj_iconst (v := 0) E dX9_copyPlain_43 (by decide) ?_
    have e9 := Option.some.inj h
    subst e9
    exact (show zRet Γ cX9_copyPlain 4 0 0 (some (.int 0)) σ3 from K) _ _ dX9_copyPlain_44
  · refine zj_iload_n E dX9_copyPlain_31 rfl 0 rfl ?_
    refine zj_if_lt (tgt := 43) E dX9_copyPlain_32 (by decide) h (fun h => ?_) (fun h => ?_)
    · refine zj_iconst (v := 0) E dX9_copyPlain_43 (by decide) ?_
      have e9 := Option.some.inj h
      subst e9
      exact (show zRet Γ cX9_copyPlain 4 0 0 (some (.int 0)) σ3 from K) _ _ dX9_copyPlain_44
    · refine zj_iload_n E dX9_copyPlain_35 rfl 1 rfl ?_
      refine zj_iload_n E dX9_copyPlain_36 rfl 0 rfl ?_
      refine zj_ixor E dX9_copyPlain_37 ?_
      refine zj_ldc (v := 65535) E zw_10_14 dX9_copyPlain_38 ?_
      refine zj_icmp_eq (tgt := 45) E dX9_copyPlain_40 (by decide) h (fun h => ?_) (fun h => ?_)
      · refine zj_aload_n E dX9_copyPlain_45 rfl 2 rfl ?_
        refine zs_getR E zc8 2 (by decide) zw_4_0 rfl dX9_copyPlain_46 h (fun a4 h => ?_)
        refine zs_getIN E zc0 1 (by decide) (znf_8) rfl dX9_copyPlain_49 h (fun x3 h => ?_)
        refine zj_bipush (v := 8) E dX9_copyPlain_52 (by decide) ?_
        refine zj_idiv E dX9_copyPlain_54 (by decide) ?_
        refine zs_istore_n (lv2 := fun v1 => [(3, .int v1), (2, .int x2), (1, .int x1), (0, .ref p0)]) E dX9_copyPlain_55 rfl (by decide) (fun _ => rfl) h (fun v1 h => ?_)
        refine zj_iload_n E dX9_copyPlain_56 rfl 2 rfl ?_
        refine zj_aload_n E dX9_copyPlain_57 rfl 3 rfl ?_
        refine zs_getR E zc8 0 (by decide) zw_3_19 rfl dX9_copyPlain_58 h (fun a5 h => ?_)
        refine zs_getIN E zc1 1 (by decide) (znf_4) rfl dX9_copyPlain_61 h (fun x4 h => ?_)
        refine zj_iload_n E dX9_copyPlain_64 rfl 0 rfl ?_
        refine zj_isub E dX9_copyPlain_65 ?_
        refine zj_icmp_gt (tgt := 80) E dX9_copyPlain_66 (by decide) h (fun h => ?_) (fun h => ?_)
        · refine zj_iconst (v := 0) E dX9_copyPlain_80 (by decide) ?_
          have e9 := Option.some.inj h
          subst e9
          exact (show zRet Γ cX9_copyPlain 4 0 0 (some (.int 0)) σ3 from K) _ _ dX9_copyPlain_81
        · refine zj_aload_n E dX9_copyPlain_69 rfl 3 rfl ?_
          refine zs_getR E zc8 1 (by decide) zw_3_20 rfl dX9_copyPlain_70 h (fun a6 h => ?_)
          refine zj_iload_n E dX9_copyPlain_73 rfl 2 rfl ?_
          obtain ⟨hk, h⟩ := oA_some h
          obtain ⟨x5, hc, h⟩ := oB_some h
          refine zs_callV (As := [.int x1]) (rest := []) E zc1 zyX1_fits zw_10_19 (kX1_fits _ _ _ _ _ hc) rfl rfl hk rfl ⟨by decide, by decide⟩ ⟨by decide, by decide⟩ (Nat.le_of_ble_eq_true rfl) dX9_copyPlain_74 rfl (show zJ Γ 4 0 0 σ3 77 [(3, .int v1), (2, .int x2), (1, .int x1), (0, .ref p0)] [.int x5] from ?_)
          refine zj_if_ne (tgt := 82) E dX9_copyPlain_77 (by decide) h (fun h => ?_) (fun h => ?_)
          · refine zj_aload_n E dX9_copyPlain_82 rfl 3 rfl ?_
            refine zs_getR E zc8 1 (by decide) zw_3_20 rfl dX9_copyPlain_83 h (fun a7 h => ?_)
            refine zj_aload_n E dX9_copyPlain_86 rfl 3 rfl ?_
            refine zs_getR E zc8 0 (by decide) zw_3_19 rfl dX9_copyPlain_87 h (fun a8 h => ?_)
            refine zj_iload_n E dX9_copyPlain_90 rfl 0 rfl ?_
            refine zj_iload_n E dX9_copyPlain_91 rfl 0 rfl ?_
            refine zj_iload_n E dX9_copyPlain_92 rfl 2 rfl ?_
            refine zj_iadd E dX9_copyPlain_93 ?_
            obtain ⟨hk, h⟩ := oA_some h
            obtain ⟨σ4, hc, h⟩ := oB_some h
            refine zs_callV (As := [.ref a8, .int v1, .int (v1 + x1)]) (rest := []) E zc1 zyX1_addPart zw_10_20 (kX1_addPart _ _ _ _ _ hc) rfl rfl hk rfl ⟨by decide, by decide⟩ ⟨by decide, by decide⟩ (Nat.le_of_ble_eq_true rfl) dX9_copyPlain_94 rfl (show zJ Γ 4 0 0 σ4 97 [(3, .int v1), (2, .int x2), (1, .int x1), (0, .ref p0)] [] from ?_)
            refine zj_aload_n E dX9_copyPlain_97 rfl 3 rfl ?_
            refine zs_getR E zc8 2 (by decide) zw_4_0 rfl dX9_copyPlain_98 h (fun a9 h => ?_)
            refine zj_dup E dX9_copyPlain_101 rfl ?_
            refine zs_getIN E zc0 1 (by decide) (znf_8) rfl dX9_copyPlain_102 h (fun x6 h => ?_)
            refine zj_iload_n E dX9_copyPlain_105 rfl 2 rfl ?_
            refine zj_bipush (v := 8) E dX9_copyPlain_106 (by decide) ?_
            refine zj_imul E dX9_copyPlain_108 ?_
            refine zj_iadd E dX9_copyPlain_109 ?_
            refine zs_putIN E zc0 1 (by decide) (znf_8) rfl rfl dX9_copyPlain_110 h (fun σ5 h => ?_)
            refine zj_iconst (v := 1) E dX9_copyPlain_113 (by decide) ?_
            have e9 := Option.some.inj h
            subst e9
            exact (show zRet Γ cX9_copyPlain 4 0 0 (some (.int 1)) σ5 from K) _ _ dX9_copyPlain_114
          · refine zj_iconst (v := 0) E dX9_copyPlain_80 (by decide) ?_
            have e9 := Option.some.inj h
            subst e9
            exact (show zRet Γ cX9_copyPlain 4 0 0 (some (.int 0)) σ3 from K) _ _ dX9_copyPlain_81
      · refine zj_iconst (v := 0) E dX9_copyPlain_43 (by decide) ?_
        have e9 := Option.some.inj h
        subst e9
        exact (show zRet Γ cX9_copyPlain 4 0 0 (some (.int 0)) σ3 from K) _ _ dX9_copyPlain_44
set_option maxRecDepth 100000 in
theorem kX9_copyPlain (l : Launch) (D : va_G) (cs : zCs) (z0 : Nat) (σ : zS) {p0 : Nat} {r : Int32} {σ' : zS} (h : fX9_copyPlain σ p0 = some (r, σ')) : zM l D cs z0 yX9_copyPlain cX9_copyPlain 4 (some .boolean) { frames := 2, cells := 0, slots := 0, locals := 45 } [.ref p0] σ (some (.int r)) σ' 0 0 := by
  obtain ⟨r0, s0, h0, h⟩ := oC_some h
  obtain ⟨hz, h⟩ := oA_some h
  cases h
  exact zM_of (by decide) rfl (Or.inr ⟨rfl, hz⟩) (Nat.le_of_ble_eq_true rfl) rfl (fun Γ e1 e2 e3 e4 E _ K => wX9_copyPlain E σ _ h0 K)
/-! X9_fixCodes -/
def jX9_fixCodes_2 (Γ : zG) (l0 : Nat) : (Int32 × zS) → Prop := fun x => zJ Γ 2 0 0 x.2 2 [(0, .ref l0), (1, .int x.1)] []
def eX9_fixCodes_2 (Γ : zG) (l0 : Nat) : zS → Prop := fun b => zJ Γ 2 0 0 b 59 [(0, .ref l0)] []
def fX9_fixCodes_52 (σ : zS) (l0 : Nat) (l1 : Int32) (s0 : Int32) (s1 : Int32) (s2 : Nat) : Option ((Int32 × zS) ⊕ zS) := oSt σ 21 s2 s1 s0 (fun σ1 => oL (l1 + 1) (fun v1 => some (.inl (v1, σ1))))
set_option maxRecDepth 100000 in
theorem wX9_fixCodes_52 {Γ : zG} (E : zE Γ cX9_fixCodes RX9 2 { frames := 2, cells := 0, slots := 0, locals := 49 }) (σ : zS) (l0 : Nat) (l1 : Int32) (s0 : Int32) (s1 : Int32) (s2 : Nat) {R : ((Int32 × zS) ⊕ zS)} (h : fX9_fixCodes_52 σ l0 l1 s0 s1 s2 = some R) (K : Sum.elim (jX9_fixCodes_2 Γ l0) (eX9_fixCodes_2 Γ l0) R) : zJ Γ 2 0 0 σ 52 [(0, .ref l0), (1, .int l1)] [.int s0, .int s1, .ref s2] := by
  unfold fX9_fixCodes_52 at h
  refine zs_iast E dX9_fixCodes_52 h (fun σ1 h => ?_)
  refine zs_iinc (lv2 := fun v1 => [(1, .int v1), (0, .ref l0)]) E dX9_fixCodes_53 1 rfl (by decide) (by decide) (fun _ => rfl) h (fun v1 h => ?_)
  refine zj_goto (tgt := 2) E dX9_fixCodes_56 (by decide) ?_
  have e9 := Option.some.inj h
  subst e9
  refine zj_lv [1, 0] rfl ?_
  exact K
def bX9_fixCodes_2 (l0 : Nat) (l1 : Int32) (σ : zS) : Option ((Int32 × zS) ⊕ zS) := (if (288 : Int32) ≤ l1 then some (.inr σ) else oGR σ 9 l0 6 (fun a1 => (if (144 : Int32) ≤ l1 then (if (256 : Int32) ≤ l1 then (if (280 : Int32) ≤ l1 then fX9_fixCodes_52 σ l0 l1 8 l1 a1 else fX9_fixCodes_52 σ l0 l1 7 l1 a1) else fX9_fixCodes_52 σ l0 l1 9 l1 a1) else fX9_fixCodes_52 σ l0 l1 8 l1 a1)))
set_option maxRecDepth 100000 in
theorem wX9_fixCodes_L2 {Γ : zG} (E : zE Γ cX9_fixCodes RX9 2 { frames := 2, cells := 0, slots := 0, locals := 49 }) (l0 : Nat) : ∀ x R, (fun x => bX9_fixCodes_2 l0 x.1 x.2) x = some R → Sum.elim (jX9_fixCodes_2 Γ l0) (eX9_fixCodes_2 Γ l0) R → jX9_fixCodes_2 Γ l0 x := by
  intro x R h K
  obtain ⟨l1, σ⟩ := x
  have h : bX9_fixCodes_2 l0 l1 σ = some R := h
  show zJ Γ 2 0 0 σ 2 [(0, .ref l0), (1, .int l1)] []
  unfold bX9_fixCodes_2 at h
  refine zj_iload_n E dX9_fixCodes_2 rfl 1 rfl ?_
  refine zj_sipush (v := 288) E dX9_fixCodes_3 (by decide) ?_
  refine zj_icmp_ge (tgt := 59) E dX9_fixCodes_6 (by decide) h (fun h => ?_) (fun h => ?_)
  · have e9 := Option.some.inj h
    subst e9
    refine zj_lv [0] rfl ?_
    exact K
  · refine zj_aload_n E dX9_fixCodes_9 rfl 0 rfl ?_
    refine zs_getR E zc8 6 (by decide) zw_4_7 rfl dX9_fixCodes_10 h (fun a1 h => ?_)
    refine zj_iload_n E dX9_fixCodes_13 rfl 1 rfl ?_
    refine zj_iload_n E dX9_fixCodes_14 rfl 1 rfl ?_
    refine zj_sipush (v := 144) E dX9_fixCodes_15 (by decide) ?_
    refine zj_icmp_ge (tgt := 26) E dX9_fixCodes_18 (by decide) h (fun h => ?_) (fun h => ?_)
    · refine zj_iload_n E dX9_fixCodes_26 rfl 1 rfl ?_
      refine zj_sipush (v := 256) E dX9_fixCodes_27 (by decide) ?_
      refine zj_icmp_ge (tgt := 38) E dX9_fixCodes_30 (by decide) h (fun h => ?_) (fun h => ?_)
      · refine zj_iload_n E dX9_fixCodes_38 rfl 1 rfl ?_
        refine zj_sipush (v := 280) E dX9_fixCodes_39 (by decide) ?_
        refine zj_icmp_ge (tgt := 50) E dX9_fixCodes_42 (by decide) h (fun h => ?_) (fun h => ?_)
        · refine zj_bipush (v := 8) E dX9_fixCodes_50 (by decide) ?_
          refine zj_lv [0, 1] rfl ?_
          exact wX9_fixCodes_52 E _ _ _ _ _ _ h K
        · refine zj_bipush (v := 7) E dX9_fixCodes_45 (by decide) ?_
          refine zj_goto (tgt := 52) E dX9_fixCodes_47 (by decide) ?_
          refine zj_lv [0, 1] rfl ?_
          exact wX9_fixCodes_52 E _ _ _ _ _ _ h K
      · refine zj_bipush (v := 9) E dX9_fixCodes_33 (by decide) ?_
        refine zj_goto (tgt := 52) E dX9_fixCodes_35 (by decide) ?_
        refine zj_lv [0, 1] rfl ?_
        exact wX9_fixCodes_52 E _ _ _ _ _ _ h K
    · refine zj_bipush (v := 8) E dX9_fixCodes_21 (by decide) ?_
      refine zj_goto (tgt := 52) E dX9_fixCodes_23 (by decide) ?_
      refine zj_lv [0, 1] rfl ?_
      exact wX9_fixCodes_52 E _ _ _ _ _ _ h K
def jX9_fixCodes_61 (Γ : zG) (l0 : Nat) : (Int32 × zS) → Prop := fun x => zJ Γ 2 0 0 x.2 61 [(0, .ref l0), (1, .int x.1)] []
def eX9_fixCodes_61 (Γ : zG) (l0 : Nat) : zS → Prop := fun b => zJ Γ 2 0 0 b 84 [(0, .ref l0)] []
def bX9_fixCodes_61 (l0 : Nat) (l1 : Int32) (σ : zS) : Option ((Int32 × zS) ⊕ zS) := (if (32 : Int32) ≤ l1 then some (.inr σ) else oGR σ 9 l0 6 (fun a2 => oSt σ 21 a2 ((288 : Int32) + l1) 5 (fun σ3 => oL (l1 + 1) (fun v2 => some (.inl (v2, σ3))))))
set_option maxRecDepth 100000 in
theorem wX9_fixCodes_L61 {Γ : zG} (E : zE Γ cX9_fixCodes RX9 2 { frames := 2, cells := 0, slots := 0, locals := 49 }) (l0 : Nat) : ∀ x R, (fun x => bX9_fixCodes_61 l0 x.1 x.2) x = some R → Sum.elim (jX9_fixCodes_61 Γ l0) (eX9_fixCodes_61 Γ l0) R → jX9_fixCodes_61 Γ l0 x := by
  intro x R h K
  obtain ⟨l1, σ⟩ := x
  have h : bX9_fixCodes_61 l0 l1 σ = some R := h
  show zJ Γ 2 0 0 σ 61 [(0, .ref l0), (1, .int l1)] []
  unfold bX9_fixCodes_61 at h
  refine zj_iload_n E dX9_fixCodes_61 rfl 1 rfl ?_
  refine zj_bipush (v := 32) E dX9_fixCodes_62 (by decide) ?_
  refine zj_icmp_ge (tgt := 84) E dX9_fixCodes_64 (by decide) h (fun h => ?_) (fun h => ?_)
  · have e9 := Option.some.inj h
    subst e9
    refine zj_lv [0] rfl ?_
    exact K
  · refine zj_aload_n E dX9_fixCodes_67 rfl 0 rfl ?_
    refine zs_getR E zc8 6 (by decide) zw_4_7 rfl dX9_fixCodes_68 h (fun a2 h => ?_)
    refine zj_sipush (v := 288) E dX9_fixCodes_71 (by decide) ?_
    refine zj_iload_n E dX9_fixCodes_74 rfl 1 rfl ?_
    refine zj_iadd E dX9_fixCodes_75 ?_
    refine zj_iconst (v := 5) E dX9_fixCodes_76 (by decide) ?_
    refine zs_iast E dX9_fixCodes_77 h (fun σ3 h => ?_)
    refine zs_iinc (lv2 := fun v2 => [(1, .int v2), (0, .ref l0)]) E dX9_fixCodes_78 1 rfl (by decide) (by decide) (fun _ => rfl) h (fun v2 h => ?_)
    refine zj_goto (tgt := 61) E dX9_fixCodes_81 (by decide) ?_
    have e9 := Option.some.inj h
    subst e9
    refine zj_lv [1, 0] rfl ?_
    exact K
def fX9_fixCodes (σ : zS) (p0 : Nat) : Option zS := oB (zloop zF (fun x => bX9_fixCodes_2 p0 x.1 x.2) (0, σ)) (fun b1 => (fun σ2 => oB (zloop zF (fun x => bX9_fixCodes_61 p0 x.1 x.2) (0, σ2)) (fun b2 => (fun σ4 => oGR σ4 9 p0 4 (fun a3 => oGR σ4 9 p0 6 (fun a4 => oA (zk σ4 a3 = 3) (oC (fX2_build σ4 a3 a4 0 288) (fun x1 σ5 => oGR σ5 9 p0 5 (fun a5 => oGR σ5 9 p0 6 (fun a6 => oA (zk σ5 a5 = 3) (oC (fX2_build σ5 a5 a6 288 32) (fun x2 σ6 => some σ6))))))))) b2)) b1)
set_option maxRecDepth 100000 in
theorem wX9_fixCodes {Γ : zG} (E : zE Γ cX9_fixCodes RX9 2 { frames := 2, cells := 0, slots := 0, locals := 49 }) (σ : zS) (p0 : Nat) {R : zS} (h : fX9_fixCodes σ p0 = some R) (K : zRet Γ cX9_fixCodes 2 0 0 (none) R) : zJ Γ 2 0 0 σ 0 [(0, .ref p0)] [] := by
  unfold fX9_fixCodes at h
  refine zj_iconst (v := 0) E dX9_fixCodes_0 (by decide) ?_
  refine zj_istore_n (lv2 := [(1, .int 0), (0, .ref p0)]) E dX9_fixCodes_1 rfl (by decide) rfl ?_
  obtain ⟨b1, hb1, h⟩ := oB_some h
  refine zj_lv [1, 0] rfl ?_
  refine zj_loop (wX9_fixCodes_L2 E p0) zF (0, σ) b1 hb1 ?_
  obtain ⟨σ2, rfl⟩ : ∃ z, z = b1 := ⟨_, rfl⟩
  try dsimp only at h
  show zJ Γ 2 0 0 σ2 59 [(0, .ref p0)] []
  refine zj_iconst (v := 0) E dX9_fixCodes_59 (by decide) ?_
  refine zj_istore_n (lv2 := [(1, .int 0), (0, .ref p0)]) E dX9_fixCodes_60 rfl (by decide) rfl ?_
  obtain ⟨b2, hb2, h⟩ := oB_some h
  refine zj_lv [1, 0] rfl ?_
  refine zj_loop (wX9_fixCodes_L61 E p0) zF (0, σ2) b2 hb2 ?_
  obtain ⟨σ4, rfl⟩ : ∃ z, z = b2 := ⟨_, rfl⟩
  try dsimp only at h
  show zJ Γ 2 0 0 σ4 84 [(0, .ref p0)] []
  refine zj_aload_n E dX9_fixCodes_84 rfl 0 rfl ?_
  refine zs_getR E zc8 4 (by decide) zw_4_5 rfl dX9_fixCodes_85 h (fun a3 h => ?_)
  refine zj_aload_n E dX9_fixCodes_88 rfl 0 rfl ?_
  refine zs_getR E zc8 6 (by decide) zw_4_7 rfl dX9_fixCodes_89 h (fun a4 h => ?_)
  refine zj_iconst (v := 0) E dX9_fixCodes_92 (by decide) ?_
  refine zj_sipush (v := 288) E dX9_fixCodes_93 (by decide) ?_
  obtain ⟨hk, h⟩ := oA_some h
  obtain ⟨x1, σ5, hc, h⟩ := oC_some h
  refine zs_callV (As := [.ref a4, .int 0, .int 288]) (rest := []) E zc2 zyX2_build zw_11_9 (kX2_build _ _ _ _ _ hc) rfl rfl hk rfl ⟨by decide, by decide⟩ ⟨by decide, by decide⟩ (Nat.le_of_ble_eq_true rfl) dX9_fixCodes_96 rfl (show zJ Γ 2 0 0 σ5 99 [(0, .ref p0)] [.int x1] from ?_)
  refine zj_pop E dX9_fixCodes_99 rfl ?_
  refine zj_aload_n E dX9_fixCodes_100 rfl 0 rfl ?_
  refine zs_getR E zc8 5 (by decide) zw_4_6 rfl dX9_fixCodes_101 h (fun a5 h => ?_)
  refine zj_aload_n E dX9_fixCodes_104 rfl 0 rfl ?_
  refine zs_getR E zc8 6 (by decide) zw_4_7 rfl dX9_fixCodes_105 h (fun a6 h => ?_)
  refine zj_sipush (v := 288) E dX9_fixCodes_108 (by decide) ?_
  refine zj_bipush (v := 32) E dX9_fixCodes_111 (by decide) ?_
  obtain ⟨hk, h⟩ := oA_some h
  obtain ⟨x2, σ6, hc, h⟩ := oC_some h
  refine zs_callV (As := [.ref a6, .int 288, .int 32]) (rest := []) E zc2 zyX2_build zw_11_9 (kX2_build _ _ _ _ _ hc) rfl rfl hk rfl ⟨by decide, by decide⟩ ⟨by decide, by decide⟩ (Nat.le_of_ble_eq_true rfl) dX9_fixCodes_113 rfl (show zJ Γ 2 0 0 σ6 116 [(0, .ref p0)] [.int x2] from ?_)
  refine zj_pop E dX9_fixCodes_116 rfl ?_
  have e9 := Option.some.inj h
  subst e9
  exact (show zRet Γ cX9_fixCodes 2 0 0 (none) σ6 from K) _ _ dX9_fixCodes_117
set_option maxRecDepth 100000 in
theorem kX9_fixCodes (l : Launch) (D : va_G) (cs : zCs) (z0 : Nat) (σ : zS) {p0 : Nat}  {σ' : zS} (h : fX9_fixCodes σ p0 = some σ') : zM l D cs z0 yX9_fixCodes cX9_fixCodes 2 none { frames := 2, cells := 0, slots := 0, locals := 49 } [.ref p0] σ none σ' 0 0 := by
  exact zM_of (by decide) rfl rfl (Nat.le_of_ble_eq_true rfl) rfl (fun Γ e1 e2 e3 e4 E _ K => wX9_fixCodes E σ _ h K)
/-! X9_takeTellers -/
def jX9_takeTellers_76 (Γ : zG) (l0 : Nat) (l2 : Int32) : (Int32 × zS) → Prop := fun x => zJ Γ 5 0 0 x.2 76 [(0, .ref l0), (2, .int l2), (3, .int x.1)] []
def eX9_takeTellers_76 (Γ : zG) (l0 : Nat) (l2 : Int32) : (zS ⊕ (Int32 × zS)) → Prop := Sum.elim (fun b => zJ Γ 5 0 0 b 116 [(0, .ref l0)] []) (fun r => zRet Γ cX9_takeTellers 5 0 0 (some (.int r.1)) r.2)
def bX9_takeTellers_76 (l0 : Nat) (l2 : Int32) (l3 : Int32) (σ : zS) : Option ((Int32 × zS) ⊕ (zS ⊕ (Int32 × zS))) := (if l2 ≤ l3 then some (.inr (.inl σ)) else oGR σ 9 l0 2 (fun a3 => oA (zk σ a3 = 1) (oC (fX0_take σ a3 3) (fun x4 σ5 => (if 0 ≤ x4 then oGR σ5 9 l0 6 (fun a4 => oLt zt0 l3 (fun x5 => oSt σ5 21 a4 x5 x4 (fun σ6 => oL (l3 + 1) (fun v2 => some (.inl (v2, σ6)))))) else some (.inr (.inr (0, σ5))))))))
set_option maxRecDepth 100000 in
theorem wX9_takeTellers_L76 {Γ : zG} (E : zE Γ cX9_takeTellers RX9 5 { frames := 2, cells := 0, slots := 0, locals := 49 }) (l0 : Nat) (l2 : Int32) : ∀ x R, (fun x => bX9_takeTellers_76 l0 l2 x.1 x.2) x = some R → Sum.elim (jX9_takeTellers_76 Γ l0 l2) (eX9_takeTellers_76 Γ l0 l2) R → jX9_takeTellers_76 Γ l0 l2 x := by
  intro x R h K
  obtain ⟨l3, σ⟩ := x
  have h : bX9_takeTellers_76 l0 l2 l3 σ = some R := h
  show zJ Γ 5 0 0 σ 76 [(0, .ref l0), (2, .int l2), (3, .int l3)] []
  unfold bX9_takeTellers_76 at h
  refine zj_iload_n E dX9_takeTellers_76 rfl 2 rfl ?_
  refine zj_iload_n E dX9_takeTellers_77 rfl 1 rfl ?_
  refine zj_icmp_ge (tgt := 116) E dX9_takeTellers_78 (by decide) h (fun h => ?_) (fun h => ?_)
  · have e9 := Option.some.inj h
    subst e9
    refine zj_lv [0] rfl ?_
    exact K
  · refine zj_aload_n E dX9_takeTellers_81 rfl 0 rfl ?_
    refine zs_getR E zc8 2 (by decide) zw_4_0 rfl dX9_takeTellers_82 h (fun a3 h => ?_)
    refine zj_iconst (v := 3) E dX9_takeTellers_85 (by decide) ?_
    obtain ⟨hk, h⟩ := oA_some h
    obtain ⟨x4, σ5, hc, h⟩ := oC_some h
    refine zs_callV (As := [.int 3]) (rest := []) E zc0 zyX0_take zw_10_5 (kX0_take _ _ _ _ _ hc) rfl rfl hk rfl ⟨by decide, by decide⟩ ⟨by decide, by decide⟩ (Nat.le_of_ble_eq_true rfl) dX9_takeTellers_86 rfl (show zJ Γ 5 0 0 σ5 89 [(0, .ref l0), (2, .int l2), (3, .int l3)] [.int x4] from ?_)
    refine zj_istore (lv2 := [(4, .int x4), (0, .ref l0), (2, .int l2), (3, .int l3)]) E dX9_takeTellers_89 (by decide) rfl ?_
    refine zj_iload E dX9_takeTellers_91 0 rfl ?_
    refine zj_if_ge (tgt := 98) E dX9_takeTellers_93 (by decide) h (fun h => ?_) (fun h => ?_)
    · refine zj_aload_n E dX9_takeTellers_98 rfl 1 rfl ?_
      refine zs_getR E zc8 6 (by decide) zw_4_7 rfl dX9_takeTellers_99 h (fun a4 h => ?_)
      refine zs_tab (nm := "TELLER_ORDER") (l := zt0) E (by decide) zw_12_0 dX9_takeTellers_102 (fun t1 ht1 => ?_)
      refine zj_iload_n E dX9_takeTellers_105 rfl 3 rfl ?_
      refine zs_tld E ht1 dX9_takeTellers_106 h (fun x5 h => ?_)
      refine zj_iload E dX9_takeTellers_107 0 rfl ?_
      refine zs_iast E dX9_takeTellers_109 h (fun σ6 h => ?_)
      refine zs_iinc (lv2 := fun v2 => [(3, .int v2), (4, .int x4), (0, .ref l0), (2, .int l2)]) E dX9_takeTellers_110 3 rfl (by decide) (by decide) (fun _ => rfl) h (fun v2 h => ?_)
      refine zj_goto (tgt := 76) E dX9_takeTellers_113 (by decide) ?_
      have e9 := Option.some.inj h
      subst e9
      refine zj_lv [2, 3, 0] rfl ?_
      exact K
    · refine zj_iconst (v := 0) E dX9_takeTellers_96 (by decide) ?_
      have e9 := Option.some.inj h
      subst e9
      exact (show zRet Γ cX9_takeTellers 5 0 0 (some (.int 0)) σ5 from K) _ _ dX9_takeTellers_97
def gX9_takeTellers (σ : zS) (p0 : Nat) : Option (Int32 × zS) := oGR σ 9 p0 2 (fun a1 => oA (zk σ a1 = 1) (oC (fX0_take σ a1 14) (fun x1 σ1 => oPI σ1 9 p0 7 ((x1 &&& (31 : Int32)) + (257 : Int32)) (fun σ2 => oPI σ2 9 p0 8 (((x1 >>> ((5 : Int32) &&& 31)) &&& (31 : Int32)) + (1 : Int32)) (fun σ3 => (if x1 < 0 then some (0, σ3) else oGI σ3 9 p0 7 (fun x2 => (if (286 : Int32) < x2 then some (0, σ3) else oGI σ3 9 p0 8 (fun x3 => (if x3 ≤ (30 : Int32) then oL ((x1 >>> ((10 : Int32) &&& 31)) + (4 : Int32)) (fun v1 => oGR σ3 9 p0 6 (fun a2 => oB (fJ7_fill_53178 σ3 a2 0) (fun σ4 => oB (zloop zF (fun x => bX9_takeTellers_76 p0 v1 x.1 x.2) (0, σ4)) (fun b1 => oS b1 (fun c1 => (fun σ7 => oGR σ7 9 p0 3 (fun a5 => oGR σ7 9 p0 6 (fun a6 => oA (zk σ7 a5 = 3) (oC (fX2_build σ7 a5 a6 0 19) (fun x6 σ8 => (if x6 = 0 then some (1, σ8) else some (0, σ8))))))) c1) (fun r1 => some r1))))) else some (0, σ3)))))))))))
def fX9_takeTellers (σ : zS) (p0 : Nat) : Option (Int32 × zS) := oC (gX9_takeTellers σ p0) (fun r s => oA (r = 0 ∨ r = 1) (some (r, s)))
set_option maxRecDepth 100000 in
theorem wX9_takeTellers {Γ : zG} (E : zE Γ cX9_takeTellers RX9 5 { frames := 2, cells := 0, slots := 0, locals := 49 }) (σ : zS) (p0 : Nat) {R : (Int32 × zS)} (h : gX9_takeTellers σ p0 = some R) (K : zRet Γ cX9_takeTellers 5 0 0 (some (.int R.1)) R.2) : zJ Γ 5 0 0 σ 0 [(0, .ref p0)] [] := by
  unfold gX9_takeTellers at h
  refine zj_aload_n E dX9_takeTellers_0 rfl 0 rfl ?_
  refine zs_getR E zc8 2 (by decide) zw_4_0 rfl dX9_takeTellers_1 h (fun a1 h => ?_)
  refine zj_bipush (v := 14) E dX9_takeTellers_4 (by decide) ?_
  obtain ⟨hk, h⟩ := oA_some h
  obtain ⟨x1, σ1, hc, h⟩ := oC_some h
  refine zs_callV (As := [.int 14]) (rest := []) E zc0 zyX0_take zw_10_5 (kX0_take _ _ _ _ _ hc) rfl rfl hk rfl ⟨by decide, by decide⟩ ⟨by decide, by decide⟩ (Nat.le_of_ble_eq_true rfl) dX9_takeTellers_6 rfl (show zJ Γ 5 0 0 σ1 9 [(0, .ref p0)] [.int x1] from ?_)
  refine zj_istore_n (lv2 := [(1, .int x1), (0, .ref p0)]) E dX9_takeTellers_9 rfl (by decide) rfl ?_
  refine zj_aload_n E dX9_takeTellers_10 rfl 1 rfl ?_
  refine zj_iload_n E dX9_takeTellers_11 rfl 0 rfl ?_
  refine zj_bipush (v := 31) E dX9_takeTellers_12 (by decide) ?_
  refine zj_iand E dX9_takeTellers_14 ?_
  refine zj_sipush (v := 257) E dX9_takeTellers_15 (by decide) ?_
  refine zj_iadd E dX9_takeTellers_18 ?_
  refine zs_putI E zc8 7 (by decide) zw_11_22 rfl rfl dX9_takeTellers_19 h (fun σ2 h => ?_)
  refine zj_aload_n E dX9_takeTellers_22 rfl 1 rfl ?_
  refine zj_iload_n E dX9_takeTellers_23 rfl 0 rfl ?_
  refine zj_iconst (v := 5) E dX9_takeTellers_24 (by decide) ?_
  refine zj_ishr E dX9_takeTellers_25 ?_
  refine zj_bipush (v := 31) E dX9_takeTellers_26 (by decide) ?_
  refine zj_iand E dX9_takeTellers_28 ?_
  refine zj_iconst (v := 1) E dX9_takeTellers_29 (by decide) ?_
  refine zj_iadd E dX9_takeTellers_30 ?_
  refine zs_putI E zc8 8 (by decide) zw_11_23 rfl rfl dX9_takeTellers_31 h (fun σ3 h => ?_)
  refine zj_iload_n E dX9_takeTellers_34 rfl 0 rfl ?_
  refine zj_if_lt (tgt := 57) E dX9_takeTellers_35 (by decide) h (fun h => ?_) (fun h => ?_)
  · refine zj_iconst (v := 0) E dX9_takeTellers_57 (by decide) ?_
    have e9 := Option.some.inj h
    subst e9
    exact (show zRet Γ cX9_takeTellers 5 0 0 (some (.int 0)) σ3 from K) _ _ dX9_takeTellers_58
  · refine zj_aload_n E dX9_takeTellers_38 rfl 1 rfl ?_
    refine zs_getI E zc8 7 (by decide) zw_11_22 rfl dX9_takeTellers_39 h (fun x2 h => ?_)
    refine zj_sipush (v := 286) E dX9_takeTellers_42 (by decide) ?_
    refine zj_icmp_gt (tgt := 57) E dX9_takeTellers_45 (by decide) h (fun h => ?_) (fun h => ?_)
    · refine zj_iconst (v := 0) E dX9_takeTellers_57 (by decide) ?_
      have e9 := Option.some.inj h
      subst e9
      exact (show zRet Γ cX9_takeTellers 5 0 0 (some (.int 0)) σ3 from K) _ _ dX9_takeTellers_58
    · refine zj_aload_n E dX9_takeTellers_48 rfl 1 rfl ?_
      refine zs_getI E zc8 8 (by decide) zw_11_23 rfl dX9_takeTellers_49 h (fun x3 h => ?_)
      refine zj_bipush (v := 30) E dX9_takeTellers_52 (by decide) ?_
      refine zj_icmp_le (tgt := 59) E dX9_takeTellers_54 (by decide) h (fun h => ?_) (fun h => ?_)
      · refine zj_iload_n E dX9_takeTellers_59 rfl 0 rfl ?_
        refine zj_bipush (v := 10) E dX9_takeTellers_60 (by decide) ?_
        refine zj_ishr E dX9_takeTellers_62 ?_
        refine zj_iconst (v := 4) E dX9_takeTellers_63 (by decide) ?_
        refine zj_iadd E dX9_takeTellers_64 ?_
        refine zs_istore_n (lv2 := fun v1 => [(2, .int v1), (1, .int x1), (0, .ref p0)]) E dX9_takeTellers_65 rfl (by decide) (fun _ => rfl) h (fun v1 h => ?_)
        refine zj_aload_n E dX9_takeTellers_66 rfl 2 rfl ?_
        refine zs_getR E zc8 6 (by decide) zw_4_7 rfl dX9_takeTellers_67 h (fun a2 h => ?_)
        refine zj_iconst (v := 0) E dX9_takeTellers_70 (by decide) ?_
        obtain ⟨σ4, hc, h⟩ := oB_some h
        refine zs_callS (As := [.ref a2, .int 0]) (rest := []) E zyJ7_fill_53178 zw_12_1 (kJ7_fill_53178 _ _ _ _ _ hc) rfl rfl rfl ⟨by decide, by decide⟩ ⟨by decide, by decide⟩ (Nat.le_of_ble_eq_true rfl) dX9_takeTellers_71 rfl (show zJ Γ 5 0 0 σ4 74 [(2, .int v1), (1, .int x1), (0, .ref p0)] [] from ?_)
        refine zj_iconst (v := 0) E dX9_takeTellers_74 (by decide) ?_
        refine zj_istore_n (lv2 := [(3, .int 0), (2, .int v1), (1, .int x1), (0, .ref p0)]) E dX9_takeTellers_75 rfl (by decide) rfl ?_
        obtain ⟨b1, hb1, h⟩ := oB_some h
        refine zj_lv [3, 1, 0] rfl ?_
        refine zj_loop (wX9_takeTellers_L76 E p0 v1) zF (0, σ4) b1 hb1 ?_
        cases b1 with
        | inr r1 =>
          have e9 := Option.some.inj h
          subst e9
          exact K
        | inl c1 =>
          obtain ⟨σ7, rfl⟩ : ∃ z, z = c1 := ⟨_, rfl⟩
          dsimp only [oS] at h
          show zJ Γ 5 0 0 σ7 116 [(0, .ref p0)] []
          refine zj_aload_n E dX9_takeTellers_116 rfl 0 rfl ?_
          refine zs_getR E zc8 3 (by decide) zw_4_4 rfl dX9_takeTellers_117 h (fun a5 h => ?_)
          refine zj_aload_n E dX9_takeTellers_120 rfl 0 rfl ?_
          refine zs_getR E zc8 6 (by decide) zw_4_7 rfl dX9_takeTellers_121 h (fun a6 h => ?_)
          refine zj_iconst (v := 0) E dX9_takeTellers_124 (by decide) ?_
          refine zs_tab (nm := "TELLER_ORDER") (l := zt0) E (by decide) zw_12_0 dX9_takeTellers_125 (fun t2 ht2 => ?_)
          refine zs_tln (v := 19) E ht2 (by decide) dX9_takeTellers_128 ?_
          obtain ⟨hk, h⟩ := oA_some h
          obtain ⟨x6, σ8, hc, h⟩ := oC_some h
          refine zs_callV (As := [.ref a6, .int 0, .int 19]) (rest := []) E zc2 zyX2_build zw_11_9 (kX2_build _ _ _ _ _ hc) rfl rfl hk rfl ⟨by decide, by decide⟩ ⟨by decide, by decide⟩ (Nat.le_of_ble_eq_true rfl) dX9_takeTellers_129 rfl (show zJ Γ 5 0 0 σ8 132 [(0, .ref p0)] [.int x6] from ?_)
          refine zj_if_ne (tgt := 139) E dX9_takeTellers_132 (by decide) h (fun h => ?_) (fun h => ?_)
          · refine zj_iconst (v := 0) E dX9_takeTellers_139 (by decide) ?_
            have e9 := Option.some.inj h
            subst e9
            exact (show zRet Γ cX9_takeTellers 5 0 0 (some (.int 0)) σ8 from K) _ _ dX9_takeTellers_140
          · refine zj_iconst (v := 1) E dX9_takeTellers_135 (by decide) ?_
            refine zj_goto (tgt := 140) E dX9_takeTellers_136 (by decide) ?_
            have e9 := Option.some.inj h
            subst e9
            exact (show zRet Γ cX9_takeTellers 5 0 0 (some (.int 1)) σ8 from K) _ _ dX9_takeTellers_140
      · refine zj_iconst (v := 0) E dX9_takeTellers_57 (by decide) ?_
        have e9 := Option.some.inj h
        subst e9
        exact (show zRet Γ cX9_takeTellers 5 0 0 (some (.int 0)) σ3 from K) _ _ dX9_takeTellers_58
set_option maxRecDepth 100000 in
theorem kX9_takeTellers (l : Launch) (D : va_G) (cs : zCs) (z0 : Nat) (σ : zS) {p0 : Nat} {r : Int32} {σ' : zS} (h : fX9_takeTellers σ p0 = some (r, σ')) : zM l D cs z0 yX9_takeTellers cX9_takeTellers 5 (some .boolean) { frames := 2, cells := 0, slots := 0, locals := 49 } [.ref p0] σ (some (.int r)) σ' 0 0 := by
  obtain ⟨r0, s0, h0, h⟩ := oC_some h
  obtain ⟨hz, h⟩ := oA_some h
  cases h
  exact zM_of (by decide) rfl (Or.inr ⟨rfl, hz⟩) (Nat.le_of_ble_eq_true rfl) rfl (fun Γ e1 e2 e3 e4 E _ K => wX9_takeTellers E σ _ h0 K)
