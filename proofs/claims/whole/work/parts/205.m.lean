/-! X4_takesFrameData -/
def fX4_takesFrameData_81 (σ : zS) (l0 : Nat) (l1 : Int32) : Option (Int32 × zS) := oGR σ 5 l0 2 (fun a1 => oGR σ 9 a1 0 (fun a2 => oGR σ 5 l0 0 (fun a3 => oGI σ 5 l0 6 (fun x6 => oGI σ 5 l0 6 (fun x7 => oA (zk σ a2 = 2) (oB (fX1_addPart σ a2 a3 ((x6 + (8 : Int32)) + (4 : Int32)) ((x7 + (8 : Int32)) + l1)) (fun σ2 => some (1, σ2))))))))
set_option maxRecDepth 100000 in
theorem wX4_takesFrameData_81 {Γ : zG} (E : zE Γ cX4_takesFrameData RX4 2 { frames := 2, cells := 0, slots := 0, locals := 45 }) (σ : zS) (l0 : Nat) (l1 : Int32) {R : (Int32 × zS)} (h : fX4_takesFrameData_81 σ l0 l1 = some R) (K : zRet Γ cX4_takesFrameData 2 0 0 (some (.int R.1)) R.2) : zJ Γ 2 0 0 σ 81 [(0, .ref l0), (1, .int l1)] [] := by
  unfold fX4_takesFrameData_81 at h
  refine zj_aload_n E dX4_takesFrameData_81 rfl 0 rfl ?_
  refine zs_getR E zc4 2 (by decide) zw_3_9 rfl dX4_takesFrameData_82 h (fun a1 h => ?_)
  refine zs_getRN E zc8 0 (by decide) (znf_11) rfl dX4_takesFrameData_85 h (fun a2 h => ?_)
  refine zj_aload_n E dX4_takesFrameData_88 rfl 0 rfl ?_
  refine zs_getR E zc4 0 (by decide) zw_3_13 rfl dX4_takesFrameData_89 h (fun a3 h => ?_)
  refine zj_aload_n E dX4_takesFrameData_92 rfl 0 rfl ?_
  refine zs_getI E zc4 6 (by decide) zw_8_12 rfl dX4_takesFrameData_93 h (fun x6 h => ?_)
  refine zj_bipush (v := 8) E dX4_takesFrameData_96 (by decide) ?_
  refine zj_iadd E dX4_takesFrameData_98 ?_
  refine zj_iconst (v := 4) E dX4_takesFrameData_99 (by decide) ?_
  refine zj_iadd E dX4_takesFrameData_100 ?_
  refine zj_aload_n E dX4_takesFrameData_101 rfl 0 rfl ?_
  refine zs_getI E zc4 6 (by decide) zw_8_12 rfl dX4_takesFrameData_102 h (fun x7 h => ?_)
  refine zj_bipush (v := 8) E dX4_takesFrameData_105 (by decide) ?_
  refine zj_iadd E dX4_takesFrameData_107 ?_
  refine zj_iload_n E dX4_takesFrameData_108 rfl 1 rfl ?_
  refine zj_iadd E dX4_takesFrameData_109 ?_
  obtain ⟨hk, h⟩ := oA_some h
  obtain ⟨σ2, hc, h⟩ := oB_some h
  refine zs_callV (As := [.ref a3, .int ((x6 + (8 : Int32)) + (4 : Int32)), .int ((x7 + (8 : Int32)) + l1)]) (rest := []) E zc1 zyX1_addPart zw_16_17 (kX1_addPart _ _ _ _ _ hc) rfl rfl hk rfl ⟨by decide, by decide⟩ ⟨by decide, by decide⟩ (Nat.le_of_ble_eq_true rfl) dX4_takesFrameData_110 rfl (show zJ Γ 2 0 0 σ2 113 [(0, .ref l0), (1, .int l1)] [] from ?_)
  refine zj_iconst (v := 1) E dX4_takesFrameData_113 (by decide) ?_
  have e9 := Option.some.inj h
  subst e9
  exact (show zRet Γ cX4_takesFrameData 2 0 0 (some (.int 1)) σ2 from K) _ _ dX4_takesFrameData_114
def fX4_takesFrameData_25 (σ : zS) (l0 : Nat) (l1 : Int32) : Option (Int32 × zS) := oGI σ 5 l0 6 (fun x3 => oA (zk σ l0 = 5) (oC (fX4_takesSerial σ l0 (x3 + (8 : Int32))) (fun x4 σ1 => (if x4 = 0 then some (0, σ1) else oGI σ1 5 l0 7 (fun x5 => (if x5 = (1717785676 : Int32) then oGR σ1 5 l0 3 (fun a4 => oGR σ1 6 a4 0 (fun a5 => oGR σ1 5 l0 3 (fun a6 => oGI σ1 6 a6 7 (fun x8 => oLr σ1 a5 (x8 - (1 : Int32)) (fun a7 => oPR σ1 5 l0 4 a7 (fun σ3 => oGR σ3 5 l0 2 (fun a8 => oGR σ3 9 a8 0 (fun a9 => oA (zk σ3 a9 = 2) (oB (fX1_clear σ3 a9) (fun σ4 => fX4_takesFrameData_81 σ4 l0 l1)))))))))) else fX4_takesFrameData_81 σ1 l0 l1))))))
set_option maxRecDepth 100000 in
theorem wX4_takesFrameData_25 {Γ : zG} (E : zE Γ cX4_takesFrameData RX4 2 { frames := 2, cells := 0, slots := 0, locals := 45 }) (σ : zS) (l0 : Nat) (l1 : Int32) {R : (Int32 × zS)} (h : fX4_takesFrameData_25 σ l0 l1 = some R) (K : zRet Γ cX4_takesFrameData 2 0 0 (some (.int R.1)) R.2) : zJ Γ 2 0 0 σ 25 [(0, .ref l0), (1, .int l1)] [] := by
  unfold fX4_takesFrameData_25 at h
  refine zj_aload_n E dX4_takesFrameData_25 rfl 0 rfl ?_
  refine zj_aload_n E dX4_takesFrameData_26 rfl 0 rfl ?_
  refine zs_getI E zc4 6 (by decide) zw_8_12 rfl dX4_takesFrameData_27 h (fun x3 h => ?_)
  refine zj_bipush (v := 8) E dX4_takesFrameData_30 (by decide) ?_
  refine zj_iadd E dX4_takesFrameData_32 ?_
  obtain ⟨hk, h⟩ := oA_some h
  obtain ⟨x4, σ1, hc, h⟩ := oC_some h
  refine zs_callV (As := [.int (x3 + (8 : Int32))]) (rest := []) E zc4 zyX4_takesSerial zw_15_16 (kX4_takesSerial _ _ _ _ _ hc) rfl rfl hk rfl ⟨by decide, by decide⟩ ⟨by decide, by decide⟩ (Nat.le_of_ble_eq_true rfl) dX4_takesFrameData_33 rfl (show zJ Γ 2 0 0 σ1 36 [(0, .ref l0), (1, .int l1)] [.int x4] from ?_)
  refine zj_if_ne (tgt := 41) E dX4_takesFrameData_36 (by decide) h (fun h => ?_) (fun h => ?_)
  · refine zj_aload_n E dX4_takesFrameData_41 rfl 0 rfl ?_
    refine zs_getI E zc4 7 (by decide) zw_8_8 rfl dX4_takesFrameData_42 h (fun x5 h => ?_)
    refine zj_ldc (v := 1717785676) E zw_14_18 dX4_takesFrameData_45 ?_
    refine zj_icmp_ne (tgt := 81) E dX4_takesFrameData_47 (by decide) h (fun h => ?_) (fun h => ?_)
    · refine zj_lv [0, 1] rfl ?_
      exact wX4_takesFrameData_81 E _ _ _ h K
    · refine zj_aload_n E dX4_takesFrameData_50 rfl 0 rfl ?_
      refine zj_aload_n E dX4_takesFrameData_51 rfl 0 rfl ?_
      refine zs_getR E zc4 3 (by decide) zw_3_11 rfl dX4_takesFrameData_52 h (fun a4 h => ?_)
      refine zs_getRN E zc5 0 (by decide) (znf_42) rfl dX4_takesFrameData_55 h (fun a5 h => ?_)
      refine zj_aload_n E dX4_takesFrameData_58 rfl 0 rfl ?_
      refine zs_getR E zc4 3 (by decide) zw_3_11 rfl dX4_takesFrameData_59 h (fun a6 h => ?_)
      refine zs_getIN E zc5 7 (by decide) (znf_58) rfl dX4_takesFrameData_62 h (fun x8 h => ?_)
      refine zj_iconst (v := 1) E dX4_takesFrameData_65 (by decide) ?_
      refine zj_isub E dX4_takesFrameData_66 ?_
      refine zs_aald E dX4_takesFrameData_67 h (fun a7 h => ?_)
      refine zs_putR E zc4 4 (by decide) zw_3_12 rfl rfl dX4_takesFrameData_68 h (fun σ3 h => ?_)
      refine zj_aload_n E dX4_takesFrameData_71 rfl 0 rfl ?_
      refine zs_getR E zc4 2 (by decide) zw_3_9 rfl dX4_takesFrameData_72 h (fun a8 h => ?_)
      refine zs_getRN E zc8 0 (by decide) (znf_11) rfl dX4_takesFrameData_75 h (fun a9 h => ?_)
      obtain ⟨hk, h⟩ := oA_some h
      obtain ⟨σ4, hc, h⟩ := oB_some h
      refine zs_callV (As := []) (rest := []) E zc1 zyX1_clear zw_16_16 (kX1_clear _ _ _ _ _ hc) rfl rfl hk rfl ⟨by decide, by decide⟩ ⟨by decide, by decide⟩ (Nat.le_of_ble_eq_true rfl) dX4_takesFrameData_78 rfl (show zJ Γ 2 0 0 σ4 81 [(0, .ref l0), (1, .int l1)] [] from ?_)
      refine zj_lv [0, 1] rfl ?_
      exact wX4_takesFrameData_81 E _ _ _ h K
  · refine zj_iconst (v := 0) E dX4_takesFrameData_39 (by decide) ?_
    have e9 := Option.some.inj h
    subst e9
    exact (show zRet Γ cX4_takesFrameData 2 0 0 (some (.int 0)) σ1 from K) _ _ dX4_takesFrameData_40
def gX4_takesFrameData (σ : zS) (p0 : Nat) (p1 : Int32) : Option (Int32 × zS) := oGI σ 5 p0 10 (fun x1 => (if x1 = 0 then some (0, σ) else oGI σ 5 p0 7 (fun x2 => (if x2 = (1717785676 : Int32) then fX4_takesFrameData_25 σ p0 p1 else oGI σ 5 p0 7 (fun x9 => (if x9 = (1717846356 : Int32) then fX4_takesFrameData_25 σ p0 p1 else some (0, σ)))))))
def fX4_takesFrameData (σ : zS) (p0 : Nat) (p1 : Int32) : Option (Int32 × zS) := oC (gX4_takesFrameData σ p0 p1) (fun r s => oA (r = 0 ∨ r = 1) (some (r, s)))
set_option maxRecDepth 100000 in
theorem wX4_takesFrameData {Γ : zG} (E : zE Γ cX4_takesFrameData RX4 2 { frames := 2, cells := 0, slots := 0, locals := 45 }) (σ : zS) (p0 : Nat) (p1 : Int32) {R : (Int32 × zS)} (h : gX4_takesFrameData σ p0 p1 = some R) (K : zRet Γ cX4_takesFrameData 2 0 0 (some (.int R.1)) R.2) : zJ Γ 2 0 0 σ 0 [(0, .ref p0), (1, .int p1)] [] := by
  unfold gX4_takesFrameData at h
  refine zj_aload_n E dX4_takesFrameData_0 rfl 0 rfl ?_
  refine zs_getI E zc4 10 (by decide) zw_8_11 rfl dX4_takesFrameData_1 h (fun x1 h => ?_)
  refine zj_if_eq (tgt := 39) E dX4_takesFrameData_4 (by decide) h (fun h => ?_) (fun h => ?_)
  · refine zj_iconst (v := 0) E dX4_takesFrameData_39 (by decide) ?_
    have e9 := Option.some.inj h
    subst e9
    exact (show zRet Γ cX4_takesFrameData 2 0 0 (some (.int 0)) σ from K) _ _ dX4_takesFrameData_40
  · refine zj_aload_n E dX4_takesFrameData_7 rfl 0 rfl ?_
    refine zs_getI E zc4 7 (by decide) zw_8_8 rfl dX4_takesFrameData_8 h (fun x2 h => ?_)
    refine zj_ldc (v := 1717785676) E zw_14_18 dX4_takesFrameData_11 ?_
    refine zj_icmp_eq (tgt := 25) E dX4_takesFrameData_13 (by decide) h (fun h => ?_) (fun h => ?_)
    · refine zj_lv [0, 1] rfl ?_
      exact wX4_takesFrameData_25 E _ _ _ h K
    · refine zj_aload_n E dX4_takesFrameData_16 rfl 0 rfl ?_
      refine zs_getI E zc4 7 (by decide) zw_8_8 rfl dX4_takesFrameData_17 h (fun x9 h => ?_)
      refine zj_ldc (v := 1717846356) E zw_9_6 dX4_takesFrameData_20 ?_
      refine zj_icmp_ne (tgt := 39) E dX4_takesFrameData_22 (by decide) h (fun h => ?_) (fun h => ?_)
      · refine zj_iconst (v := 0) E dX4_takesFrameData_39 (by decide) ?_
        have e9 := Option.some.inj h
        subst e9
        exact (show zRet Γ cX4_takesFrameData 2 0 0 (some (.int 0)) σ from K) _ _ dX4_takesFrameData_40
      · refine zj_lv [0, 1] rfl ?_
        exact wX4_takesFrameData_25 E _ _ _ h K
set_option maxRecDepth 100000 in
theorem kX4_takesFrameData (l : Launch) (D : va_G) (cs : zCs) (z0 : Nat) (σ : zS) {p0 : Nat} {p1 : Int32} {r : Int32} {σ' : zS} (h : fX4_takesFrameData σ p0 p1 = some (r, σ')) : zM l D cs z0 yX4_takesFrameData cX4_takesFrameData 2 (some .boolean) { frames := 2, cells := 0, slots := 0, locals := 45 } [.ref p0, .int p1] σ (some (.int r)) σ' 0 0 := by
  obtain ⟨r0, s0, h0, h⟩ := oC_some h
  obtain ⟨hz, h⟩ := oA_some h
  cases h
  exact zM_of (by decide) rfl (Or.inr ⟨rfl, hz⟩) (Nat.le_of_ble_eq_true rfl) rfl (fun Γ e1 e2 e3 e4 E hN K => wX4_takesFrameData E σ _ _ h0 K)
/-! X4_mayBeLeftOut -/
def jX4_mayBeLeftOut_21 (Γ : zG) (σ : zS) (l0 : Nat) (l1 : Int32) : (Int32 × Int32) → Prop := fun x => zJ Γ 5 0 0 σ 21 [(0, .ref l0), (1, .int l1), (2, .int x.1), (3, .int x.2)] []
def eX4_mayBeLeftOut_21 (Γ : zG) (σ : zS) (l0 : Nat) (l1 : Int32) : Int32 → Prop := fun b => zJ Γ 5 0 0 σ 82 [(2, .int b)] []
def fX4_mayBeLeftOut_75 (σ : zS) (l0 : Nat) (l1 : Int32) (l3 : Int32) (s0 : Int32) : Option ((Int32 × Int32) ⊕ Int32) := oL (l3 + 1) (fun v1 => some (.inl (s0, v1)))
set_option maxRecDepth 100000 in
theorem wX4_mayBeLeftOut_75 {Γ : zG} (E : zE Γ cX4_mayBeLeftOut RX4 5 { frames := 1, cells := 0, slots := 0, locals := 21 }) (σ : zS) (l0 : Nat) (l1 : Int32) (l3 : Int32) (s0 : Int32) {R : ((Int32 × Int32) ⊕ Int32)} (h : fX4_mayBeLeftOut_75 σ l0 l1 l3 s0 = some R) (K : Sum.elim (jX4_mayBeLeftOut_21 Γ σ l0 l1) (eX4_mayBeLeftOut_21 Γ σ l0 l1) R) : zJ Γ 5 0 0 σ 75 [(0, .ref l0), (1, .int l1), (3, .int l3)] [.int s0] := by
  unfold fX4_mayBeLeftOut_75 at h
  refine zj_istore_n (lv2 := [(2, .int s0), (0, .ref l0), (1, .int l1), (3, .int l3)]) E dX4_mayBeLeftOut_75 rfl (by decide) rfl ?_
  refine zs_iinc (lv2 := fun v1 => [(3, .int v1), (2, .int s0), (0, .ref l0), (1, .int l1)]) E dX4_mayBeLeftOut_76 3 rfl (by decide) (by decide) (fun _ => rfl) h (fun v1 h => ?_)
  refine zj_goto (tgt := 21) E dX4_mayBeLeftOut_79 (by decide) ?_
  have e9 := Option.some.inj h
  subst e9
  refine zj_lv [2, 3, 1, 0] rfl ?_
  exact K
def fX4_mayBeLeftOut_74 (σ : zS) (l0 : Nat) (l1 : Int32) (l3 : Int32) : Option ((Int32 × Int32) ⊕ Int32) := fX4_mayBeLeftOut_75 σ l0 l1 l3 0
set_option maxRecDepth 100000 in
theorem wX4_mayBeLeftOut_74 {Γ : zG} (E : zE Γ cX4_mayBeLeftOut RX4 5 { frames := 1, cells := 0, slots := 0, locals := 21 }) (σ : zS) (l0 : Nat) (l1 : Int32) (l3 : Int32) {R : ((Int32 × Int32) ⊕ Int32)} (h : fX4_mayBeLeftOut_74 σ l0 l1 l3 = some R) (K : Sum.elim (jX4_mayBeLeftOut_21 Γ σ l0 l1) (eX4_mayBeLeftOut_21 Γ σ l0 l1) R) : zJ Γ 5 0 0 σ 74 [(0, .ref l0), (1, .int l1), (3, .int l3)] [] := by
  unfold fX4_mayBeLeftOut_74 at h
  refine zj_iconst (v := 0) E dX4_mayBeLeftOut_74 (by decide) ?_
  refine zj_lv [0, 1, 2] rfl ?_
  exact wX4_mayBeLeftOut_75 E _ _ _ _ _ h K
def fX4_mayBeLeftOut_70 (σ : zS) (l0 : Nat) (l1 : Int32) (l3 : Int32) : Option ((Int32 × Int32) ⊕ Int32) := fX4_mayBeLeftOut_75 σ l0 l1 l3 1
set_option maxRecDepth 100000 in
theorem wX4_mayBeLeftOut_70 {Γ : zG} (E : zE Γ cX4_mayBeLeftOut RX4 5 { frames := 1, cells := 0, slots := 0, locals := 21 }) (σ : zS) (l0 : Nat) (l1 : Int32) (l3 : Int32) {R : ((Int32 × Int32) ⊕ Int32)} (h : fX4_mayBeLeftOut_70 σ l0 l1 l3 = some R) (K : Sum.elim (jX4_mayBeLeftOut_21 Γ σ l0 l1) (eX4_mayBeLeftOut_21 Γ σ l0 l1) R) : zJ Γ 5 0 0 σ 70 [(0, .ref l0), (1, .int l1), (3, .int l3)] [] := by
  unfold fX4_mayBeLeftOut_70 at h
  refine zj_iconst (v := 1) E dX4_mayBeLeftOut_70 (by decide) ?_
  refine zj_goto (tgt := 75) E dX4_mayBeLeftOut_71 (by decide) ?_
  refine zj_lv [0, 1, 2] rfl ?_
  exact wX4_mayBeLeftOut_75 E _ _ _ _ _ h K
def fX4_mayBeLeftOut_56 (σ : zS) (l0 : Nat) (l1 : Int32) (l3 : Int32) (l4 : Int32) : Option ((Int32 × Int32) ⊕ Int32) := (if l4 < (97 : Int32) then fX4_mayBeLeftOut_74 σ l0 l1 l3 else (if (122 : Int32) < l4 then fX4_mayBeLeftOut_74 σ l0 l1 l3 else fX4_mayBeLeftOut_70 σ l0 l1 l3))
set_option maxRecDepth 100000 in
theorem wX4_mayBeLeftOut_56 {Γ : zG} (E : zE Γ cX4_mayBeLeftOut RX4 5 { frames := 1, cells := 0, slots := 0, locals := 21 }) (σ : zS) (l0 : Nat) (l1 : Int32) (l3 : Int32) (l4 : Int32) {R : ((Int32 × Int32) ⊕ Int32)} (h : fX4_mayBeLeftOut_56 σ l0 l1 l3 l4 = some R) (K : Sum.elim (jX4_mayBeLeftOut_21 Γ σ l0 l1) (eX4_mayBeLeftOut_21 Γ σ l0 l1) R) : zJ Γ 5 0 0 σ 56 [(0, .ref l0), (1, .int l1), (3, .int l3), (4, .int l4)] [] := by
  unfold fX4_mayBeLeftOut_56 at h
  refine zj_iload E dX4_mayBeLeftOut_56 3 rfl ?_
  refine zj_bipush (v := 97) E dX4_mayBeLeftOut_58 (by decide) ?_
  refine zj_icmp_lt (tgt := 74) E dX4_mayBeLeftOut_60 (by decide) h (fun h => ?_) (fun h => ?_)
  · refine zj_lv [0, 1, 2] rfl ?_
    exact wX4_mayBeLeftOut_74 E _ _ _ _ h K
  · refine zj_iload E dX4_mayBeLeftOut_63 3 rfl ?_
    refine zj_bipush (v := 122) E dX4_mayBeLeftOut_65 (by decide) ?_
    refine zj_icmp_gt (tgt := 74) E dX4_mayBeLeftOut_67 (by decide) h (fun h => ?_) (fun h => ?_)
    · refine zj_lv [0, 1, 2] rfl ?_
      exact wX4_mayBeLeftOut_74 E _ _ _ _ h K
    · refine zj_lv [0, 1, 2] rfl ?_
      exact wX4_mayBeLeftOut_70 E _ _ _ _ h K
def bX4_mayBeLeftOut_21 (σ : zS) (l0 : Nat) (l1 : Int32) (l2 : Int32) (l3 : Int32) : Option ((Int32 × Int32) ⊕ Int32) := (if (4 : Int32) ≤ l3 then some (.inr l2) else oGR σ 5 l0 0 (fun a2 => oA (zk σ a2 = 2) (oB (fX1_at σ a2 (l1 + l3)) (fun x2 => (if l2 = 0 then fX4_mayBeLeftOut_74 σ l0 l1 l3 else (if x2 < (65 : Int32) then fX4_mayBeLeftOut_56 σ l0 l1 l3 x2 else (if x2 ≤ (90 : Int32) then fX4_mayBeLeftOut_70 σ l0 l1 l3 else fX4_mayBeLeftOut_56 σ l0 l1 l3 x2)))))))
set_option maxRecDepth 100000 in
theorem wX4_mayBeLeftOut_L21 {Γ : zG} (E : zE Γ cX4_mayBeLeftOut RX4 5 { frames := 1, cells := 0, slots := 0, locals := 21 }) (σ : zS) (l0 : Nat) (l1 : Int32) : ∀ x R, (fun x => bX4_mayBeLeftOut_21 σ l0 l1 x.1 x.2) x = some R → Sum.elim (jX4_mayBeLeftOut_21 Γ σ l0 l1) (eX4_mayBeLeftOut_21 Γ σ l0 l1) R → jX4_mayBeLeftOut_21 Γ σ l0 l1 x := by
  intro x R h K
  obtain ⟨l2, l3⟩ := x
  have h : bX4_mayBeLeftOut_21 σ l0 l1 l2 l3 = some R := h
  show zJ Γ 5 0 0 σ 21 [(0, .ref l0), (1, .int l1), (2, .int l2), (3, .int l3)] []
  unfold bX4_mayBeLeftOut_21 at h
  refine zj_iload_n E dX4_mayBeLeftOut_21 rfl 3 rfl ?_
  refine zj_iconst (v := 4) E dX4_mayBeLeftOut_22 (by decide) ?_
  refine zj_icmp_ge (tgt := 82) E dX4_mayBeLeftOut_23 (by decide) h (fun h => ?_) (fun h => ?_)
  · have e9 := Option.some.inj h
    subst e9
    refine zj_lv [2] rfl ?_
    exact K
  · refine zj_aload_n E dX4_mayBeLeftOut_26 rfl 0 rfl ?_
    refine zs_getR E zc4 0 (by decide) zw_3_13 rfl dX4_mayBeLeftOut_27 h (fun a2 h => ?_)
    refine zj_iload_n E dX4_mayBeLeftOut_30 rfl 1 rfl ?_
    refine zj_iload_n E dX4_mayBeLeftOut_31 rfl 3 rfl ?_
    refine zj_iadd E dX4_mayBeLeftOut_32 ?_
    obtain ⟨hk, h⟩ := oA_some h
    obtain ⟨x2, hc, h⟩ := oB_some h
    refine zs_callV (As := [.int (l1 + l3)]) (rest := []) E zc1 zyX1_at zw_8_21 (kX1_at _ _ _ _ _ hc) rfl rfl hk rfl ⟨by decide, by decide⟩ ⟨by decide, by decide⟩ (Nat.le_of_ble_eq_true rfl) dX4_mayBeLeftOut_33 rfl (show zJ Γ 5 0 0 σ 36 [(0, .ref l0), (1, .int l1), (2, .int l2), (3, .int l3)] [.int x2] from ?_)
    refine zj_istore (lv2 := [(4, .int x2), (0, .ref l0), (1, .int l1), (2, .int l2), (3, .int l3)]) E dX4_mayBeLeftOut_36 (by decide) rfl ?_
    refine zj_iload_n E dX4_mayBeLeftOut_38 rfl 3 rfl ?_
    refine zj_if_eq (tgt := 74) E dX4_mayBeLeftOut_39 (by decide) h (fun h => ?_) (fun h => ?_)
    · refine zj_lv [1, 2, 4] rfl ?_
      exact wX4_mayBeLeftOut_74 E _ _ _ _ h K
    · refine zj_iload E dX4_mayBeLeftOut_42 0 rfl ?_
      refine zj_bipush (v := 65) E dX4_mayBeLeftOut_44 (by decide) ?_
      refine zj_icmp_lt (tgt := 56) E dX4_mayBeLeftOut_46 (by decide) h (fun h => ?_) (fun h => ?_)
      · refine zj_lv [1, 2, 4, 0] rfl ?_
        exact wX4_mayBeLeftOut_56 E _ _ _ _ _ h K
      · refine zj_iload E dX4_mayBeLeftOut_49 0 rfl ?_
        refine zj_bipush (v := 90) E dX4_mayBeLeftOut_51 (by decide) ?_
        refine zj_icmp_le (tgt := 70) E dX4_mayBeLeftOut_53 (by decide) h (fun h => ?_) (fun h => ?_)
        · refine zj_lv [1, 2, 4] rfl ?_
          exact wX4_mayBeLeftOut_70 E _ _ _ _ h K
        · refine zj_lv [1, 2, 4, 0] rfl ?_
          exact wX4_mayBeLeftOut_56 E _ _ _ _ _ h K
def fX4_mayBeLeftOut_18 (σ : zS) (l0 : Nat) (l1 : Int32) (s0 : Int32) : Option Int32 := oB (zloop zF (fun x => bX4_mayBeLeftOut_21 σ l0 l1 x.1 x.2) (s0, 0)) (fun b1 => (fun v2 => some v2) b1)
set_option maxRecDepth 100000 in
theorem wX4_mayBeLeftOut_18 {Γ : zG} (E : zE Γ cX4_mayBeLeftOut RX4 5 { frames := 1, cells := 0, slots := 0, locals := 21 }) (σ : zS) (l0 : Nat) (l1 : Int32) (s0 : Int32) {R : Int32} (h : fX4_mayBeLeftOut_18 σ l0 l1 s0 = some R) (K : zRet Γ cX4_mayBeLeftOut 5 0 0 (some (.int R)) σ) : zJ Γ 5 0 0 σ 18 [(0, .ref l0), (1, .int l1)] [.int s0] := by
  unfold fX4_mayBeLeftOut_18 at h
  refine zj_istore_n (lv2 := [(2, .int s0), (0, .ref l0), (1, .int l1)]) E dX4_mayBeLeftOut_18 rfl (by decide) rfl ?_
  refine zj_iconst (v := 0) E dX4_mayBeLeftOut_19 (by decide) ?_
  refine zj_istore_n (lv2 := [(3, .int 0), (2, .int s0), (0, .ref l0), (1, .int l1)]) E dX4_mayBeLeftOut_20 rfl (by decide) rfl ?_
  obtain ⟨b1, hb1, h⟩ := oB_some h
  refine zj_lv [2, 3, 1, 0] rfl ?_
  refine zj_loop (wX4_mayBeLeftOut_L21 E σ l0 l1) zF (s0, 0) b1 hb1 ?_
  obtain ⟨v2, rfl⟩ : ∃ z, z = b1 := ⟨_, rfl⟩
  try dsimp only at h
  show zJ Γ 5 0 0 σ 82 [(2, .int v2)] []
  refine zj_iload_n E dX4_mayBeLeftOut_82 rfl 0 rfl ?_
  have e9 := Option.some.inj h
  subst e9
  exact (show zRet Γ cX4_mayBeLeftOut 5 0 0 (some (.int v2)) σ from K) _ _ dX4_mayBeLeftOut_83
def gX4_mayBeLeftOut (σ : zS) (p0 : Nat) (p1 : Int32) : Option Int32 := oGR σ 5 p0 0 (fun a1 => oA (zk σ a1 = 2) (oB (fX1_at σ a1 p1) (fun x1 => (if x1 < (97 : Int32) then fX4_mayBeLeftOut_18 σ p0 p1 0 else fX4_mayBeLeftOut_18 σ p0 p1 1))))
def fX4_mayBeLeftOut (σ : zS) (p0 : Nat) (p1 : Int32) : Option Int32 := oB (gX4_mayBeLeftOut σ p0 p1) (fun r => oA (r = 0 ∨ r = 1) (some r))
set_option maxRecDepth 100000 in
theorem wX4_mayBeLeftOut {Γ : zG} (E : zE Γ cX4_mayBeLeftOut RX4 5 { frames := 1, cells := 0, slots := 0, locals := 21 }) (σ : zS) (p0 : Nat) (p1 : Int32) {R : Int32} (h : gX4_mayBeLeftOut σ p0 p1 = some R) (K : zRet Γ cX4_mayBeLeftOut 5 0 0 (some (.int R)) σ) : zJ Γ 5 0 0 σ 0 [(0, .ref p0), (1, .int p1)] [] := by
  unfold gX4_mayBeLeftOut at h
  refine zj_aload_n E dX4_mayBeLeftOut_0 rfl 0 rfl ?_
  refine zs_getR E zc4 0 (by decide) zw_3_13 rfl dX4_mayBeLeftOut_1 h (fun a1 h => ?_)
  refine zj_iload_n E dX4_mayBeLeftOut_4 rfl 1 rfl ?_
  obtain ⟨hk, h⟩ := oA_some h
  obtain ⟨x1, hc, h⟩ := oB_some h
  refine zs_callV (As := [.int p1]) (rest := []) E zc1 zyX1_at zw_8_21 (kX1_at _ _ _ _ _ hc) rfl rfl hk rfl ⟨by decide, by decide⟩ ⟨by decide, by decide⟩ (Nat.le_of_ble_eq_true rfl) dX4_mayBeLeftOut_5 rfl (show zJ Γ 5 0 0 σ 8 [(0, .ref p0), (1, .int p1)] [.int x1] from ?_)
  refine zj_bipush (v := 97) E dX4_mayBeLeftOut_8 (by decide) ?_
  refine zj_icmp_lt (tgt := 17) E dX4_mayBeLeftOut_10 (by decide) h (fun h => ?_) (fun h => ?_)
  · refine zj_iconst (v := 0) E dX4_mayBeLeftOut_17 (by decide) ?_
    refine zj_lv [0, 1] rfl ?_
    exact wX4_mayBeLeftOut_18 E _ _ _ _ h K
  · refine zj_iconst (v := 1) E dX4_mayBeLeftOut_13 (by decide) ?_
    refine zj_goto (tgt := 18) E dX4_mayBeLeftOut_14 (by decide) ?_
    refine zj_lv [0, 1] rfl ?_
    exact wX4_mayBeLeftOut_18 E _ _ _ _ h K
set_option maxRecDepth 100000 in
theorem kX4_mayBeLeftOut (l : Launch) (D : va_G) (cs : zCs) (z0 : Nat) (σ : zS) {p0 : Nat} {p1 : Int32} {r : Int32} (h : fX4_mayBeLeftOut σ p0 p1 = some r) : zM l D cs z0 yX4_mayBeLeftOut cX4_mayBeLeftOut 5 (some .boolean) { frames := 1, cells := 0, slots := 0, locals := 21 } [.ref p0, .int p1] σ (some (.int r)) σ 0 0 := by
  obtain ⟨r0, h0, h⟩ := oB_some h
  obtain ⟨hz, h⟩ := oA_some h
  cases h
  exact zM_of (by decide) rfl (Or.inr ⟨rfl, hz⟩) (Nat.le_of_ble_eq_true rfl) rfl (fun Γ e1 e2 e3 e4 E hN K => wX4_mayBeLeftOut E σ _ _ h0 K)
/-! X4_takesChunk -/
def gX4_takesChunk (σ : zS) (p0 : Nat) (p1 : Int32) (p2 : Int32) : Option (Int32 × zS) := oGI σ 5 p0 7 (fun x1 => (if x1 = 0 then (if p1 = (1229472850 : Int32) then (if p2 = (13 : Int32) then oGI σ 5 p0 6 (fun x15 => oA (zk σ p0 = 5) (oC (fX4_takesHead σ p0 (x15 + (8 : Int32))) (fun x16 σ5 => (if x16 = 0 then some (0, σ5) else some (1, σ5))))) else some (0, σ)) else some (0, σ)) else (if p1 = 1229209940 then oA (zk σ p0 = 5) (oC (fX4_takesDefaultData σ p0 p2) (fun x2 σ1 => some (x2, σ1))) else (if p1 = 1229278788 then (if p2 = 0 then oGI σ 5 p0 10 (fun x3 => (if x3 = 0 then some (0, σ) else oGI σ 5 p0 7 (fun x4 => (if x4 = (1717785676 : Int32) then some (0, σ) else oGR σ 5 p0 3 (fun a1 => oGI σ 6 a1 7 (fun x5 => oGI σ 5 p0 9 (fun x6 => (if x5 = x6 then some (1, σ) else some (0, σ))))))))) else some (0, σ)) else (if p1 = 1229472850 then some (0, σ) else (if p1 = 1633899596 then (if p2 = (8 : Int32) then oGI σ 5 p0 6 (fun x7 => oA (zk σ p0 = 5) (oC (fX4_takesCounts σ p0 (x7 + (8 : Int32))) (fun x8 σ2 => (if x8 = 0 then some (0, σ2) else some (1, σ2))))) else some (0, σ)) else (if p1 = 1717785676 then (if p2 = (26 : Int32) then oGI σ 5 p0 6 (fun x9 => oA (zk σ p0 = 5) (oC (fX4_takesControl σ p0 (x9 + (8 : Int32))) (fun x10 σ3 => (if x10 = 0 then some (0, σ3) else some (1, σ3))))) else some (0, σ)) else (if p1 = 1717846356 then (if p2 < (4 : Int32) then some (0, σ) else oA (zk σ p0 = 5) (oC (fX4_takesFrameData σ p0 p2) (fun x11 σ4 => (if x11 = 0 then some (0, σ4) else some (1, σ4))))) else oGI σ 5 p0 7 (fun x12 => (if x12 = (1717785676 : Int32) then some (0, σ) else oGI σ 5 p0 6 (fun x13 => oA (zk σ p0 = 5) (oB (fX4_mayBeLeftOut σ p0 (x13 + (4 : Int32))) (fun x14 => (if x14 = 0 then some (0, σ) else some (1, σ)))))))))))))))
def fX4_takesChunk (σ : zS) (p0 : Nat) (p1 : Int32) (p2 : Int32) : Option (Int32 × zS) := oC (gX4_takesChunk σ p0 p1 p2) (fun r s => oA (r = 0 ∨ r = 1) (some (r, s)))
set_option maxRecDepth 100000 in
theorem wX4_takesChunk {Γ : zG} (E : zE Γ cX4_takesChunk RX4 3 { frames := 3, cells := 0, slots := 0, locals := 70 }) (σ : zS) (p0 : Nat) (p1 : Int32) (p2 : Int32) {R : (Int32 × zS)} (h : gX4_takesChunk σ p0 p1 p2 = some R) (K : zRet Γ cX4_takesChunk 3 0 0 (some (.int R.1)) R.2) : zJ Γ 3 0 0 σ 0 [(0, .ref p0), (1, .int p1), (2, .int p2)] [] := by
  unfold gX4_takesChunk at h
  refine zj_aload_n E dX4_takesChunk_0 rfl 0 rfl ?_
  refine zs_getI E zc4 7 (by decide) zw_8_8 rfl dX4_takesChunk_1 h (fun x1 h => ?_)
  refine zj_if_ne (tgt := 39) E dX4_takesChunk_4 (by decide) h (fun h => ?_) (fun h => ?_)
  · refine zj_iload_n E dX4_takesChunk_39 rfl 1 rfl ?_
    by_cases e0 : p1 = 1229209940
    · rw [if_pos e0] at h
      refine zj_lIn (tgt := 154) (off := 114) E e0 dX4_takesChunk_40 (by decide) (by decide) (by decide) ?_
      refine zj_aload_n E dX4_takesChunk_154 rfl 0 rfl ?_
      refine zj_iload_n E dX4_takesChunk_155 rfl 2 rfl ?_
      obtain ⟨hk, h⟩ := oA_some h
      obtain ⟨x2, σ1, hc, h⟩ := oC_some h
      refine zs_callV (As := [.int p2]) (rest := []) E zc4 zyX4_takesDefaultData zw_16_8 (kX4_takesDefaultData _ _ _ _ _ hc) rfl rfl hk rfl ⟨by decide, by decide⟩ ⟨by decide, by decide⟩ (Nat.le_of_ble_eq_true rfl) dX4_takesChunk_156 rfl (show zJ Γ 3 0 0 σ1 159 [(0, .ref p0), (1, .int p1), (2, .int p2)] [.int x2] from ?_)
      have e9 := Option.some.inj h
      subst e9
      exact (show zRet Γ cX4_takesChunk 3 0 0 (some (.int x2)) σ1 from K) _ _ dX4_takesChunk_159
    rw [if_neg e0] at h
    by_cases e1 : p1 = 1229278788
    · rw [if_pos e1] at h
      refine zj_lIn (tgt := 179) (off := 139) E e1 dX4_takesChunk_40 (by decide) (by decide) (by decide) ?_
      refine zj_iload_n E dX4_takesChunk_179 rfl 2 rfl ?_
      refine zj_if_ne (tgt := 217) E dX4_takesChunk_180 (by decide) h (fun h => ?_) (fun h => ?_)
      · refine zj_iconst (v := 0) E dX4_takesChunk_217 (by decide) ?_
        have e9 := Option.some.inj h
        subst e9
        exact (show zRet Γ cX4_takesChunk 3 0 0 (some (.int 0)) σ from K) _ _ dX4_takesChunk_218
      · refine zj_aload_n E dX4_takesChunk_183 rfl 0 rfl ?_
        refine zs_getI E zc4 10 (by decide) zw_8_11 rfl dX4_takesChunk_184 h (fun x3 h => ?_)
        refine zj_if_eq (tgt := 217) E dX4_takesChunk_187 (by decide) h (fun h => ?_) (fun h => ?_)
        · refine zj_iconst (v := 0) E dX4_takesChunk_217 (by decide) ?_
          have e9 := Option.some.inj h
          subst e9
          exact (show zRet Γ cX4_takesChunk 3 0 0 (some (.int 0)) σ from K) _ _ dX4_takesChunk_218
        · refine zj_aload_n E dX4_takesChunk_190 rfl 0 rfl ?_
          refine zs_getI E zc4 7 (by decide) zw_8_8 rfl dX4_takesChunk_191 h (fun x4 h => ?_)
          refine zj_ldc (v := 1717785676) E zw_14_18 dX4_takesChunk_194 ?_
          refine zj_icmp_eq (tgt := 217) E dX4_takesChunk_196 (by decide) h (fun h => ?_) (fun h => ?_)
          · refine zj_iconst (v := 0) E dX4_takesChunk_217 (by decide) ?_
            have e9 := Option.some.inj h
            subst e9
            exact (show zRet Γ cX4_takesChunk 3 0 0 (some (.int 0)) σ from K) _ _ dX4_takesChunk_218
          · refine zj_aload_n E dX4_takesChunk_199 rfl 0 rfl ?_
            refine zs_getR E zc4 3 (by decide) zw_3_11 rfl dX4_takesChunk_200 h (fun a1 h => ?_)
            refine zs_getIN E zc5 7 (by decide) (znf_58) rfl dX4_takesChunk_203 h (fun x5 h => ?_)
            refine zj_aload_n E dX4_takesChunk_206 rfl 0 rfl ?_
            refine zs_getI E zc4 9 (by decide) zw_8_10 rfl dX4_takesChunk_207 h (fun x6 h => ?_)
            refine zj_icmp_ne (tgt := 217) E dX4_takesChunk_210 (by decide) h (fun h => ?_) (fun h => ?_)
            · refine zj_iconst (v := 0) E dX4_takesChunk_217 (by decide) ?_
              have e9 := Option.some.inj h
              subst e9
              exact (show zRet Γ cX4_takesChunk 3 0 0 (some (.int 0)) σ from K) _ _ dX4_takesChunk_218
            · refine zj_iconst (v := 1) E dX4_takesChunk_213 (by decide) ?_
              refine zj_goto (tgt := 218) E dX4_takesChunk_214 (by decide) ?_
              have e9 := Option.some.inj h
              subst e9
              exact (show zRet Γ cX4_takesChunk 3 0 0 (some (.int 1)) σ from K) _ _ dX4_takesChunk_218
    rw [if_neg e1] at h
    by_cases e2 : p1 = 1229472850
    · rw [if_pos e2] at h
      refine zj_lIn (tgt := 100) (off := 60) E e2 dX4_takesChunk_40 (by decide) (by decide) (by decide) ?_
      refine zj_iconst (v := 0) E dX4_takesChunk_100 (by decide) ?_
      have e9 := Option.some.inj h
      subst e9
      exact (show zRet Γ cX4_takesChunk 3 0 0 (some (.int 0)) σ from K) _ _ dX4_takesChunk_101
    rw [if_neg e2] at h
    by_cases e3 : p1 = 1633899596
    · rw [if_pos e3] at h
      refine zj_lIn (tgt := 102) (off := 62) E e3 dX4_takesChunk_40 (by decide) (by decide) (by decide) ?_
      refine zj_iload_n E dX4_takesChunk_102 rfl 2 rfl ?_
      refine zj_bipush (v := 8) E dX4_takesChunk_103 (by decide) ?_
      refine zj_icmp_ne (tgt := 126) E dX4_takesChunk_105 (by decide) h (fun h => ?_) (fun h => ?_)
      · refine zj_iconst (v := 0) E dX4_takesChunk_126 (by decide) ?_
        have e9 := Option.some.inj h
        subst e9
        exact (show zRet Γ cX4_takesChunk 3 0 0 (some (.int 0)) σ from K) _ _ dX4_takesChunk_127
      · refine zj_aload_n E dX4_takesChunk_108 rfl 0 rfl ?_
        refine zj_aload_n E dX4_takesChunk_109 rfl 0 rfl ?_
        refine zs_getI E zc4 6 (by decide) zw_8_12 rfl dX4_takesChunk_110 h (fun x7 h => ?_)
        refine zj_bipush (v := 8) E dX4_takesChunk_113 (by decide) ?_
        refine zj_iadd E dX4_takesChunk_115 ?_
        obtain ⟨hk, h⟩ := oA_some h
        obtain ⟨x8, σ2, hc, h⟩ := oC_some h
        refine zs_callV (As := [.int (x7 + (8 : Int32))]) (rest := []) E zc4 zyX4_takesCounts zw_15_8 (kX4_takesCounts _ _ _ _ _ hc) rfl rfl hk rfl ⟨by decide, by decide⟩ ⟨by decide, by decide⟩ (Nat.le_of_ble_eq_true rfl) dX4_takesChunk_116 rfl (show zJ Γ 3 0 0 σ2 119 [(0, .ref p0), (1, .int p1), (2, .int p2)] [.int x8] from ?_)
        refine zj_if_eq (tgt := 126) E dX4_takesChunk_119 (by decide) h (fun h => ?_) (fun h => ?_)
        · refine zj_iconst (v := 0) E dX4_takesChunk_126 (by decide) ?_
          have e9 := Option.some.inj h
          subst e9
          exact (show zRet Γ cX4_takesChunk 3 0 0 (some (.int 0)) σ2 from K) _ _ dX4_takesChunk_127
        · refine zj_iconst (v := 1) E dX4_takesChunk_122 (by decide) ?_
          refine zj_goto (tgt := 127) E dX4_takesChunk_123 (by decide) ?_
          have e9 := Option.some.inj h
          subst e9
          exact (show zRet Γ cX4_takesChunk 3 0 0 (some (.int 1)) σ2 from K) _ _ dX4_takesChunk_127
    rw [if_neg e3] at h
    by_cases e4 : p1 = 1717785676
    · rw [if_pos e4] at h
      refine zj_lIn (tgt := 128) (off := 88) E e4 dX4_takesChunk_40 (by decide) (by decide) (by decide) ?_
      refine zj_iload_n E dX4_takesChunk_128 rfl 2 rfl ?_
      refine zj_bipush (v := 26) E dX4_takesChunk_129 (by decide) ?_
      refine zj_icmp_ne (tgt := 152) E dX4_takesChunk_131 (by decide) h (fun h => ?_) (fun h => ?_)
      · refine zj_iconst (v := 0) E dX4_takesChunk_152 (by decide) ?_
        have e9 := Option.some.inj h
        subst e9
        exact (show zRet Γ cX4_takesChunk 3 0 0 (some (.int 0)) σ from K) _ _ dX4_takesChunk_153
      · refine zj_aload_n E dX4_takesChunk_134 rfl 0 rfl ?_
        refine zj_aload_n E dX4_takesChunk_135 rfl 0 rfl ?_
        refine zs_getI E zc4 6 (by decide) zw_8_12 rfl dX4_takesChunk_136 h (fun x9 h => ?_)
        refine zj_bipush (v := 8) E dX4_takesChunk_139 (by decide) ?_
        refine zj_iadd E dX4_takesChunk_141 ?_
        obtain ⟨hk, h⟩ := oA_some h
        obtain ⟨x10, σ3, hc, h⟩ := oC_some h
        refine zs_callV (As := [.int (x9 + (8 : Int32))]) (rest := []) E zc4 zyX4_takesControl zw_15_12 (kX4_takesControl _ _ _ _ _ hc) rfl rfl hk rfl ⟨by decide, by decide⟩ ⟨by decide, by decide⟩ (Nat.le_of_ble_eq_true rfl) dX4_takesChunk_142 rfl (show zJ Γ 3 0 0 σ3 145 [(0, .ref p0), (1, .int p1), (2, .int p2)] [.int x10] from ?_)
        refine zj_if_eq (tgt := 152) E dX4_takesChunk_145 (by decide) h (fun h => ?_) (fun h => ?_)
        · refine zj_iconst (v := 0) E dX4_takesChunk_152 (by decide) ?_
          have e9 := Option.some.inj h
          subst e9
          exact (show zRet Γ cX4_takesChunk 3 0 0 (some (.int 0)) σ3 from K) _ _ dX4_takesChunk_153
        · refine zj_iconst (v := 1) E dX4_takesChunk_148 (by decide) ?_
          refine zj_goto (tgt := 153) E dX4_takesChunk_149 (by decide) ?_
          have e9 := Option.some.inj h
          subst e9
          exact (show zRet Γ cX4_takesChunk 3 0 0 (some (.int 1)) σ3 from K) _ _ dX4_takesChunk_153
    rw [if_neg e4] at h
    by_cases e5 : p1 = 1717846356
    · rw [if_pos e5] at h
      refine zj_lIn (tgt := 160) (off := 120) E e5 dX4_takesChunk_40 (by decide) (by decide) (by decide) ?_
      refine zj_iload_n E dX4_takesChunk_160 rfl 2 rfl ?_
      refine zj_iconst (v := 4) E dX4_takesChunk_161 (by decide) ?_
      refine zj_icmp_lt (tgt := 177) E dX4_takesChunk_162 (by decide) h (fun h => ?_) (fun h => ?_)
      · refine zj_iconst (v := 0) E dX4_takesChunk_177 (by decide) ?_
        have e9 := Option.some.inj h
        subst e9
        exact (show zRet Γ cX4_takesChunk 3 0 0 (some (.int 0)) σ from K) _ _ dX4_takesChunk_178
      · refine zj_aload_n E dX4_takesChunk_165 rfl 0 rfl ?_
        refine zj_iload_n E dX4_takesChunk_166 rfl 2 rfl ?_
        obtain ⟨hk, h⟩ := oA_some h
        obtain ⟨x11, σ4, hc, h⟩ := oC_some h
        refine zs_callV (As := [.int p2]) (rest := []) E zc4 zyX4_takesFrameData zw_16_18 (kX4_takesFrameData _ _ _ _ _ hc) rfl rfl hk rfl ⟨by decide, by decide⟩ ⟨by decide, by decide⟩ (Nat.le_of_ble_eq_true rfl) dX4_takesChunk_167 rfl (show zJ Γ 3 0 0 σ4 170 [(0, .ref p0), (1, .int p1), (2, .int p2)] [.int x11] from ?_)
        refine zj_if_eq (tgt := 177) E dX4_takesChunk_170 (by decide) h (fun h => ?_) (fun h => ?_)
        · refine zj_iconst (v := 0) E dX4_takesChunk_177 (by decide) ?_
          have e9 := Option.some.inj h
          subst e9
          exact (show zRet Γ cX4_takesChunk 3 0 0 (some (.int 0)) σ4 from K) _ _ dX4_takesChunk_178
        · refine zj_iconst (v := 1) E dX4_takesChunk_173 (by decide) ?_
          refine zj_goto (tgt := 178) E dX4_takesChunk_174 (by decide) ?_
          have e9 := Option.some.inj h
          subst e9
          exact (show zRet Γ cX4_takesChunk 3 0 0 (some (.int 1)) σ4 from K) _ _ dX4_takesChunk_178
    rw [if_neg e5] at h
    refine zj_lOut (tgt := 219) E dX4_takesChunk_40 (by decide) (by rw [lv_osw e0 (by decide)]; rw [lv_osw e1 (by decide)]; rw [lv_osw e2 (by decide)]; rw [lv_osw e3 (by decide)]; rw [lv_osw e4 (by decide)]; rw [lv_osw e5 (by decide)]; rfl) (by decide) ?_
    refine zj_aload_n E dX4_takesChunk_219 rfl 0 rfl ?_
    refine zs_getI E zc4 7 (by decide) zw_8_8 rfl dX4_takesChunk_220 h (fun x12 h => ?_)
    refine zj_ldc (v := 1717785676) E zw_14_18 dX4_takesChunk_223 ?_
    refine zj_icmp_eq (tgt := 245) E dX4_takesChunk_225 (by decide) h (fun h => ?_) (fun h => ?_)
    · refine zj_iconst (v := 0) E dX4_takesChunk_245 (by decide) ?_
      have e9 := Option.some.inj h
      subst e9
      exact (show zRet Γ cX4_takesChunk 3 0 0 (some (.int 0)) σ from K) _ _ dX4_takesChunk_246
    · refine zj_aload_n E dX4_takesChunk_228 rfl 0 rfl ?_
      refine zj_aload_n E dX4_takesChunk_229 rfl 0 rfl ?_
      refine zs_getI E zc4 6 (by decide) zw_8_12 rfl dX4_takesChunk_230 h (fun x13 h => ?_)
      refine zj_iconst (v := 4) E dX4_takesChunk_233 (by decide) ?_
      refine zj_iadd E dX4_takesChunk_234 ?_
      obtain ⟨hk, h⟩ := oA_some h
      obtain ⟨x14, hc, h⟩ := oB_some h
      refine zs_callV (As := [.int (x13 + (4 : Int32))]) (rest := []) E zc4 zyX4_mayBeLeftOut zw_16_22 (kX4_mayBeLeftOut _ _ _ _ _ hc) rfl rfl hk rfl ⟨by decide, by decide⟩ ⟨by decide, by decide⟩ (Nat.le_of_ble_eq_true rfl) dX4_takesChunk_235 rfl (show zJ Γ 3 0 0 σ 238 [(0, .ref p0), (1, .int p1), (2, .int p2)] [.int x14] from ?_)
      refine zj_if_eq (tgt := 245) E dX4_takesChunk_238 (by decide) h (fun h => ?_) (fun h => ?_)
      · refine zj_iconst (v := 0) E dX4_takesChunk_245 (by decide) ?_
        have e9 := Option.some.inj h
        subst e9
        exact (show zRet Γ cX4_takesChunk 3 0 0 (some (.int 0)) σ from K) _ _ dX4_takesChunk_246
      · refine zj_iconst (v := 1) E dX4_takesChunk_241 (by decide) ?_
        refine zj_goto (tgt := 246) E dX4_takesChunk_242 (by decide) ?_
        have e9 := Option.some.inj h
        subst e9
        exact (show zRet Γ cX4_takesChunk 3 0 0 (some (.int 1)) σ from K) _ _ dX4_takesChunk_246
  · refine zj_iload_n E dX4_takesChunk_7 rfl 1 rfl ?_
    refine zj_ldc (v := 1229472850) E zw_14_17 dX4_takesChunk_8 ?_
    refine zj_icmp_ne (tgt := 37) E dX4_takesChunk_10 (by decide) h (fun h => ?_) (fun h => ?_)
    · refine zj_iconst (v := 0) E dX4_takesChunk_37 (by decide) ?_
      have e9 := Option.some.inj h
      subst e9
      exact (show zRet Γ cX4_takesChunk 3 0 0 (some (.int 0)) σ from K) _ _ dX4_takesChunk_38
    · refine zj_iload_n E dX4_takesChunk_13 rfl 2 rfl ?_
      refine zj_bipush (v := 13) E dX4_takesChunk_14 (by decide) ?_
      refine zj_icmp_ne (tgt := 37) E dX4_takesChunk_16 (by decide) h (fun h => ?_) (fun h => ?_)
      · refine zj_iconst (v := 0) E dX4_takesChunk_37 (by decide) ?_
        have e9 := Option.some.inj h
        subst e9
        exact (show zRet Γ cX4_takesChunk 3 0 0 (some (.int 0)) σ from K) _ _ dX4_takesChunk_38
      · refine zj_aload_n E dX4_takesChunk_19 rfl 0 rfl ?_
        refine zj_aload_n E dX4_takesChunk_20 rfl 0 rfl ?_
        refine zs_getI E zc4 6 (by decide) zw_8_12 rfl dX4_takesChunk_21 h (fun x15 h => ?_)
        refine zj_bipush (v := 8) E dX4_takesChunk_24 (by decide) ?_
        refine zj_iadd E dX4_takesChunk_26 ?_
        obtain ⟨hk, h⟩ := oA_some h
        obtain ⟨x16, σ5, hc, h⟩ := oC_some h
        refine zs_callV (As := [.int (x15 + (8 : Int32))]) (rest := []) E zc4 zyX4_takesHead zw_14_19 (kX4_takesHead _ _ _ _ _ hc) rfl rfl hk rfl ⟨by decide, by decide⟩ ⟨by decide, by decide⟩ (Nat.le_of_ble_eq_true rfl) dX4_takesChunk_27 rfl (show zJ Γ 3 0 0 σ5 30 [(0, .ref p0), (1, .int p1), (2, .int p2)] [.int x16] from ?_)
        refine zj_if_eq (tgt := 37) E dX4_takesChunk_30 (by decide) h (fun h => ?_) (fun h => ?_)
        · refine zj_iconst (v := 0) E dX4_takesChunk_37 (by decide) ?_
          have e9 := Option.some.inj h
          subst e9
          exact (show zRet Γ cX4_takesChunk 3 0 0 (some (.int 0)) σ5 from K) _ _ dX4_takesChunk_38
        · refine zj_iconst (v := 1) E dX4_takesChunk_33 (by decide) ?_
          refine zj_goto (tgt := 38) E dX4_takesChunk_34 (by decide) ?_
          have e9 := Option.some.inj h
          subst e9
          exact (show zRet Γ cX4_takesChunk 3 0 0 (some (.int 1)) σ5 from K) _ _ dX4_takesChunk_38
set_option maxRecDepth 100000 in
theorem kX4_takesChunk (l : Launch) (D : va_G) (cs : zCs) (z0 : Nat) (σ : zS) {p0 : Nat} {p1 : Int32} {p2 : Int32} {r : Int32} {σ' : zS} (h : fX4_takesChunk σ p0 p1 p2 = some (r, σ')) : zM l D cs z0 yX4_takesChunk cX4_takesChunk 3 (some .boolean) { frames := 3, cells := 0, slots := 0, locals := 70 } [.ref p0, .int p1, .int p2] σ (some (.int r)) σ' 0 0 := by
  obtain ⟨r0, s0, h0, h⟩ := oC_some h
  obtain ⟨hz, h⟩ := oA_some h
  cases h
  exact zM_of (by decide) rfl (Or.inr ⟨rfl, hz⟩) (Nat.le_of_ble_eq_true rfl) rfl (fun Γ e1 e2 e3 e4 E hN K => wX4_takesChunk E σ _ _ _ h0 K)
/-! X4_chunkFault -/
def fX4_chunkFault_41 (σ : zS) (l0 : Nat) : Option (Int32 × zS) := oGR σ 5 l0 0 (fun a3 => oGI σ 2 a3 1 (fun x5 => oPI σ 5 l0 5 x5 (fun σ1 => some (2, σ1))))
set_option maxRecDepth 100000 in
theorem wX4_chunkFault_41 {Γ : zG} (E : zE Γ cX4_chunkFault RX4 5 { frames := 5, cells := 0, slots := 0, locals := 126 }) (σ : zS) (l0 : Nat) {R : (Int32 × zS)} (h : fX4_chunkFault_41 σ l0 = some R) (K : zRet Γ cX4_chunkFault 5 0 0 (some (.int R.1)) R.2) : zJ Γ 5 0 0 σ 41 [(0, .ref l0)] [] := by
  unfold fX4_chunkFault_41 at h
  refine zj_aload_n E dX4_chunkFault_41 rfl 0 rfl ?_
  refine zj_aload_n E dX4_chunkFault_42 rfl 0 rfl ?_
  refine zs_getR E zc4 0 (by decide) zw_3_13 rfl dX4_chunkFault_43 h (fun a3 h => ?_)
  refine zs_getIN E zc1 1 (by decide) (znf_7) rfl dX4_chunkFault_46 h (fun x5 h => ?_)
  refine zs_putI E zc4 5 (by decide) zw_8_14 rfl rfl dX4_chunkFault_49 h (fun σ1 h => ?_)
  refine zj_iconst (v := 2) E dX4_chunkFault_52 (by decide) ?_
  have e9 := Option.some.inj h
  subst e9
  exact (show zRet Γ cX4_chunkFault 5 0 0 (some (.int 2)) σ1 from K) _ _ dX4_chunkFault_53
def fX4_chunkFault_179 (σ : zS) (l0 : Nat) (l2 : Int32) (l3 : Int32) (l4 : Int32) : Option (Int32 × zS) := oA (zk σ l0 = 5) (oC (fX4_takesChunk σ l0 l4 l2) (fun x14 σ3 => (if x14 = 0 then some (4, σ3) else oPI σ3 5 l0 7 l4 (fun σ4 => oPI σ4 5 l0 6 (l3 + (4 : Int32)) (fun σ5 => some (0, σ5))))))
set_option maxRecDepth 100000 in
theorem wX4_chunkFault_179 {Γ : zG} (E : zE Γ cX4_chunkFault RX4 5 { frames := 5, cells := 0, slots := 0, locals := 126 }) (σ : zS) (l0 : Nat) (l2 : Int32) (l3 : Int32) (l4 : Int32) {R : (Int32 × zS)} (h : fX4_chunkFault_179 σ l0 l2 l3 l4 = some R) (K : zRet Γ cX4_chunkFault 5 0 0 (some (.int R.1)) R.2) : zJ Γ 5 0 0 σ 179 [(0, .ref l0), (2, .int l2), (3, .int l3), (4, .int l4)] [] := by
  unfold fX4_chunkFault_179 at h
  refine zj_aload_n E dX4_chunkFault_179 rfl 0 rfl ?_
  refine zj_iload E dX4_chunkFault_180 3 rfl ?_
  refine zj_iload_n E dX4_chunkFault_182 rfl 1 rfl ?_
  obtain ⟨hk, h⟩ := oA_some h
  obtain ⟨x14, σ3, hc, h⟩ := oC_some h
  refine zs_callV (As := [.int l4, .int l2]) (rest := []) E zc4 zyX4_takesChunk zw_14_13 (kX4_takesChunk _ _ _ _ _ hc) rfl rfl hk rfl ⟨by decide, by decide⟩ ⟨by decide, by decide⟩ (Nat.le_of_ble_eq_true rfl) dX4_chunkFault_183 rfl (show zJ Γ 5 0 0 σ3 186 [(0, .ref l0), (2, .int l2), (3, .int l3), (4, .int l4)] [.int x14] from ?_)
  refine zj_if_ne (tgt := 191) E dX4_chunkFault_186 (by decide) h (fun h => ?_) (fun h => ?_)
  · refine zj_aload_n E dX4_chunkFault_191 rfl 0 rfl ?_
    refine zj_iload E dX4_chunkFault_192 3 rfl ?_
    refine zs_putI E zc4 7 (by decide) zw_8_8 rfl rfl dX4_chunkFault_194 h (fun σ4 h => ?_)
    refine zj_aload_n E dX4_chunkFault_197 rfl 0 rfl ?_
    refine zj_iload_n E dX4_chunkFault_198 rfl 2 rfl ?_
    refine zj_iconst (v := 4) E dX4_chunkFault_199 (by decide) ?_
    refine zj_iadd E dX4_chunkFault_200 ?_
    refine zs_putI E zc4 6 (by decide) zw_8_12 rfl rfl dX4_chunkFault_201 h (fun σ5 h => ?_)
    refine zj_iconst (v := 0) E dX4_chunkFault_204 (by decide) ?_
    have e9 := Option.some.inj h
    subst e9
    exact (show zRet Γ cX4_chunkFault 5 0 0 (some (.int 0)) σ5 from K) _ _ dX4_chunkFault_205
  · refine zj_iconst (v := 4) E dX4_chunkFault_189 (by decide) ?_
    have e9 := Option.some.inj h
    subst e9
    exact (show zRet Γ cX4_chunkFault 5 0 0 (some (.int 4)) σ3 from K) _ _ dX4_chunkFault_190
def fX4_chunkFault_147 (σ : zS) (l0 : Nat) (l2 : Int32) (l3 : Int32) (l4 : Int32) : Option (Int32 × zS) := oGR σ 5 l0 2 (fun a8 => oA (zk σ a8 = 9) (oC (fX9_unpack σ a8) (fun x16 σ6 => (if x16 = 0 then some (5, σ6) else oGR σ6 5 l0 4 (fun a9 => oGR σ6 5 l0 2 (fun a10 => oGR σ6 9 a10 1 (fun a11 => oC (fX6_fill σ6 a9 a11) (fun x17 σ7 => (if x17 = 0 then some (6, σ7) else fX4_chunkFault_179 σ7 l0 l2 l3 l4)))))))))
set_option maxRecDepth 100000 in
theorem wX4_chunkFault_147 {Γ : zG} (E : zE Γ cX4_chunkFault RX4 5 { frames := 5, cells := 0, slots := 0, locals := 126 }) (σ : zS) (l0 : Nat) (l2 : Int32) (l3 : Int32) (l4 : Int32) {R : (Int32 × zS)} (h : fX4_chunkFault_147 σ l0 l2 l3 l4 = some R) (K : zRet Γ cX4_chunkFault 5 0 0 (some (.int R.1)) R.2) : zJ Γ 5 0 0 σ 147 [(0, .ref l0), (2, .int l2), (3, .int l3), (4, .int l4)] [] := by
  unfold fX4_chunkFault_147 at h
  refine zj_aload_n E dX4_chunkFault_147 rfl 0 rfl ?_
  refine zs_getR E zc4 2 (by decide) zw_3_9 rfl dX4_chunkFault_148 h (fun a8 h => ?_)
  obtain ⟨hk, h⟩ := oA_some h
  obtain ⟨x16, σ6, hc, h⟩ := oC_some h
  refine zs_callV (As := []) (rest := []) E zc8 zyX9_unpack zw_9_16 (kX9_unpack _ _ _ _ _ hc) rfl rfl hk rfl ⟨by decide, by decide⟩ ⟨by decide, by decide⟩ (Nat.le_of_ble_eq_true rfl) dX4_chunkFault_151 rfl (show zJ Γ 5 0 0 σ6 154 [(0, .ref l0), (2, .int l2), (3, .int l3), (4, .int l4)] [.int x16] from ?_)
  refine zj_if_ne (tgt := 159) E dX4_chunkFault_154 (by decide) h (fun h => ?_) (fun h => ?_)
  · refine zj_aload_n E dX4_chunkFault_159 rfl 0 rfl ?_
    refine zs_getR E zc4 4 (by decide) zw_3_12 rfl dX4_chunkFault_160 h (fun a9 h => ?_)
    refine zj_aload_n E dX4_chunkFault_163 rfl 0 rfl ?_
    refine zs_getR E zc4 2 (by decide) zw_3_9 rfl dX4_chunkFault_164 h (fun a10 h => ?_)
    refine zs_getRN E zc8 1 (by decide) (znf_12) rfl dX4_chunkFault_167 h (fun a11 h => ?_)
    obtain ⟨x17, σ7, hc, h⟩ := oC_some h
    refine zs_callS (As := [.ref a9, .ref a11]) (rest := []) E zyX6_fill zw_13_18 (kX6_fill _ _ _ _ _ hc) rfl rfl rfl ⟨by decide, by decide⟩ ⟨by decide, by decide⟩ (Nat.le_of_ble_eq_true rfl) dX4_chunkFault_170 rfl (show zJ Γ 5 0 0 σ7 173 [(0, .ref l0), (2, .int l2), (3, .int l3), (4, .int l4)] [.int x17] from ?_)
    refine zj_if_ne (tgt := 179) E dX4_chunkFault_173 (by decide) h (fun h => ?_) (fun h => ?_)
    · refine zj_lv [0, 1, 2, 3] rfl ?_
      exact wX4_chunkFault_179 E _ _ _ _ _ h K
    · refine zj_bipush (v := 6) E dX4_chunkFault_176 (by decide) ?_
      have e9 := Option.some.inj h
      subst e9
      exact (show zRet Γ cX4_chunkFault 5 0 0 (some (.int 6)) σ7 from K) _ _ dX4_chunkFault_178
  · refine zj_iconst (v := 5) E dX4_chunkFault_157 (by decide) ?_
    have e9 := Option.some.inj h
    subst e9
    exact (show zRet Γ cX4_chunkFault 5 0 0 (some (.int 5)) σ6 from K) _ _ dX4_chunkFault_158
def fX4_chunkFault (σ : zS) (p0 : Nat) : Option (Int32 × zS) := oGR σ 5 p0 0 (fun a1 => oGI σ 2 a1 1 (fun x1 => oGI σ 5 p0 6 (fun x2 => oL ((x1 - x2) - (12 : Int32)) (fun v1 => oGR σ 5 p0 0 (fun a2 => oGI σ 5 p0 6 (fun x3 => oA (zk σ a2 = 2) (oB (fX1_number σ a2 x3) (fun x4 => (if v1 < 0 then fX4_chunkFault_41 σ p0 else (if x4 < 0 then fX4_chunkFault_41 σ p0 else (if x4 ≤ v1 then oGI σ 5 p0 6 (fun x6 => oPI σ 5 p0 5 (x6 + (4 : Int32)) (fun σ2 => oGI σ2 5 p0 6 (fun x7 => oL ((x7 + (8 : Int32)) + x4) (fun v2 => oGR σ2 5 p0 1 (fun a4 => oGR σ2 5 p0 0 (fun a5 => oGI σ2 5 p0 6 (fun x8 => oA (zk σ2 a4 = 8) (oB (fX8_ofChunk σ2 a4 a5 (x8 + (4 : Int32)) v2) (fun x9 => oGR σ2 5 p0 0 (fun a6 => oA (zk σ2 a6 = 2) (oB (fX1_number σ2 a6 v2) (fun x10 => (if x9 = x10 then oGR σ2 5 p0 0 (fun a7 => oGI σ2 5 p0 6 (fun x11 => oA (zk σ2 a7 = 2) (oB (fX1_number σ2 a7 (x11 + (4 : Int32))) (fun x12 => oGI σ2 5 p0 7 (fun x13 => (if x12 = x13 then fX4_chunkFault_179 σ2 p0 x4 v2 x12 else oGI σ2 5 p0 7 (fun x15 => (if x15 = (1229209940 : Int32) then fX4_chunkFault_147 σ2 p0 x4 v2 x12 else oGI σ2 5 p0 7 (fun x18 => (if x18 = (1717846356 : Int32) then fX4_chunkFault_147 σ2 p0 x4 v2 x12 else fX4_chunkFault_179 σ2 p0 x4 v2 x12)))))))))) else some (3, σ2)))))))))))))) else fX4_chunkFault_41 σ p0)))))))))))
set_option maxRecDepth 100000 in
theorem wX4_chunkFault {Γ : zG} (E : zE Γ cX4_chunkFault RX4 5 { frames := 5, cells := 0, slots := 0, locals := 126 }) (σ : zS) (p0 : Nat) {R : (Int32 × zS)} (h : fX4_chunkFault σ p0 = some R) (K : zRet Γ cX4_chunkFault 5 0 0 (some (.int R.1)) R.2) : zJ Γ 5 0 0 σ 0 [(0, .ref p0)] [] := by
  unfold fX4_chunkFault at h
  refine zj_aload_n E dX4_chunkFault_0 rfl 0 rfl ?_
  refine zs_getR E zc4 0 (by decide) zw_3_13 rfl dX4_chunkFault_1 h (fun a1 h => ?_)
  refine zs_getIN E zc1 1 (by decide) (znf_7) rfl dX4_chunkFault_4 h (fun x1 h => ?_)
  refine zj_aload_n E dX4_chunkFault_7 rfl 0 rfl ?_
  refine zs_getI E zc4 6 (by decide) zw_8_12 rfl dX4_chunkFault_8 h (fun x2 h => ?_)
  refine zj_isub E dX4_chunkFault_11 ?_
  refine zj_bipush (v := 12) E dX4_chunkFault_12 (by decide) ?_
  refine zj_isub E dX4_chunkFault_14 ?_
  refine zs_istore_n (lv2 := fun v1 => [(1, .int v1), (0, .ref p0)]) E dX4_chunkFault_15 rfl (by decide) (fun _ => rfl) h (fun v1 h => ?_)
  refine zj_aload_n E dX4_chunkFault_16 rfl 1 rfl ?_
  refine zs_getR E zc4 0 (by decide) zw_3_13 rfl dX4_chunkFault_17 h (fun a2 h => ?_)
  refine zj_aload_n E dX4_chunkFault_20 rfl 1 rfl ?_
  refine zs_getI E zc4 6 (by decide) zw_8_12 rfl dX4_chunkFault_21 h (fun x3 h => ?_)
  obtain ⟨hk, h⟩ := oA_some h
  obtain ⟨x4, hc, h⟩ := oB_some h
  refine zs_callV (As := [.int x3]) (rest := []) E zc1 zyX1_number zw_9_7 (kX1_number _ _ _ _ _ hc) rfl rfl hk rfl ⟨by decide, by decide⟩ ⟨by decide, by decide⟩ (Nat.le_of_ble_eq_true rfl) dX4_chunkFault_24 rfl (show zJ Γ 5 0 0 σ 27 [(1, .int v1), (0, .ref p0)] [.int x4] from ?_)
  refine zj_istore_n (lv2 := [(2, .int x4), (1, .int v1), (0, .ref p0)]) E dX4_chunkFault_27 rfl (by decide) rfl ?_
  refine zj_iload_n E dX4_chunkFault_28 rfl 1 rfl ?_
  refine zj_if_lt (tgt := 41) E dX4_chunkFault_29 (by decide) h (fun h => ?_) (fun h => ?_)
  · refine zj_lv [2] rfl ?_
    exact wX4_chunkFault_41 E _ _ h K
  · refine zj_iload_n E dX4_chunkFault_32 rfl 0 rfl ?_
    refine zj_if_lt (tgt := 41) E dX4_chunkFault_33 (by decide) h (fun h => ?_) (fun h => ?_)
    · refine zj_lv [2] rfl ?_
      exact wX4_chunkFault_41 E _ _ h K
    · refine zj_iload_n E dX4_chunkFault_36 rfl 0 rfl ?_
      refine zj_iload_n E dX4_chunkFault_37 rfl 1 rfl ?_
      refine zj_icmp_le (tgt := 54) E dX4_chunkFault_38 (by decide) h (fun h => ?_) (fun h => ?_)
      · refine zj_aload_n E dX4_chunkFault_54 rfl 2 rfl ?_
        refine zj_aload_n E dX4_chunkFault_55 rfl 2 rfl ?_
        refine zs_getI E zc4 6 (by decide) zw_8_12 rfl dX4_chunkFault_56 h (fun x6 h => ?_)
        refine zj_iconst (v := 4) E dX4_chunkFault_59 (by decide) ?_
        refine zj_iadd E dX4_chunkFault_60 ?_
        refine zs_putI E zc4 5 (by decide) zw_8_14 rfl rfl dX4_chunkFault_61 h (fun σ2 h => ?_)
        refine zj_aload_n E dX4_chunkFault_64 rfl 2 rfl ?_
        refine zs_getI E zc4 6 (by decide) zw_8_12 rfl dX4_chunkFault_65 h (fun x7 h => ?_)
        refine zj_bipush (v := 8) E dX4_chunkFault_68 (by decide) ?_
        refine zj_iadd E dX4_chunkFault_70 ?_
        refine zj_iload_n E dX4_chunkFault_71 rfl 0 rfl ?_
        refine zj_iadd E dX4_chunkFault_72 ?_
        refine zs_istore_n (lv2 := fun v2 => [(3, .int v2), (2, .int x4), (1, .int v1), (0, .ref p0)]) E dX4_chunkFault_73 rfl (by decide) (fun _ => rfl) h (fun v2 h => ?_)
        refine zj_aload_n E dX4_chunkFault_74 rfl 3 rfl ?_
        refine zs_getR E zc4 1 (by decide) zw_3_14 rfl dX4_chunkFault_75 h (fun a4 h => ?_)
        refine zj_aload_n E dX4_chunkFault_78 rfl 3 rfl ?_
        refine zs_getR E zc4 0 (by decide) zw_3_13 rfl dX4_chunkFault_79 h (fun a5 h => ?_)
        refine zj_aload_n E dX4_chunkFault_82 rfl 3 rfl ?_
        refine zs_getI E zc4 6 (by decide) zw_8_12 rfl dX4_chunkFault_83 h (fun x8 h => ?_)
        refine zj_iconst (v := 4) E dX4_chunkFault_86 (by decide) ?_
        refine zj_iadd E dX4_chunkFault_87 ?_
        refine zj_iload_n E dX4_chunkFault_88 rfl 0 rfl ?_
        obtain ⟨hk, h⟩ := oA_some h
        obtain ⟨x9, hc, h⟩ := oB_some h
        refine zs_callV (As := [.ref a5, .int (x8 + (4 : Int32)), .int v2]) (rest := []) E zc7 zyX8_ofChunk zw_9_11 (kX8_ofChunk _ _ _ _ _ hc) rfl rfl hk rfl ⟨by decide, by decide⟩ ⟨by decide, by decide⟩ (Nat.le_of_ble_eq_true rfl) dX4_chunkFault_89 rfl (show zJ Γ 5 0 0 σ2 92 [(3, .int v2), (2, .int x4), (1, .int v1), (0, .ref p0)] [.int x9] from ?_)
        refine zj_aload_n E dX4_chunkFault_92 rfl 3 rfl ?_
        refine zs_getR E zc4 0 (by decide) zw_3_13 rfl dX4_chunkFault_93 h (fun a6 h => ?_)
        refine zj_iload_n E dX4_chunkFault_96 rfl 0 rfl ?_
        obtain ⟨hk, h⟩ := oA_some h
        obtain ⟨x10, hc, h⟩ := oB_some h
        refine zs_callV (As := [.int v2]) (rest := [.int x9]) E zc1 zyX1_number zw_9_7 (kX1_number _ _ _ _ _ hc) rfl rfl hk rfl ⟨by decide, by decide⟩ ⟨by decide, by decide⟩ (Nat.le_of_ble_eq_true rfl) dX4_chunkFault_97 rfl (show zJ Γ 5 0 0 σ2 100 [(3, .int v2), (2, .int x4), (1, .int v1), (0, .ref p0)] [.int x10, .int x9] from ?_)
        refine zj_icmp_eq (tgt := 105) E dX4_chunkFault_100 (by decide) h (fun h => ?_) (fun h => ?_)
        · refine zj_aload_n E dX4_chunkFault_105 rfl 3 rfl ?_
          refine zs_getR E zc4 0 (by decide) zw_3_13 rfl dX4_chunkFault_106 h (fun a7 h => ?_)
          refine zj_aload_n E dX4_chunkFault_109 rfl 3 rfl ?_
          refine zs_getI E zc4 6 (by decide) zw_8_12 rfl dX4_chunkFault_110 h (fun x11 h => ?_)
          refine zj_iconst (v := 4) E dX4_chunkFault_113 (by decide) ?_
          refine zj_iadd E dX4_chunkFault_114 ?_
          obtain ⟨hk, h⟩ := oA_some h
          obtain ⟨x12, hc, h⟩ := oB_some h
          refine zs_callV (As := [.int (x11 + (4 : Int32))]) (rest := []) E zc1 zyX1_number zw_9_7 (kX1_number _ _ _ _ _ hc) rfl rfl hk rfl ⟨by decide, by decide⟩ ⟨by decide, by decide⟩ (Nat.le_of_ble_eq_true rfl) dX4_chunkFault_115 rfl (show zJ Γ 5 0 0 σ2 118 [(3, .int v2), (2, .int x4), (1, .int v1), (0, .ref p0)] [.int x12] from ?_)
          refine zj_istore (lv2 := [(4, .int x12), (3, .int v2), (2, .int x4), (1, .int v1), (0, .ref p0)]) E dX4_chunkFault_118 (by decide) rfl ?_
          refine zj_iload E dX4_chunkFault_120 0 rfl ?_
          refine zj_aload_n E dX4_chunkFault_122 rfl 4 rfl ?_
          refine zs_getI E zc4 7 (by decide) zw_8_8 rfl dX4_chunkFault_123 h (fun x13 h => ?_)
          refine zj_icmp_eq (tgt := 179) E dX4_chunkFault_126 (by decide) h (fun h => ?_) (fun h => ?_)
          · refine zj_lv [4, 2, 1, 0] rfl ?_
            exact wX4_chunkFault_179 E _ _ _ _ _ h K
          · refine zj_aload_n E dX4_chunkFault_129 rfl 4 rfl ?_
            refine zs_getI E zc4 7 (by decide) zw_8_8 rfl dX4_chunkFault_130 h (fun x15 h => ?_)
            refine zj_ldc (v := 1229209940) E zw_9_5 dX4_chunkFault_133 ?_
            refine zj_icmp_eq (tgt := 147) E dX4_chunkFault_135 (by decide) h (fun h => ?_) (fun h => ?_)
            · refine zj_lv [4, 2, 1, 0] rfl ?_
              exact wX4_chunkFault_147 E _ _ _ _ _ h K
            · refine zj_aload_n E dX4_chunkFault_138 rfl 4 rfl ?_
              refine zs_getI E zc4 7 (by decide) zw_8_8 rfl dX4_chunkFault_139 h (fun x18 h => ?_)
              refine zj_ldc (v := 1717846356) E zw_9_6 dX4_chunkFault_142 ?_
              refine zj_icmp_ne (tgt := 179) E dX4_chunkFault_144 (by decide) h (fun h => ?_) (fun h => ?_)
              · refine zj_lv [4, 2, 1, 0] rfl ?_
                exact wX4_chunkFault_179 E _ _ _ _ _ h K
              · refine zj_lv [4, 2, 1, 0] rfl ?_
                exact wX4_chunkFault_147 E _ _ _ _ _ h K
        · refine zj_iconst (v := 3) E dX4_chunkFault_103 (by decide) ?_
          have e9 := Option.some.inj h
          subst e9
          exact (show zRet Γ cX4_chunkFault 5 0 0 (some (.int 3)) σ2 from K) _ _ dX4_chunkFault_104
      · refine zj_lv [2] rfl ?_
        exact wX4_chunkFault_41 E _ _ h K
set_option maxRecDepth 100000 in
theorem kX4_chunkFault (l : Launch) (D : va_G) (cs : zCs) (z0 : Nat) (σ : zS) {p0 : Nat} {r : Int32} {σ' : zS} (h : fX4_chunkFault σ p0 = some (r, σ')) : zM l D cs z0 yX4_chunkFault cX4_chunkFault 5 (some .int) { frames := 5, cells := 0, slots := 0, locals := 126 } [.ref p0] σ (some (.int r)) σ' 0 0 := by
  exact zM_of (by decide) rfl (Or.inl rfl) (Nat.le_of_ble_eq_true rfl) rfl (fun Γ e1 e2 e3 e4 E hN K => wX4_chunkFault E σ _ h K)
/-! X4_run -/
def jX4_run_37 (Γ : zG) (l0 : Nat) : (Int32 × zS) → Prop := fun x => zJ Γ 3 0 0 x.2 37 [(0, .ref l0), (1, .int x.1)] []
def eX4_run_37 (Γ : zG) (l0 : Nat) : (zS ⊕ (Int32 × zS)) → Prop := Sum.elim (fun b => zJ Γ 3 0 0 b 70 [(0, .ref l0)] []) (fun r => zRet Γ cX4_run 3 0 0 (some (.int r.1)) r.2)
def bX4_run_37 (l0 : Nat) (l1 : Int32) (σ : zS) : Option ((Int32 × zS) ⊕ (zS ⊕ (Int32 × zS))) := (if (8000 : Int32) ≤ l1 then some (.inr (.inl σ)) else oGI σ 5 l0 7 (fun x2 => (if x2 = (1229278788 : Int32) then some (.inr (.inl σ)) else oA (zk σ l0 = 5) (oC (fX4_chunkFault σ l0) (fun x3 σ7 => (if x3 = 0 then oL (l1 + 1) (fun v1 => some (.inl (v1, σ7))) else some (.inr (.inr (x3, σ7)))))))))
set_option maxRecDepth 100000 in
theorem wX4_run_L37 {Γ : zG} (E : zE Γ cX4_run RX4 3 { frames := 6, cells := 0, slots := 0, locals := 150 }) (l0 : Nat) : ∀ x R, (fun x => bX4_run_37 l0 x.1 x.2) x = some R → Sum.elim (jX4_run_37 Γ l0) (eX4_run_37 Γ l0) R → jX4_run_37 Γ l0 x := by
  intro x R h K
  obtain ⟨l1, σ⟩ := x
  have h : bX4_run_37 l0 l1 σ = some R := h
  show zJ Γ 3 0 0 σ 37 [(0, .ref l0), (1, .int l1)] []
  unfold bX4_run_37 at h
  refine zj_iload_n E dX4_run_37 rfl 1 rfl ?_
  refine zj_sipush (v := 8000) E dX4_run_38 (by decide) ?_
  refine zj_icmp_ge (tgt := 70) E dX4_run_41 (by decide) h (fun h => ?_) (fun h => ?_)
  · have e9 := Option.some.inj h
    subst e9
    refine zj_lv [0] rfl ?_
    exact K
  · refine zj_aload_n E dX4_run_44 rfl 0 rfl ?_
    refine zs_getI E zc4 7 (by decide) zw_8_8 rfl dX4_run_45 h (fun x2 h => ?_)
    refine zj_ldc (v := 1229278788) E zw_8_13 dX4_run_48 ?_
    refine zj_icmp_eq (tgt := 70) E dX4_run_50 (by decide) h (fun h => ?_) (fun h => ?_)
    · have e9 := Option.some.inj h
      subst e9
      refine zj_lv [0] rfl ?_
      exact K
    · refine zj_aload_n E dX4_run_53 rfl 0 rfl ?_
      obtain ⟨hk, h⟩ := oA_some h
      obtain ⟨x3, σ7, hc, h⟩ := oC_some h
      refine zs_callV (As := []) (rest := []) E zc4 zyX4_chunkFault zw_9_1 (kX4_chunkFault _ _ _ _ _ hc) rfl rfl hk rfl ⟨by decide, by decide⟩ ⟨by decide, by decide⟩ (Nat.le_of_ble_eq_true rfl) dX4_run_54 rfl (show zJ Γ 3 0 0 σ7 57 [(0, .ref l0), (1, .int l1)] [.int x3] from ?_)
      refine zj_istore_n (lv2 := [(2, .int x3), (0, .ref l0), (1, .int l1)]) E dX4_run_57 rfl (by decide) rfl ?_
      refine zj_iload_n E dX4_run_58 rfl 0 rfl ?_
      refine zj_if_eq (tgt := 64) E dX4_run_59 (by decide) h (fun h => ?_) (fun h => ?_)
      · refine zs_iinc (lv2 := fun v1 => [(1, .int v1), (2, .int x3), (0, .ref l0)]) E dX4_run_64 2 rfl (by decide) (by decide) (fun _ => rfl) h (fun v1 h => ?_)
        refine zj_goto (tgt := 37) E dX4_run_67 (by decide) ?_
        have e9 := Option.some.inj h
        subst e9
        refine zj_lv [2, 0] rfl ?_
        exact K
      · refine zj_iload_n E dX4_run_62 rfl 0 rfl ?_
        have e9 := Option.some.inj h
        subst e9
        exact (show zRet Γ cX4_run 3 0 0 (some (.int x3)) σ7 from K) _ _ dX4_run_63
def fX4_run (σ : zS) (p0 : Nat) : Option (Int32 × zS) := oPI σ 5 p0 7 0 (fun σ1 => oPI σ1 5 p0 8 0 (fun σ2 => oPI σ2 5 p0 9 0 (fun σ3 => oPZ σ3 5 p0 10 0 (fun σ4 => oA (zk σ4 p0 = 5) (oC (fX4_startsAsFile σ4 p0) (fun x1 σ5 => (if x1 = 0 then some (1, σ5) else oPI σ5 5 p0 6 8 (fun σ6 => oB (zloop zF (fun x => bX4_run_37 p0 x.1 x.2) (0, σ6)) (fun b1 => oS b1 (fun c1 => (fun σ8 => oGI σ8 5 p0 6 (fun x4 => oPI σ8 5 p0 5 x4 (fun σ9 => oGI σ9 5 p0 6 (fun x5 => oGR σ9 5 p0 0 (fun a1 => oGI σ9 2 a1 1 (fun x6 => (if x6 ≤ x5 then some (0, σ9) else some (4, σ9)))))))) c1) (fun r1 => some r1))))))))))
set_option maxRecDepth 100000 in
theorem wX4_run {Γ : zG} (E : zE Γ cX4_run RX4 3 { frames := 6, cells := 0, slots := 0, locals := 150 }) (σ : zS) (p0 : Nat) {R : (Int32 × zS)} (h : fX4_run σ p0 = some R) (K : zRet Γ cX4_run 3 0 0 (some (.int R.1)) R.2) : zJ Γ 3 0 0 σ 0 [(0, .ref p0)] [] := by
  unfold fX4_run at h
  refine zj_aload_n E dX4_run_0 rfl 0 rfl ?_
  refine zj_iconst (v := 0) E dX4_run_1 (by decide) ?_
  refine zs_putI E zc4 7 (by decide) zw_8_8 rfl rfl dX4_run_2 h (fun σ1 h => ?_)
  refine zj_aload_n E dX4_run_5 rfl 0 rfl ?_
  refine zj_iconst (v := 0) E dX4_run_6 (by decide) ?_
  refine zs_putI E zc4 8 (by decide) zw_8_9 rfl rfl dX4_run_7 h (fun σ2 h => ?_)
  refine zj_aload_n E dX4_run_10 rfl 0 rfl ?_
  refine zj_iconst (v := 0) E dX4_run_11 (by decide) ?_
  refine zs_putI E zc4 9 (by decide) zw_8_10 rfl rfl dX4_run_12 h (fun σ3 h => ?_)
  refine zj_aload_n E dX4_run_15 rfl 0 rfl ?_
  refine zj_iconst (v := 0) E dX4_run_16 (by decide) ?_
  refine zs_putZ E zc4 10 (by decide) zw_8_11 rfl rfl dX4_run_17 h (fun σ4 h => ?_)
  refine zj_aload_n E dX4_run_20 rfl 0 rfl ?_
  obtain ⟨hk, h⟩ := oA_some h
  obtain ⟨x1, σ5, hc, h⟩ := oC_some h
  refine zs_callV (As := []) (rest := []) E zc4 zyX4_startsAsFile zw_8_15 (kX4_startsAsFile _ _ _ _ _ hc) rfl rfl hk rfl ⟨by decide, by decide⟩ ⟨by decide, by decide⟩ (Nat.le_of_ble_eq_true rfl) dX4_run_21 rfl (show zJ Γ 3 0 0 σ5 24 [(0, .ref p0)] [.int x1] from ?_)
  refine zj_if_ne (tgt := 29) E dX4_run_24 (by decide) h (fun h => ?_) (fun h => ?_)
  · refine zj_aload_n E dX4_run_29 rfl 0 rfl ?_
    refine zj_bipush (v := 8) E dX4_run_30 (by decide) ?_
    refine zs_putI E zc4 6 (by decide) zw_8_12 rfl rfl dX4_run_32 h (fun σ6 h => ?_)
    refine zj_iconst (v := 0) E dX4_run_35 (by decide) ?_
    refine zj_istore_n (lv2 := [(1, .int 0), (0, .ref p0)]) E dX4_run_36 rfl (by decide) rfl ?_
    obtain ⟨b1, hb1, h⟩ := oB_some h
    refine zj_lv [1, 0] rfl ?_
    refine zj_loop (wX4_run_L37 E p0) zF (0, σ6) b1 hb1 ?_
    cases b1 with
    | inr r1 =>
      have e9 := Option.some.inj h
      subst e9
      exact K
    | inl c1 =>
      obtain ⟨σ8, rfl⟩ : ∃ z, z = c1 := ⟨_, rfl⟩
      dsimp only [oS] at h
      show zJ Γ 3 0 0 σ8 70 [(0, .ref p0)] []
      refine zj_aload_n E dX4_run_70 rfl 0 rfl ?_
      refine zj_aload_n E dX4_run_71 rfl 0 rfl ?_
      refine zs_getI E zc4 6 (by decide) zw_8_12 rfl dX4_run_72 h (fun x4 h => ?_)
      refine zs_putI E zc4 5 (by decide) zw_8_14 rfl rfl dX4_run_75 h (fun σ9 h => ?_)
      refine zj_aload_n E dX4_run_78 rfl 0 rfl ?_
      refine zs_getI E zc4 6 (by decide) zw_8_12 rfl dX4_run_79 h (fun x5 h => ?_)
      refine zj_aload_n E dX4_run_82 rfl 0 rfl ?_
      refine zs_getR E zc4 0 (by decide) zw_3_13 rfl dX4_run_83 h (fun a1 h => ?_)
      refine zs_getIN E zc1 1 (by decide) (znf_7) rfl dX4_run_86 h (fun x6 h => ?_)
      refine zj_icmp_ge (tgt := 96) E dX4_run_89 (by decide) h (fun h => ?_) (fun h => ?_)
      · refine zj_iconst (v := 0) E dX4_run_96 (by decide) ?_
        have e9 := Option.some.inj h
        subst e9
        exact (show zRet Γ cX4_run 3 0 0 (some (.int 0)) σ9 from K) _ _ dX4_run_97
      · refine zj_iconst (v := 4) E dX4_run_92 (by decide) ?_
        refine zj_goto (tgt := 97) E dX4_run_93 (by decide) ?_
        have e9 := Option.some.inj h
        subst e9
        exact (show zRet Γ cX4_run 3 0 0 (some (.int 4)) σ9 from K) _ _ dX4_run_97
  · refine zj_iconst (v := 1) E dX4_run_27 (by decide) ?_
    have e9 := Option.some.inj h
    subst e9
    exact (show zRet Γ cX4_run 3 0 0 (some (.int 1)) σ5 from K) _ _ dX4_run_28
set_option maxRecDepth 100000 in
theorem kX4_run (l : Launch) (D : va_G) (cs : zCs) (z0 : Nat) (σ : zS) {p0 : Nat} {r : Int32} {σ' : zS} (h : fX4_run σ p0 = some (r, σ')) : zM l D cs z0 yX4_run cX4_run 3 (some .int) { frames := 6, cells := 0, slots := 0, locals := 150 } [.ref p0] σ (some (.int r)) σ' 0 0 := by
  exact zM_of (by decide) rfl (Or.inl rfl) (Nat.le_of_ble_eq_true rfl) rfl (fun Γ e1 e2 e3 e4 E hN K => wX4_run E σ _ h K)
