/-! X12_lay -/
def jX12_lay_19 (Γ : zG) (l0 : Nat) (l1 : Int32) (l2 : Int32) (l3 : Int32) : (Int32 × zS) → Prop := fun x => zJ Γ 7 0 0 x.2 19 [(0, .ref l0), (1, .int l1), (2, .int l2), (3, .int l3), (4, .int x.1)] []
def eX12_lay_19 (Γ : zG) (l0 : Nat) (l1 : Int32) (l2 : Int32) (l3 : Int32) : zS → Prop := fun b => zJ Γ 7 0 0 b 115 [] []
def fX12_lay_108 (σ : zS) (l0 : Nat) (l1 : Int32) (l2 : Int32) (l3 : Int32) (l4 : Int32) (s0 : Int32) (s1 : Int32) (s2 : Nat) : Option ((Int32 × zS) ⊕ zS) := oSt σ 21 s2 s1 s0 (fun σ1 => oL (l4 + 1) (fun v2 => some (.inl (v2, σ1))))
set_option maxRecDepth 100000 in
theorem wX12_lay_108 {Γ : zG} (E : zE Γ cX12_lay RX12 7 { frames := 1, cells := 0, slots := 0, locals := 27 }) (σ : zS) (l0 : Nat) (l1 : Int32) (l2 : Int32) (l3 : Int32) (l4 : Int32) (s0 : Int32) (s1 : Int32) (s2 : Nat) {R : ((Int32 × zS) ⊕ zS)} (h : fX12_lay_108 σ l0 l1 l2 l3 l4 s0 s1 s2 = some R) (K : Sum.elim (jX12_lay_19 Γ l0 l1 l2 l3) (eX12_lay_19 Γ l0 l1 l2 l3) R) : zJ Γ 7 0 0 σ 108 [(0, .ref l0), (1, .int l1), (2, .int l2), (3, .int l3), (4, .int l4)] [.int s0, .int s1, .ref s2] := by
  unfold fX12_lay_108 at h
  refine zs_iast E dX12_lay_108 h (fun σ1 h => ?_)
  refine zs_iinc (lv2 := fun v2 => [(4, .int v2), (0, .ref l0), (1, .int l1), (2, .int l2), (3, .int l3)]) E dX12_lay_109 4 rfl (by decide) (by decide) (fun _ => rfl) h (fun v2 h => ?_)
  refine zj_goto (tgt := 19) E dX12_lay_112 (by decide) ?_
  have e9 := Option.some.inj h
  subst e9
  refine zj_lv [1, 2, 3, 4, 0] rfl ?_
  exact K
def bX12_lay_19 (l0 : Nat) (l1 : Int32) (l2 : Int32) (l3 : Int32) (l4 : Int32) (σ : zS) : Option ((Int32 × zS) ⊕ zS) := (if (l2 * l3) ≤ l4 then some (.inr σ) else oGI σ 12 l0 8 (fun x3 => oA (zk σ l0 = 12) (oB (fX12_region σ l0 0 l1 3) (fun x4 => oA (¬ l2 = 0) (oA (zk σ l0 = 12) (oB (fX12_region σ l0 0 l1 2) (fun x5 => oA (¬ l2 = 0) (oL (((x3 * (x4 + (l4 / l2))) + x5) + (l4 - l4 / l2 * l2)) (fun v1 => oGR σ 12 l0 6 (fun a1 => oLd σ 21 a1 (((256 : Int32) * l1) + l4) (fun x6 => oGR σ 12 l0 10 (fun a2 => oA (zk σ l0 = 12) (oB (fX12_region σ l0 0 l1 5) (fun x7 => (if x7 = (1 : Int32) then oGR σ 12 l0 10 (fun a3 => oLd σ 21 a3 v1 (fun x8 => oB (fX12_over σ x6 x8) (fun x9 => fX12_lay_108 σ l0 l1 l2 l3 l4 x9 v1 a2))) else fX12_lay_108 σ l0 l1 l2 l3 l4 x6 v1 a2)))))))))))))))
set_option maxRecDepth 100000 in
theorem wX12_lay_L19 {Γ : zG} (E : zE Γ cX12_lay RX12 7 { frames := 1, cells := 0, slots := 0, locals := 27 }) (l0 : Nat) (l1 : Int32) (l2 : Int32) (l3 : Int32) : ∀ x R, (fun x => bX12_lay_19 l0 l1 l2 l3 x.1 x.2) x = some R → Sum.elim (jX12_lay_19 Γ l0 l1 l2 l3) (eX12_lay_19 Γ l0 l1 l2 l3) R → jX12_lay_19 Γ l0 l1 l2 l3 x := by
  intro x R h K
  obtain ⟨l4, σ⟩ := x
  have h : bX12_lay_19 l0 l1 l2 l3 l4 σ = some R := h
  show zJ Γ 7 0 0 σ 19 [(0, .ref l0), (1, .int l1), (2, .int l2), (3, .int l3), (4, .int l4)] []
  unfold bX12_lay_19 at h
  refine zj_iload E dX12_lay_19 4 rfl ?_
  refine zj_iload_n E dX12_lay_21 rfl 2 rfl ?_
  refine zj_iload_n E dX12_lay_22 rfl 3 rfl ?_
  refine zj_imul E dX12_lay_23 ?_
  refine zj_icmp_ge (tgt := 115) E dX12_lay_24 (by decide) h (fun h => ?_) (fun h => ?_)
  · have e9 := Option.some.inj h
    subst e9
    refine zj_lv [] rfl ?_
    exact K
  · refine zj_aload_n E dX12_lay_27 rfl 0 rfl ?_
    refine zs_getI E zc11 8 (by decide) zw_28_16 rfl dX12_lay_28 h (fun x3 h => ?_)
    refine zj_aload_n E dX12_lay_31 rfl 0 rfl ?_
    refine zj_iconst (v := 0) E dX12_lay_32 (by decide) ?_
    refine zj_iload_n E dX12_lay_33 rfl 1 rfl ?_
    refine zj_iconst (v := 3) E dX12_lay_34 (by decide) ?_
    obtain ⟨hk, h⟩ := oA_some h
    obtain ⟨x4, hc, h⟩ := oB_some h
    refine zs_callV (As := [.int 0, .int l1, .int 3]) (rest := [.int x3]) E zc11 zyX12_region zw_22_1 (kX12_region _ _ _ _ _ hc) rfl rfl hk rfl ⟨by decide, by decide⟩ ⟨by decide, by decide⟩ (Nat.le_of_ble_eq_true rfl) dX12_lay_35 rfl (show zJ Γ 7 0 0 σ 38 [(0, .ref l0), (1, .int l1), (2, .int l2), (3, .int l3), (4, .int l4)] [.int x4, .int x3] from ?_)
    refine zj_iload E dX12_lay_38 4 rfl ?_
    refine zj_iload_n E dX12_lay_40 rfl 2 rfl ?_
    obtain ⟨hne, h⟩ := oA_some h
    refine zj_idiv E dX12_lay_41 hne ?_
    refine zj_iadd E dX12_lay_42 ?_
    refine zj_imul E dX12_lay_43 ?_
    refine zj_aload_n E dX12_lay_44 rfl 0 rfl ?_
    refine zj_iconst (v := 0) E dX12_lay_45 (by decide) ?_
    refine zj_iload_n E dX12_lay_46 rfl 1 rfl ?_
    refine zj_iconst (v := 2) E dX12_lay_47 (by decide) ?_
    obtain ⟨hk, h⟩ := oA_some h
    obtain ⟨x5, hc, h⟩ := oB_some h
    refine zs_callV (As := [.int 0, .int l1, .int 2]) (rest := [.int (x3 * (x4 + (l4 / l2)))]) E zc11 zyX12_region zw_22_1 (kX12_region _ _ _ _ _ hc) rfl rfl hk rfl ⟨by decide, by decide⟩ ⟨by decide, by decide⟩ (Nat.le_of_ble_eq_true rfl) dX12_lay_48 rfl (show zJ Γ 7 0 0 σ 51 [(0, .ref l0), (1, .int l1), (2, .int l2), (3, .int l3), (4, .int l4)] [.int x5, .int (x3 * (x4 + (l4 / l2)))] from ?_)
    refine zj_iadd E dX12_lay_51 ?_
    refine zj_iload E dX12_lay_52 4 rfl ?_
    refine zj_iload_n E dX12_lay_54 rfl 2 rfl ?_
    obtain ⟨hne, h⟩ := oA_some h
    refine zj_irem E dX12_lay_55 hne ?_
    refine zj_iadd E dX12_lay_56 ?_
    refine zs_istore (lv2 := fun v1 => [(5, .int v1), (0, .ref l0), (1, .int l1), (2, .int l2), (3, .int l3), (4, .int l4)]) E dX12_lay_57 (by decide) (fun _ => rfl) h (fun v1 h => ?_)
    refine zj_aload_n E dX12_lay_59 rfl 1 rfl ?_
    refine zs_getR E zc11 6 (by decide) zw_6_7 rfl dX12_lay_60 h (fun a1 h => ?_)
    refine zj_sipush (v := 256) E dX12_lay_63 (by decide) ?_
    refine zj_iload_n E dX12_lay_66 rfl 2 rfl ?_
    refine zj_imul E dX12_lay_67 ?_
    refine zj_iload E dX12_lay_68 5 rfl ?_
    refine zj_iadd E dX12_lay_70 ?_
    refine zs_iald E dX12_lay_71 h (fun x6 h => ?_)
    refine zj_istore (lv2 := [(6, .int x6), (5, .int v1), (0, .ref l0), (1, .int l1), (2, .int l2), (3, .int l3), (4, .int l4)]) E dX12_lay_72 (by decide) rfl ?_
    refine zj_aload_n E dX12_lay_74 rfl 2 rfl ?_
    refine zs_getR E zc11 10 (by decide) zw_6_8 rfl dX12_lay_75 h (fun a2 h => ?_)
    refine zj_iload E dX12_lay_78 1 rfl ?_
    refine zj_aload_n E dX12_lay_80 rfl 2 rfl ?_
    refine zj_iconst (v := 0) E dX12_lay_81 (by decide) ?_
    refine zj_iload_n E dX12_lay_82 rfl 3 rfl ?_
    refine zj_iconst (v := 5) E dX12_lay_83 (by decide) ?_
    obtain ⟨hk, h⟩ := oA_some h
    obtain ⟨x7, hc, h⟩ := oB_some h
    refine zs_callV (As := [.int 0, .int l1, .int 5]) (rest := [.int v1, .ref a2]) E zc11 zyX12_region zw_22_1 (kX12_region _ _ _ _ _ hc) rfl rfl hk rfl ⟨by decide, by decide⟩ ⟨by decide, by decide⟩ (Nat.le_of_ble_eq_true rfl) dX12_lay_84 rfl (show zJ Γ 7 0 0 σ 87 [(6, .int x6), (5, .int v1), (0, .ref l0), (1, .int l1), (2, .int l2), (3, .int l3), (4, .int l4)] [.int x7, .int v1, .ref a2] from ?_)
    refine zj_iconst (v := 1) E dX12_lay_87 (by decide) ?_
    refine zj_icmp_ne (tgt := 106) E dX12_lay_88 (by decide) h (fun h => ?_) (fun h => ?_)
    · refine zj_iload E dX12_lay_106 0 rfl ?_
      refine zj_lv [2, 3, 4, 5, 6] rfl ?_
      exact wX12_lay_108 E _ _ _ _ _ _ _ _ _ h K
    · refine zj_iload E dX12_lay_91 0 rfl ?_
      refine zj_aload_n E dX12_lay_93 rfl 2 rfl ?_
      refine zs_getR E zc11 10 (by decide) zw_6_8 rfl dX12_lay_94 h (fun a3 h => ?_)
      refine zj_iload E dX12_lay_97 1 rfl ?_
      refine zs_iald E dX12_lay_99 h (fun x8 h => ?_)
      obtain ⟨x9, hc, h⟩ := oB_some h
      refine zs_callS (As := [.int x6, .int x8]) (rest := [.int v1, .ref a2]) E zyX12_over zw_28_22 (kX12_over _ _ _ _ _ hc) rfl rfl rfl ⟨by decide, by decide⟩ ⟨by decide, by decide⟩ (Nat.le_of_ble_eq_true rfl) dX12_lay_100 rfl (show zJ Γ 7 0 0 σ 103 [(6, .int x6), (5, .int v1), (0, .ref l0), (1, .int l1), (2, .int l2), (3, .int l3), (4, .int l4)] [.int x9, .int v1, .ref a2] from ?_)
      refine zj_goto (tgt := 108) E dX12_lay_103 (by decide) ?_
      refine zj_lv [2, 3, 4, 5, 6] rfl ?_
      exact wX12_lay_108 E _ _ _ _ _ _ _ _ _ h K
def fX12_lay (σ : zS) (p0 : Nat) (p1 : Int32) : Option zS := oA (zk σ p0 = 12) (oB (fX12_region σ p0 0 p1 0) (fun x1 => oA (zk σ p0 = 12) (oB (fX12_region σ p0 0 p1 1) (fun x2 => oB (zloop zF (fun x => bX12_lay_19 p0 p1 x1 x2 x.1 x.2) (0, σ)) (fun b1 => (fun σ2 => some σ2) b1)))))
set_option maxRecDepth 100000 in
theorem wX12_lay {Γ : zG} (E : zE Γ cX12_lay RX12 7 { frames := 1, cells := 0, slots := 0, locals := 27 }) (σ : zS) (p0 : Nat) (p1 : Int32) {R : zS} (h : fX12_lay σ p0 p1 = some R) (K : zRet Γ cX12_lay 7 0 0 (none) R) : zJ Γ 7 0 0 σ 0 [(0, .ref p0), (1, .int p1)] [] := by
  unfold fX12_lay at h
  refine zj_aload_n E dX12_lay_0 rfl 0 rfl ?_
  refine zj_iconst (v := 0) E dX12_lay_1 (by decide) ?_
  refine zj_iload_n E dX12_lay_2 rfl 1 rfl ?_
  refine zj_iconst (v := 0) E dX12_lay_3 (by decide) ?_
  obtain ⟨hk, h⟩ := oA_some h
  obtain ⟨x1, hc, h⟩ := oB_some h
  refine zs_callV (As := [.int 0, .int p1, .int 0]) (rest := []) E zc11 zyX12_region zw_22_1 (kX12_region _ _ _ _ _ hc) rfl rfl hk rfl ⟨by decide, by decide⟩ ⟨by decide, by decide⟩ (Nat.le_of_ble_eq_true rfl) dX12_lay_4 rfl (show zJ Γ 7 0 0 σ 7 [(0, .ref p0), (1, .int p1)] [.int x1] from ?_)
  refine zj_istore_n (lv2 := [(2, .int x1), (0, .ref p0), (1, .int p1)]) E dX12_lay_7 rfl (by decide) rfl ?_
  refine zj_aload_n E dX12_lay_8 rfl 1 rfl ?_
  refine zj_iconst (v := 0) E dX12_lay_9 (by decide) ?_
  refine zj_iload_n E dX12_lay_10 rfl 2 rfl ?_
  refine zj_iconst (v := 1) E dX12_lay_11 (by decide) ?_
  obtain ⟨hk, h⟩ := oA_some h
  obtain ⟨x2, hc, h⟩ := oB_some h
  refine zs_callV (As := [.int 0, .int p1, .int 1]) (rest := []) E zc11 zyX12_region zw_22_1 (kX12_region _ _ _ _ _ hc) rfl rfl hk rfl ⟨by decide, by decide⟩ ⟨by decide, by decide⟩ (Nat.le_of_ble_eq_true rfl) dX12_lay_12 rfl (show zJ Γ 7 0 0 σ 15 [(2, .int x1), (0, .ref p0), (1, .int p1)] [.int x2] from ?_)
  refine zj_istore_n (lv2 := [(3, .int x2), (2, .int x1), (0, .ref p0), (1, .int p1)]) E dX12_lay_15 rfl (by decide) rfl ?_
  refine zj_iconst (v := 0) E dX12_lay_16 (by decide) ?_
  refine zj_istore (lv2 := [(4, .int 0), (3, .int x2), (2, .int x1), (0, .ref p0), (1, .int p1)]) E dX12_lay_17 (by decide) rfl ?_
  obtain ⟨b1, hb1, h⟩ := oB_some h
  refine zj_lv [3, 4, 2, 1, 0] rfl ?_
  refine zj_loop (wX12_lay_L19 E p0 p1 x1 x2) zF (0, σ) b1 hb1 ?_
  obtain ⟨σ2, rfl⟩ : ∃ z, z = b1 := ⟨_, rfl⟩
  try dsimp only at h
  show zJ Γ 7 0 0 σ2 115 [] []
  have e9 := Option.some.inj h
  subst e9
  exact (show zRet Γ cX12_lay 7 0 0 (none) σ2 from K) _ _ dX12_lay_115
set_option maxRecDepth 100000 in
theorem kX12_lay (l : Launch) (D : va_G) (cs : zCs) (z0 : Nat) (σ : zS) {p0 : Nat} {p1 : Int32}  {σ' : zS} (h : fX12_lay σ p0 p1 = some σ') : zM l D cs z0 yX12_lay cX12_lay 7 none { frames := 1, cells := 0, slots := 0, locals := 27 } [.ref p0, .int p1] σ none σ' 0 0 := by
  exact zM_of (by decide) rfl rfl (Nat.le_of_ble_eq_true rfl) rfl (fun Γ e1 e2 e3 e4 E hN K => wX12_lay E σ _ _ h K)
/-! X12_dispose -/
def jX12_dispose_47 (Γ : zG) (l0 : Nat) (l1 : Int32) (l2 : Int32) (l3 : Int32) (l4 : Int32) : (Int32 × zS) → Prop := fun x => zJ Γ 7 0 0 x.2 47 [(0, .ref l0), (1, .int l1), (2, .int l2), (3, .int l3), (4, .int l4), (5, .int x.1)] []
def eX12_dispose_47 (Γ : zG) (l0 : Nat) (l1 : Int32) (l2 : Int32) (l3 : Int32) (l4 : Int32) : zS → Prop := fun b => zJ Γ 7 0 0 b 122 [] []
def fX12_dispose_115 (σ : zS) (l0 : Nat) (l1 : Int32) (l2 : Int32) (l3 : Int32) (l4 : Int32) (l5 : Int32) (s0 : Int32) (s1 : Int32) (s2 : Nat) : Option ((Int32 × zS) ⊕ zS) := oSt σ 21 s2 s1 s0 (fun σ1 => oL (l5 + 1) (fun v2 => some (.inl (v2, σ1))))
set_option maxRecDepth 100000 in
theorem wX12_dispose_115 {Γ : zG} (E : zE Γ cX12_dispose RX12 7 { frames := 1, cells := 0, slots := 0, locals := 23 }) (σ : zS) (l0 : Nat) (l1 : Int32) (l2 : Int32) (l3 : Int32) (l4 : Int32) (l5 : Int32) (s0 : Int32) (s1 : Int32) (s2 : Nat) {R : ((Int32 × zS) ⊕ zS)} (h : fX12_dispose_115 σ l0 l1 l2 l3 l4 l5 s0 s1 s2 = some R) (K : Sum.elim (jX12_dispose_47 Γ l0 l1 l2 l3 l4) (eX12_dispose_47 Γ l0 l1 l2 l3 l4) R) : zJ Γ 7 0 0 σ 115 [(0, .ref l0), (1, .int l1), (2, .int l2), (3, .int l3), (4, .int l4), (5, .int l5)] [.int s0, .int s1, .ref s2] := by
  unfold fX12_dispose_115 at h
  refine zs_iast E dX12_dispose_115 h (fun σ1 h => ?_)
  refine zs_iinc (lv2 := fun v2 => [(5, .int v2), (0, .ref l0), (1, .int l1), (2, .int l2), (3, .int l3), (4, .int l4)]) E dX12_dispose_116 5 rfl (by decide) (by decide) (fun _ => rfl) h (fun v2 h => ?_)
  refine zj_goto (tgt := 47) E dX12_dispose_119 (by decide) ?_
  have e9 := Option.some.inj h
  subst e9
  refine zj_lv [1, 2, 3, 4, 5, 0] rfl ?_
  exact K
def bX12_dispose_47 (l0 : Nat) (l1 : Int32) (l2 : Int32) (l3 : Int32) (l4 : Int32) (l5 : Int32) (σ : zS) : Option ((Int32 × zS) ⊕ zS) := (if (l2 * l3) ≤ l5 then some (.inr σ) else (if l4 ≤ 0 then some (.inr σ) else oGI σ 12 l0 8 (fun x4 => oA (zk σ l0 = 12) (oB (fX12_region σ l0 0 l1 3) (fun x5 => oA (¬ l2 = 0) (oA (zk σ l0 = 12) (oB (fX12_region σ l0 0 l1 2) (fun x6 => oA (¬ l2 = 0) (oL (((x4 * (x5 + (l5 / l2))) + x6) + (l5 - l5 / l2 * l2)) (fun v1 => oGR σ 12 l0 10 (fun a1 => (if l4 = (1 : Int32) then fX12_dispose_115 σ l0 l1 l2 l3 l4 l5 0 v1 a1 else oGR σ 12 l0 11 (fun a2 => oLd σ 21 a2 v1 (fun x7 => fX12_dispose_115 σ l0 l1 l2 l3 l4 l5 x7 v1 a1))))))))))))))
set_option maxRecDepth 100000 in
theorem wX12_dispose_L47 {Γ : zG} (E : zE Γ cX12_dispose RX12 7 { frames := 1, cells := 0, slots := 0, locals := 23 }) (l0 : Nat) (l1 : Int32) (l2 : Int32) (l3 : Int32) (l4 : Int32) : ∀ x R, (fun x => bX12_dispose_47 l0 l1 l2 l3 l4 x.1 x.2) x = some R → Sum.elim (jX12_dispose_47 Γ l0 l1 l2 l3 l4) (eX12_dispose_47 Γ l0 l1 l2 l3 l4) R → jX12_dispose_47 Γ l0 l1 l2 l3 l4 x := by
  intro x R h K
  obtain ⟨l5, σ⟩ := x
  have h : bX12_dispose_47 l0 l1 l2 l3 l4 l5 σ = some R := h
  show zJ Γ 7 0 0 σ 47 [(0, .ref l0), (1, .int l1), (2, .int l2), (3, .int l3), (4, .int l4), (5, .int l5)] []
  unfold bX12_dispose_47 at h
  refine zj_iload E dX12_dispose_47 5 rfl ?_
  refine zj_iload_n E dX12_dispose_49 rfl 2 rfl ?_
  refine zj_iload_n E dX12_dispose_50 rfl 3 rfl ?_
  refine zj_imul E dX12_dispose_51 ?_
  refine zj_icmp_ge (tgt := 122) E dX12_dispose_52 (by decide) h (fun h => ?_) (fun h => ?_)
  · have e9 := Option.some.inj h
    subst e9
    refine zj_lv [] rfl ?_
    exact K
  · refine zj_iload E dX12_dispose_55 4 rfl ?_
    refine zj_if_le (tgt := 122) E dX12_dispose_57 (by decide) h (fun h => ?_) (fun h => ?_)
    · have e9 := Option.some.inj h
      subst e9
      refine zj_lv [] rfl ?_
      exact K
    · refine zj_aload_n E dX12_dispose_60 rfl 0 rfl ?_
      refine zs_getI E zc11 8 (by decide) zw_28_16 rfl dX12_dispose_61 h (fun x4 h => ?_)
      refine zj_aload_n E dX12_dispose_64 rfl 0 rfl ?_
      refine zj_iconst (v := 0) E dX12_dispose_65 (by decide) ?_
      refine zj_iload_n E dX12_dispose_66 rfl 1 rfl ?_
      refine zj_iconst (v := 3) E dX12_dispose_67 (by decide) ?_
      obtain ⟨hk, h⟩ := oA_some h
      obtain ⟨x5, hc, h⟩ := oB_some h
      refine zs_callV (As := [.int 0, .int l1, .int 3]) (rest := [.int x4]) E zc11 zyX12_region zw_22_1 (kX12_region _ _ _ _ _ hc) rfl rfl hk rfl ⟨by decide, by decide⟩ ⟨by decide, by decide⟩ (Nat.le_of_ble_eq_true rfl) dX12_dispose_68 rfl (show zJ Γ 7 0 0 σ 71 [(0, .ref l0), (1, .int l1), (2, .int l2), (3, .int l3), (4, .int l4), (5, .int l5)] [.int x5, .int x4] from ?_)
      refine zj_iload E dX12_dispose_71 5 rfl ?_
      refine zj_iload_n E dX12_dispose_73 rfl 2 rfl ?_
      obtain ⟨hne, h⟩ := oA_some h
      refine zj_idiv E dX12_dispose_74 hne ?_
      refine zj_iadd E dX12_dispose_75 ?_
      refine zj_imul E dX12_dispose_76 ?_
      refine zj_aload_n E dX12_dispose_77 rfl 0 rfl ?_
      refine zj_iconst (v := 0) E dX12_dispose_78 (by decide) ?_
      refine zj_iload_n E dX12_dispose_79 rfl 1 rfl ?_
      refine zj_iconst (v := 2) E dX12_dispose_80 (by decide) ?_
      obtain ⟨hk, h⟩ := oA_some h
      obtain ⟨x6, hc, h⟩ := oB_some h
      refine zs_callV (As := [.int 0, .int l1, .int 2]) (rest := [.int (x4 * (x5 + (l5 / l2)))]) E zc11 zyX12_region zw_22_1 (kX12_region _ _ _ _ _ hc) rfl rfl hk rfl ⟨by decide, by decide⟩ ⟨by decide, by decide⟩ (Nat.le_of_ble_eq_true rfl) dX12_dispose_81 rfl (show zJ Γ 7 0 0 σ 84 [(0, .ref l0), (1, .int l1), (2, .int l2), (3, .int l3), (4, .int l4), (5, .int l5)] [.int x6, .int (x4 * (x5 + (l5 / l2)))] from ?_)
      refine zj_iadd E dX12_dispose_84 ?_
      refine zj_iload E dX12_dispose_85 5 rfl ?_
      refine zj_iload_n E dX12_dispose_87 rfl 2 rfl ?_
      obtain ⟨hne, h⟩ := oA_some h
      refine zj_irem E dX12_dispose_88 hne ?_
      refine zj_iadd E dX12_dispose_89 ?_
      refine zs_istore (lv2 := fun v1 => [(6, .int v1), (0, .ref l0), (1, .int l1), (2, .int l2), (3, .int l3), (4, .int l4), (5, .int l5)]) E dX12_dispose_90 (by decide) (fun _ => rfl) h (fun v1 h => ?_)
      refine zj_aload_n E dX12_dispose_92 rfl 1 rfl ?_
      refine zs_getR E zc11 10 (by decide) zw_6_8 rfl dX12_dispose_93 h (fun a1 h => ?_)
      refine zj_iload E dX12_dispose_96 0 rfl ?_
      refine zj_iload E dX12_dispose_98 5 rfl ?_
      refine zj_iconst (v := 1) E dX12_dispose_100 (by decide) ?_
      refine zj_icmp_ne (tgt := 108) E dX12_dispose_101 (by decide) h (fun h => ?_) (fun h => ?_)
      · refine zj_aload_n E dX12_dispose_108 rfl 1 rfl ?_
        refine zs_getR E zc11 11 (by decide) zw_6_9 rfl dX12_dispose_109 h (fun a2 h => ?_)
        refine zj_iload E dX12_dispose_112 0 rfl ?_
        refine zs_iald E dX12_dispose_114 h (fun x7 h => ?_)
        refine zj_lv [1, 2, 3, 4, 5, 6] rfl ?_
        exact wX12_dispose_115 E _ _ _ _ _ _ _ _ _ _ h K
      · refine zj_iconst (v := 0) E dX12_dispose_104 (by decide) ?_
        refine zj_goto (tgt := 115) E dX12_dispose_105 (by decide) ?_
        refine zj_lv [1, 2, 3, 4, 5, 6] rfl ?_
        exact wX12_dispose_115 E _ _ _ _ _ _ _ _ _ _ h K
def fX12_dispose_42 (σ : zS) (l0 : Nat) (l1 : Int32) (l2 : Int32) (l3 : Int32) (s0 : Int32) : Option zS := oB (zloop zF (fun x => bX12_dispose_47 l0 l1 l2 l3 s0 x.1 x.2) (0, σ)) (fun b1 => (fun σ2 => some σ2) b1)
set_option maxRecDepth 100000 in
theorem wX12_dispose_42 {Γ : zG} (E : zE Γ cX12_dispose RX12 7 { frames := 1, cells := 0, slots := 0, locals := 23 }) (σ : zS) (l0 : Nat) (l1 : Int32) (l2 : Int32) (l3 : Int32) (s0 : Int32) {R : zS} (h : fX12_dispose_42 σ l0 l1 l2 l3 s0 = some R) (K : zRet Γ cX12_dispose 7 0 0 (none) R) : zJ Γ 7 0 0 σ 42 [(0, .ref l0), (1, .int l1), (2, .int l2), (3, .int l3)] [.int s0] := by
  unfold fX12_dispose_42 at h
  refine zj_istore (lv2 := [(4, .int s0), (0, .ref l0), (1, .int l1), (2, .int l2), (3, .int l3)]) E dX12_dispose_42 (by decide) rfl ?_
  refine zj_iconst (v := 0) E dX12_dispose_44 (by decide) ?_
  refine zj_istore (lv2 := [(5, .int 0), (4, .int s0), (0, .ref l0), (1, .int l1), (2, .int l2), (3, .int l3)]) E dX12_dispose_45 (by decide) rfl ?_
  obtain ⟨b1, hb1, h⟩ := oB_some h
  refine zj_lv [2, 3, 4, 5, 1, 0] rfl ?_
  refine zj_loop (wX12_dispose_L47 E l0 l1 l2 l3 s0) zF (0, σ) b1 hb1 ?_
  obtain ⟨σ2, rfl⟩ : ∃ z, z = b1 := ⟨_, rfl⟩
  try dsimp only at h
  show zJ Γ 7 0 0 σ2 122 [] []
  have e9 := Option.some.inj h
  subst e9
  exact (show zRet Γ cX12_dispose 7 0 0 (none) σ2 from K) _ _ dX12_dispose_122
def fX12_dispose_35 (σ : zS) (l0 : Nat) (l1 : Int32) (l2 : Int32) (l3 : Int32) : Option zS := oA (zk σ l0 = 12) (oB (fX12_region σ l0 0 l1 4) (fun x3 => fX12_dispose_42 σ l0 l1 l2 l3 x3))
set_option maxRecDepth 100000 in
theorem wX12_dispose_35 {Γ : zG} (E : zE Γ cX12_dispose RX12 7 { frames := 1, cells := 0, slots := 0, locals := 23 }) (σ : zS) (l0 : Nat) (l1 : Int32) (l2 : Int32) (l3 : Int32) {R : zS} (h : fX12_dispose_35 σ l0 l1 l2 l3 = some R) (K : zRet Γ cX12_dispose 7 0 0 (none) R) : zJ Γ 7 0 0 σ 35 [(0, .ref l0), (1, .int l1), (2, .int l2), (3, .int l3)] [] := by
  unfold fX12_dispose_35 at h
  refine zj_aload_n E dX12_dispose_35 rfl 0 rfl ?_
  refine zj_iconst (v := 0) E dX12_dispose_36 (by decide) ?_
  refine zj_iload_n E dX12_dispose_37 rfl 1 rfl ?_
  refine zj_iconst (v := 4) E dX12_dispose_38 (by decide) ?_
  obtain ⟨hk, h⟩ := oA_some h
  obtain ⟨x3, hc, h⟩ := oB_some h
  refine zs_callV (As := [.int 0, .int l1, .int 4]) (rest := []) E zc11 zyX12_region zw_22_1 (kX12_region _ _ _ _ _ hc) rfl rfl hk rfl ⟨by decide, by decide⟩ ⟨by decide, by decide⟩ (Nat.le_of_ble_eq_true rfl) dX12_dispose_39 rfl (show zJ Γ 7 0 0 σ 42 [(0, .ref l0), (1, .int l1), (2, .int l2), (3, .int l3)] [.int x3] from ?_)
  refine zj_lv [0, 1, 2, 3] rfl ?_
  exact wX12_dispose_42 E _ _ _ _ _ _ h K
def fX12_dispose (σ : zS) (p0 : Nat) (p1 : Int32) : Option zS := oA (zk σ p0 = 12) (oB (fX12_region σ p0 0 p1 0) (fun x1 => oA (zk σ p0 = 12) (oB (fX12_region σ p0 0 p1 1) (fun x2 => (if p1 = 0 then oA (zk σ p0 = 12) (oB (fX12_region σ p0 0 p1 4) (fun x8 => (if x8 = (2 : Int32) then fX12_dispose_42 σ p0 p1 x1 x2 1 else fX12_dispose_35 σ p0 p1 x1 x2))) else fX12_dispose_35 σ p0 p1 x1 x2)))))
set_option maxRecDepth 100000 in
theorem wX12_dispose {Γ : zG} (E : zE Γ cX12_dispose RX12 7 { frames := 1, cells := 0, slots := 0, locals := 23 }) (σ : zS) (p0 : Nat) (p1 : Int32) {R : zS} (h : fX12_dispose σ p0 p1 = some R) (K : zRet Γ cX12_dispose 7 0 0 (none) R) : zJ Γ 7 0 0 σ 0 [(0, .ref p0), (1, .int p1)] [] := by
  unfold fX12_dispose at h
  refine zj_aload_n E dX12_dispose_0 rfl 0 rfl ?_
  refine zj_iconst (v := 0) E dX12_dispose_1 (by decide) ?_
  refine zj_iload_n E dX12_dispose_2 rfl 1 rfl ?_
  refine zj_iconst (v := 0) E dX12_dispose_3 (by decide) ?_
  obtain ⟨hk, h⟩ := oA_some h
  obtain ⟨x1, hc, h⟩ := oB_some h
  refine zs_callV (As := [.int 0, .int p1, .int 0]) (rest := []) E zc11 zyX12_region zw_22_1 (kX12_region _ _ _ _ _ hc) rfl rfl hk rfl ⟨by decide, by decide⟩ ⟨by decide, by decide⟩ (Nat.le_of_ble_eq_true rfl) dX12_dispose_4 rfl (show zJ Γ 7 0 0 σ 7 [(0, .ref p0), (1, .int p1)] [.int x1] from ?_)
  refine zj_istore_n (lv2 := [(2, .int x1), (0, .ref p0), (1, .int p1)]) E dX12_dispose_7 rfl (by decide) rfl ?_
  refine zj_aload_n E dX12_dispose_8 rfl 1 rfl ?_
  refine zj_iconst (v := 0) E dX12_dispose_9 (by decide) ?_
  refine zj_iload_n E dX12_dispose_10 rfl 2 rfl ?_
  refine zj_iconst (v := 1) E dX12_dispose_11 (by decide) ?_
  obtain ⟨hk, h⟩ := oA_some h
  obtain ⟨x2, hc, h⟩ := oB_some h
  refine zs_callV (As := [.int 0, .int p1, .int 1]) (rest := []) E zc11 zyX12_region zw_22_1 (kX12_region _ _ _ _ _ hc) rfl rfl hk rfl ⟨by decide, by decide⟩ ⟨by decide, by decide⟩ (Nat.le_of_ble_eq_true rfl) dX12_dispose_12 rfl (show zJ Γ 7 0 0 σ 15 [(2, .int x1), (0, .ref p0), (1, .int p1)] [.int x2] from ?_)
  refine zj_istore_n (lv2 := [(3, .int x2), (2, .int x1), (0, .ref p0), (1, .int p1)]) E dX12_dispose_15 rfl (by decide) rfl ?_
  refine zj_iload_n E dX12_dispose_16 rfl 3 rfl ?_
  refine zj_if_ne (tgt := 35) E dX12_dispose_17 (by decide) h (fun h => ?_) (fun h => ?_)
  · refine zj_lv [2, 3, 1, 0] rfl ?_
    exact wX12_dispose_35 E _ _ _ _ _ h K
  · refine zj_aload_n E dX12_dispose_20 rfl 2 rfl ?_
    refine zj_iconst (v := 0) E dX12_dispose_21 (by decide) ?_
    refine zj_iload_n E dX12_dispose_22 rfl 3 rfl ?_
    refine zj_iconst (v := 4) E dX12_dispose_23 (by decide) ?_
    obtain ⟨hk, h⟩ := oA_some h
    obtain ⟨x8, hc, h⟩ := oB_some h
    refine zs_callV (As := [.int 0, .int p1, .int 4]) (rest := []) E zc11 zyX12_region zw_22_1 (kX12_region _ _ _ _ _ hc) rfl rfl hk rfl ⟨by decide, by decide⟩ ⟨by decide, by decide⟩ (Nat.le_of_ble_eq_true rfl) dX12_dispose_24 rfl (show zJ Γ 7 0 0 σ 27 [(3, .int x2), (2, .int x1), (0, .ref p0), (1, .int p1)] [.int x8] from ?_)
    refine zj_iconst (v := 2) E dX12_dispose_27 (by decide) ?_
    refine zj_icmp_ne (tgt := 35) E dX12_dispose_28 (by decide) h (fun h => ?_) (fun h => ?_)
    · refine zj_lv [2, 3, 1, 0] rfl ?_
      exact wX12_dispose_35 E _ _ _ _ _ h K
    · refine zj_iconst (v := 1) E dX12_dispose_31 (by decide) ?_
      refine zj_goto (tgt := 42) E dX12_dispose_32 (by decide) ?_
      refine zj_lv [2, 3, 1, 0] rfl ?_
      exact wX12_dispose_42 E _ _ _ _ _ _ h K
set_option maxRecDepth 100000 in
theorem kX12_dispose (l : Launch) (D : va_G) (cs : zCs) (z0 : Nat) (σ : zS) {p0 : Nat} {p1 : Int32}  {σ' : zS} (h : fX12_dispose σ p0 p1 = some σ') : zM l D cs z0 yX12_dispose cX12_dispose 7 none { frames := 1, cells := 0, slots := 0, locals := 23 } [.ref p0, .int p1] σ none σ' 0 0 := by
  exact zM_of (by decide) rfl rfl (Nat.le_of_ble_eq_true rfl) rfl (fun Γ e1 e2 e3 e4 E hN K => wX12_dispose E σ _ _ h K)
/-! X12_show -/
def jX12_show_59 (Γ : zG) (l0 : Nat) (l1 : Int32) : (Int32 × zS) → Prop := fun x => zJ Γ 4 0 0 x.2 59 [(0, .ref l0), (1, .int l1), (2, .int x.1)] []
def eX12_show_59 (Γ : zG) (l0 : Nat) (l1 : Int32) : zS → Prop := fun b => zJ Γ 4 0 0 b 114 [(0, .ref l0), (1, .int l1)] []
def fX12_show_107 (σ : zS) (l0 : Nat) (l1 : Int32) (l2 : Int32) (s0 : Int32) (s1 : Int32) (s2 : Nat) : Option ((Int32 × zS) ⊕ zS) := oSt σ 21 s2 s1 s0 (fun σ5 => oL (l2 + 1) (fun v1 => some (.inl (v1, σ5))))
set_option maxRecDepth 100000 in
theorem wX12_show_107 {Γ : zG} (E : zE Γ cX12_show RX12 4 { frames := 2, cells := 0, slots := 0, locals := 53 }) (σ : zS) (l0 : Nat) (l1 : Int32) (l2 : Int32) (s0 : Int32) (s1 : Int32) (s2 : Nat) {R : ((Int32 × zS) ⊕ zS)} (h : fX12_show_107 σ l0 l1 l2 s0 s1 s2 = some R) (K : Sum.elim (jX12_show_59 Γ l0 l1) (eX12_show_59 Γ l0 l1) R) : zJ Γ 4 0 0 σ 107 [(0, .ref l0), (1, .int l1), (2, .int l2)] [.int s0, .int s1, .ref s2] := by
  unfold fX12_show_107 at h
  refine zs_iast E dX12_show_107 h (fun σ5 h => ?_)
  refine zs_iinc (lv2 := fun v1 => [(2, .int v1), (0, .ref l0), (1, .int l1)]) E dX12_show_108 2 rfl (by decide) (by decide) (fun _ => rfl) h (fun v1 h => ?_)
  refine zj_goto (tgt := 59) E dX12_show_111 (by decide) ?_
  have e9 := Option.some.inj h
  subst e9
  refine zj_lv [1, 2, 0] rfl ?_
  exact K
def fX12_show_99 (σ : zS) (l0 : Nat) (l1 : Int32) (l2 : Int32) (s0 : Int32) (s1 : Int32) (s2 : Nat) (s3 : Int32) (s4 : Nat) : Option ((Int32 × zS) ⊕ zS) := oLd σ 21 s2 ((s1 * s0) + l2) (fun x6 => fX12_show_107 σ l0 l1 l2 x6 s3 s4)
set_option maxRecDepth 100000 in
theorem wX12_show_99 {Γ : zG} (E : zE Γ cX12_show RX12 4 { frames := 2, cells := 0, slots := 0, locals := 53 }) (σ : zS) (l0 : Nat) (l1 : Int32) (l2 : Int32) (s0 : Int32) (s1 : Int32) (s2 : Nat) (s3 : Int32) (s4 : Nat) {R : ((Int32 × zS) ⊕ zS)} (h : fX12_show_99 σ l0 l1 l2 s0 s1 s2 s3 s4 = some R) (K : Sum.elim (jX12_show_59 Γ l0 l1) (eX12_show_59 Γ l0 l1) R) : zJ Γ 4 0 0 σ 99 [(0, .ref l0), (1, .int l1), (2, .int l2)] [.int s0, .int s1, .ref s2, .int s3, .ref s4] := by
  unfold fX12_show_99 at h
  refine zj_imul E dX12_show_99 ?_
  refine zj_iload_n E dX12_show_100 rfl 2 rfl ?_
  refine zj_iadd E dX12_show_101 ?_
  refine zs_iald E dX12_show_102 h (fun x6 h => ?_)
  refine zj_goto (tgt := 107) E dX12_show_103 (by decide) ?_
  refine zj_lv [0, 1, 2] rfl ?_
  exact wX12_show_107 E _ _ _ _ _ _ _ h K
def bX12_show_59 (l0 : Nat) (l1 : Int32) (l2 : Int32) (σ : zS) : Option ((Int32 × zS) ⊕ zS) := (if (256 : Int32) ≤ l2 then some (.inr σ) else oGR σ 12 l0 10 (fun a5 => (if l1 = (-1 : Int32) then oGR σ 12 l0 6 (fun a6 => oGR σ 12 l0 4 (fun a7 => oLd σ 21 a7 5 (fun x5 => (if x5 = (1 : Int32) then fX12_show_99 σ l0 l1 l2 0 256 a6 l2 a5 else fX12_show_99 σ l0 l1 l2 8 256 a6 l2 a5)))) else fX12_show_107 σ l0 l1 l2 0 l2 a5)))
set_option maxRecDepth 100000 in
theorem wX12_show_L59 {Γ : zG} (E : zE Γ cX12_show RX12 4 { frames := 2, cells := 0, slots := 0, locals := 53 }) (l0 : Nat) (l1 : Int32) : ∀ x R, (fun x => bX12_show_59 l0 l1 x.1 x.2) x = some R → Sum.elim (jX12_show_59 Γ l0 l1) (eX12_show_59 Γ l0 l1) R → jX12_show_59 Γ l0 l1 x := by
  intro x R h K
  obtain ⟨l2, σ⟩ := x
  have h : bX12_show_59 l0 l1 l2 σ = some R := h
  show zJ Γ 4 0 0 σ 59 [(0, .ref l0), (1, .int l1), (2, .int l2)] []
  unfold bX12_show_59 at h
  refine zj_iload_n E dX12_show_59 rfl 2 rfl ?_
  refine zj_sipush (v := 256) E dX12_show_60 (by decide) ?_
  refine zj_icmp_ge (tgt := 114) E dX12_show_63 (by decide) h (fun h => ?_) (fun h => ?_)
  · have e9 := Option.some.inj h
    subst e9
    refine zj_lv [0, 1] rfl ?_
    exact K
  · refine zj_aload_n E dX12_show_66 rfl 0 rfl ?_
    refine zs_getR E zc11 10 (by decide) zw_6_8 rfl dX12_show_67 h (fun a5 h => ?_)
    refine zj_iload_n E dX12_show_70 rfl 2 rfl ?_
    refine zj_iload_n E dX12_show_71 rfl 1 rfl ?_
    refine zj_iconst (v := (-1 : Int32)) E dX12_show_72 (by decide) ?_
    refine zj_icmp_ne (tgt := 106) E dX12_show_73 (by decide) h (fun h => ?_) (fun h => ?_)
    · refine zj_iconst (v := 0) E dX12_show_106 (by decide) ?_
      refine zj_lv [0, 1, 2] rfl ?_
      exact wX12_show_107 E _ _ _ _ _ _ _ h K
    · refine zj_aload_n E dX12_show_76 rfl 0 rfl ?_
      refine zs_getR E zc11 6 (by decide) zw_6_7 rfl dX12_show_77 h (fun a6 h => ?_)
      refine zj_sipush (v := 256) E dX12_show_80 (by decide) ?_
      refine zj_aload_n E dX12_show_83 rfl 0 rfl ?_
      refine zs_getR E zc11 4 (by decide) zw_6_5 rfl dX12_show_84 h (fun a7 h => ?_)
      refine zj_iconst (v := 5) E dX12_show_87 (by decide) ?_
      refine zs_iald E dX12_show_88 h (fun x5 h => ?_)
      refine zj_iconst (v := 1) E dX12_show_89 (by decide) ?_
      refine zj_icmp_ne (tgt := 97) E dX12_show_90 (by decide) h (fun h => ?_) (fun h => ?_)
      · refine zj_bipush (v := 8) E dX12_show_97 (by decide) ?_
        refine zj_lv [0, 1, 2] rfl ?_
        exact wX12_show_99 E _ _ _ _ _ _ _ _ _ h K
      · refine zj_iconst (v := 0) E dX12_show_93 (by decide) ?_
        refine zj_goto (tgt := 99) E dX12_show_94 (by decide) ?_
        refine zj_lv [0, 1, 2] rfl ?_
        exact wX12_show_99 E _ _ _ _ _ _ _ _ _ h K
def jX12_show_116 (Γ : zG) (l0 : Nat) (l1 : Int32) : (Int32 × zS) → Prop := fun x => zJ Γ 4 0 0 x.2 116 [(0, .ref l0), (1, .int l1), (2, .int x.1)] []
def eX12_show_116 (Γ : zG) (l0 : Nat) (l1 : Int32) : zS → Prop := fun b => zJ Γ 4 0 0 b 169 [] []
def jX12_show_123 (Γ : zG) (l0 : Nat) (l1 : Int32) (l2 : Int32) : (Int32 × zS) → Prop := fun x => zJ Γ 4 0 0 x.2 123 [(0, .ref l0), (1, .int l1), (2, .int l2), (3, .int x.1)] []
def eX12_show_123 (Γ : zG) (l0 : Nat) (l1 : Int32) (l2 : Int32) : zS → Prop := fun b => zJ Γ 4 0 0 b 148 [(0, .ref l0), (1, .int l1), (2, .int l2)] []
def bX12_show_123 (l0 : Nat) (l1 : Int32) (l2 : Int32) (l3 : Int32) (σ : zS) : Option ((Int32 × zS) ⊕ zS) := (if (256 : Int32) ≤ l3 then some (.inr σ) else oGR σ 12 l0 11 (fun a8 => oGR σ 12 l0 10 (fun a9 => oLd σ 21 a9 l3 (fun x7 => oSt σ 21 a8 l3 x7 (fun σ7 => oL (l3 + 1) (fun v2 => some (.inl (v2, σ7))))))))
set_option maxRecDepth 100000 in
theorem wX12_show_L123 {Γ : zG} (E : zE Γ cX12_show RX12 4 { frames := 2, cells := 0, slots := 0, locals := 53 }) (l0 : Nat) (l1 : Int32) (l2 : Int32) : ∀ x R, (fun x => bX12_show_123 l0 l1 l2 x.1 x.2) x = some R → Sum.elim (jX12_show_123 Γ l0 l1 l2) (eX12_show_123 Γ l0 l1 l2) R → jX12_show_123 Γ l0 l1 l2 x := by
  intro x R h K
  obtain ⟨l3, σ⟩ := x
  have h : bX12_show_123 l0 l1 l2 l3 σ = some R := h
  show zJ Γ 4 0 0 σ 123 [(0, .ref l0), (1, .int l1), (2, .int l2), (3, .int l3)] []
  unfold bX12_show_123 at h
  refine zj_iload_n E dX12_show_123 rfl 3 rfl ?_
  refine zj_sipush (v := 256) E dX12_show_124 (by decide) ?_
  refine zj_icmp_ge (tgt := 148) E dX12_show_127 (by decide) h (fun h => ?_) (fun h => ?_)
  · have e9 := Option.some.inj h
    subst e9
    refine zj_lv [0, 1, 2] rfl ?_
    exact K
  · refine zj_aload_n E dX12_show_130 rfl 0 rfl ?_
    refine zs_getR E zc11 11 (by decide) zw_6_9 rfl dX12_show_131 h (fun a8 h => ?_)
    refine zj_iload_n E dX12_show_134 rfl 3 rfl ?_
    refine zj_aload_n E dX12_show_135 rfl 0 rfl ?_
    refine zs_getR E zc11 10 (by decide) zw_6_8 rfl dX12_show_136 h (fun a9 h => ?_)
    refine zj_iload_n E dX12_show_139 rfl 3 rfl ?_
    refine zs_iald E dX12_show_140 h (fun x7 h => ?_)
    refine zs_iast E dX12_show_141 h (fun σ7 h => ?_)
    refine zs_iinc (lv2 := fun v2 => [(3, .int v2), (0, .ref l0), (1, .int l1), (2, .int l2)]) E dX12_show_142 3 rfl (by decide) (by decide) (fun _ => rfl) h (fun v2 h => ?_)
    refine zj_goto (tgt := 123) E dX12_show_145 (by decide) ?_
    have e9 := Option.some.inj h
    subst e9
    refine zj_lv [1, 2, 3, 0] rfl ?_
    exact K
def fX12_show_163 (σ : zS) (l0 : Nat) (l1 : Int32) (l2 : Int32) : Option ((Int32 × zS) ⊕ zS) := oL (l2 + 1) (fun v3 => some (.inl (v3, σ)))
set_option maxRecDepth 100000 in
theorem wX12_show_163 {Γ : zG} (E : zE Γ cX12_show RX12 4 { frames := 2, cells := 0, slots := 0, locals := 53 }) (σ : zS) (l0 : Nat) (l1 : Int32) (l2 : Int32) {R : ((Int32 × zS) ⊕ zS)} (h : fX12_show_163 σ l0 l1 l2 = some R) (K : Sum.elim (jX12_show_116 Γ l0 l1) (eX12_show_116 Γ l0 l1) R) : zJ Γ 4 0 0 σ 163 [(0, .ref l0), (1, .int l1), (2, .int l2)] [] := by
  unfold fX12_show_163 at h
  refine zs_iinc (lv2 := fun v3 => [(2, .int v3), (0, .ref l0), (1, .int l1)]) E dX12_show_163 2 rfl (by decide) (by decide) (fun _ => rfl) h (fun v3 h => ?_)
  refine zj_goto (tgt := 116) E dX12_show_166 (by decide) ?_
  have e9 := Option.some.inj h
  subst e9
  refine zj_lv [1, 2, 0] rfl ?_
  exact K
def bX12_show_116 (l0 : Nat) (l1 : Int32) (l2 : Int32) (σ : zS) : Option ((Int32 × zS) ⊕ zS) := (if l1 < l2 then some (.inr σ) else oB (zloop zF (fun x => bX12_show_123 l0 l1 l2 x.1 x.2) (0, σ)) (fun b2 => (fun σ8 => oA (zk σ8 l0 = 12) (oB (fX12_lay σ8 l0 l2) (fun σ9 => (if l1 ≤ l2 then fX12_show_163 σ9 l0 l1 l2 else oA (zk σ9 l0 = 12) (oB (fX12_dispose σ9 l0 l2) (fun σ10 => fX12_show_163 σ10 l0 l1 l2)))))) b2))
set_option maxRecDepth 100000 in
theorem wX12_show_L116 {Γ : zG} (E : zE Γ cX12_show RX12 4 { frames := 2, cells := 0, slots := 0, locals := 53 }) (l0 : Nat) (l1 : Int32) : ∀ x R, (fun x => bX12_show_116 l0 l1 x.1 x.2) x = some R → Sum.elim (jX12_show_116 Γ l0 l1) (eX12_show_116 Γ l0 l1) R → jX12_show_116 Γ l0 l1 x := by
  intro x R h K
  obtain ⟨l2, σ⟩ := x
  have h : bX12_show_116 l0 l1 l2 σ = some R := h
  show zJ Γ 4 0 0 σ 116 [(0, .ref l0), (1, .int l1), (2, .int l2)] []
  unfold bX12_show_116 at h
  refine zj_iload_n E dX12_show_116 rfl 2 rfl ?_
  refine zj_iload_n E dX12_show_117 rfl 1 rfl ?_
  refine zj_icmp_gt (tgt := 169) E dX12_show_118 (by decide) h (fun h => ?_) (fun h => ?_)
  · have e9 := Option.some.inj h
    subst e9
    refine zj_lv [] rfl ?_
    exact K
  · refine zj_iconst (v := 0) E dX12_show_121 (by decide) ?_
    refine zj_istore_n (lv2 := [(3, .int 0), (0, .ref l0), (1, .int l1), (2, .int l2)]) E dX12_show_122 rfl (by decide) rfl ?_
    obtain ⟨b2, hb2, h⟩ := oB_some h
    refine zj_lv [1, 2, 3, 0] rfl ?_
    refine zj_loop (wX12_show_L123 E l0 l1 l2) zF (0, σ) b2 hb2 ?_
    obtain ⟨σ8, rfl⟩ : ∃ z, z = b2 := ⟨_, rfl⟩
    try dsimp only at h
    show zJ Γ 4 0 0 σ8 148 [(0, .ref l0), (1, .int l1), (2, .int l2)] []
    refine zj_aload_n E dX12_show_148 rfl 0 rfl ?_
    refine zj_iload_n E dX12_show_149 rfl 2 rfl ?_
    obtain ⟨hk, h⟩ := oA_some h
    obtain ⟨σ9, hc, h⟩ := oB_some h
    refine zs_callV (As := [.int l2]) (rest := []) E zc11 zyX12_lay zw_28_18 (kX12_lay _ _ _ _ _ hc) rfl rfl hk rfl ⟨by decide, by decide⟩ ⟨by decide, by decide⟩ (Nat.le_of_ble_eq_true rfl) dX12_show_150 rfl (show zJ Γ 4 0 0 σ9 153 [(0, .ref l0), (1, .int l1), (2, .int l2)] [] from ?_)
    refine zj_iload_n E dX12_show_153 rfl 2 rfl ?_
    refine zj_iload_n E dX12_show_154 rfl 1 rfl ?_
    refine zj_icmp_ge (tgt := 163) E dX12_show_155 (by decide) h (fun h => ?_) (fun h => ?_)
    · refine zj_lv [0, 1, 2] rfl ?_
      exact wX12_show_163 E _ _ _ _ h K
    · refine zj_aload_n E dX12_show_158 rfl 0 rfl ?_
      refine zj_iload_n E dX12_show_159 rfl 2 rfl ?_
      obtain ⟨hk, h⟩ := oA_some h
      obtain ⟨σ10, hc, h⟩ := oB_some h
      refine zs_callV (As := [.int l2]) (rest := []) E zc11 zyX12_dispose zw_29_1 (kX12_dispose _ _ _ _ _ hc) rfl rfl hk rfl ⟨by decide, by decide⟩ ⟨by decide, by decide⟩ (Nat.le_of_ble_eq_true rfl) dX12_show_160 rfl (show zJ Γ 4 0 0 σ10 163 [(0, .ref l0), (1, .int l1), (2, .int l2)] [] from ?_)
      refine zj_lv [0, 1, 2] rfl ?_
      exact wX12_show_163 E _ _ _ _ h K
def fX12_show (σ : zS) (p0 : Nat) (p1 : Int32) : Option (Int32 × zS) := oPI σ 12 p0 0 0 (fun σ1 => oGR σ1 12 p0 4 (fun a1 => oLd σ1 21 a1 0 (fun x1 => (if x1 = 0 then some ((-11 : Int32), σ1) else (if p1 < (-1 : Int32) then some ((-11 : Int32), σ1) else oGR σ1 12 p0 4 (fun a2 => oLd σ1 21 a2 4 (fun x2 => (if p1 < x2 then oPZ σ1 12 p0 7 1 (fun σ2 => oGR σ2 12 p0 4 (fun a3 => oLd σ2 21 a3 1 (fun x3 => oPI σ2 12 p0 8 x3 (fun σ3 => oGR σ3 12 p0 4 (fun a4 => oLd σ3 21 a4 2 (fun x4 => oPI σ3 12 p0 9 x4 (fun σ4 => oB (zloop zF (fun x => bX12_show_59 p0 p1 x.1 x.2) (0, σ4)) (fun b1 => (fun σ6 => oB (zloop zF (fun x => bX12_show_116 p0 p1 x.1 x.2) (0, σ6)) (fun b3 => (fun σ11 => some (1, σ11)) b3)) b1)))))))) else some ((-11 : Int32), σ1)))))))))
set_option maxRecDepth 100000 in
theorem wX12_show {Γ : zG} (E : zE Γ cX12_show RX12 4 { frames := 2, cells := 0, slots := 0, locals := 53 }) (σ : zS) (p0 : Nat) (p1 : Int32) {R : (Int32 × zS)} (h : fX12_show σ p0 p1 = some R) (K : zRet Γ cX12_show 4 0 0 (some (.int R.1)) R.2) : zJ Γ 4 0 0 σ 0 [(0, .ref p0), (1, .int p1)] [] := by
  unfold fX12_show at h
  refine zj_aload_n E dX12_show_0 rfl 0 rfl ?_
  refine zj_iconst (v := 0) E dX12_show_1 (by decide) ?_
  refine zs_putI E zc11 0 (by decide) zw_7_9 rfl rfl dX12_show_2 h (fun σ1 h => ?_)
  refine zj_aload_n E dX12_show_5 rfl 0 rfl ?_
  refine zs_getR E zc11 4 (by decide) zw_6_5 rfl dX12_show_6 h (fun a1 h => ?_)
  refine zj_iconst (v := 0) E dX12_show_9 (by decide) ?_
  refine zs_iald E dX12_show_10 h (fun x1 h => ?_)
  refine zj_if_eq (tgt := 29) E dX12_show_11 (by decide) h (fun h => ?_) (fun h => ?_)
  · refine zj_bipush (v := (-11 : Int32)) E dX12_show_29 (by decide) ?_
    have e9 := Option.some.inj h
    subst e9
    exact (show zRet Γ cX12_show 4 0 0 (some (.int (-11 : Int32))) σ1 from K) _ _ dX12_show_31
  · refine zj_iload_n E dX12_show_14 rfl 1 rfl ?_
    refine zj_iconst (v := (-1 : Int32)) E dX12_show_15 (by decide) ?_
    refine zj_icmp_lt (tgt := 29) E dX12_show_16 (by decide) h (fun h => ?_) (fun h => ?_)
    · refine zj_bipush (v := (-11 : Int32)) E dX12_show_29 (by decide) ?_
      have e9 := Option.some.inj h
      subst e9
      exact (show zRet Γ cX12_show 4 0 0 (some (.int (-11 : Int32))) σ1 from K) _ _ dX12_show_31
    · refine zj_iload_n E dX12_show_19 rfl 1 rfl ?_
      refine zj_aload_n E dX12_show_20 rfl 0 rfl ?_
      refine zs_getR E zc11 4 (by decide) zw_6_5 rfl dX12_show_21 h (fun a2 h => ?_)
      refine zj_iconst (v := 4) E dX12_show_24 (by decide) ?_
      refine zs_iald E dX12_show_25 h (fun x2 h => ?_)
      refine zj_icmp_lt (tgt := 32) E dX12_show_26 (by decide) h (fun h => ?_) (fun h => ?_)
      · refine zj_aload_n E dX12_show_32 rfl 0 rfl ?_
        refine zj_iconst (v := 1) E dX12_show_33 (by decide) ?_
        refine zs_putZ E zc11 7 (by decide) zw_17_18 rfl rfl dX12_show_34 h (fun σ2 h => ?_)
        refine zj_aload_n E dX12_show_37 rfl 0 rfl ?_
        refine zj_aload_n E dX12_show_38 rfl 0 rfl ?_
        refine zs_getR E zc11 4 (by decide) zw_6_5 rfl dX12_show_39 h (fun a3 h => ?_)
        refine zj_iconst (v := 1) E dX12_show_42 (by decide) ?_
        refine zs_iald E dX12_show_43 h (fun x3 h => ?_)
        refine zs_putI E zc11 8 (by decide) zw_28_16 rfl rfl dX12_show_44 h (fun σ3 h => ?_)
        refine zj_aload_n E dX12_show_47 rfl 0 rfl ?_
        refine zj_aload_n E dX12_show_48 rfl 0 rfl ?_
        refine zs_getR E zc11 4 (by decide) zw_6_5 rfl dX12_show_49 h (fun a4 h => ?_)
        refine zj_iconst (v := 2) E dX12_show_52 (by decide) ?_
        refine zs_iald E dX12_show_53 h (fun x4 h => ?_)
        refine zs_putI E zc11 9 (by decide) zw_28_17 rfl rfl dX12_show_54 h (fun σ4 h => ?_)
        refine zj_iconst (v := 0) E dX12_show_57 (by decide) ?_
        refine zj_istore_n (lv2 := [(2, .int 0), (0, .ref p0), (1, .int p1)]) E dX12_show_58 rfl (by decide) rfl ?_
        obtain ⟨b1, hb1, h⟩ := oB_some h
        refine zj_lv [1, 2, 0] rfl ?_
        refine zj_loop (wX12_show_L59 E p0 p1) zF (0, σ4) b1 hb1 ?_
        obtain ⟨σ6, rfl⟩ : ∃ z, z = b1 := ⟨_, rfl⟩
        try dsimp only at h
        show zJ Γ 4 0 0 σ6 114 [(0, .ref p0), (1, .int p1)] []
        refine zj_iconst (v := 0) E dX12_show_114 (by decide) ?_
        refine zj_istore_n (lv2 := [(2, .int 0), (0, .ref p0), (1, .int p1)]) E dX12_show_115 rfl (by decide) rfl ?_
        obtain ⟨b3, hb3, h⟩ := oB_some h
        refine zj_lv [1, 2, 0] rfl ?_
        refine zj_loop (wX12_show_L116 E p0 p1) zF (0, σ6) b3 hb3 ?_
        obtain ⟨σ11, rfl⟩ : ∃ z, z = b3 := ⟨_, rfl⟩
        try dsimp only at h
        show zJ Γ 4 0 0 σ11 169 [] []
        refine zj_iconst (v := 1) E dX12_show_169 (by decide) ?_
        have e9 := Option.some.inj h
        subst e9
        exact (show zRet Γ cX12_show 4 0 0 (some (.int 1)) σ11 from K) _ _ dX12_show_170
      · refine zj_bipush (v := (-11 : Int32)) E dX12_show_29 (by decide) ?_
        have e9 := Option.some.inj h
        subst e9
        exact (show zRet Γ cX12_show 4 0 0 (some (.int (-11 : Int32))) σ1 from K) _ _ dX12_show_31
set_option maxRecDepth 100000 in
theorem kX12_show (l : Launch) (D : va_G) (cs : zCs) (z0 : Nat) (σ : zS) {p0 : Nat} {p1 : Int32} {r : Int32} {σ' : zS} (h : fX12_show σ p0 p1 = some (r, σ')) : zM l D cs z0 yX12_show cX12_show 4 (some .int) { frames := 2, cells := 0, slots := 0, locals := 53 } [.ref p0, .int p1] σ (some (.int r)) σ' 0 0 := by
  exact zM_of (by decide) rfl (Or.inl rfl) (Nat.le_of_ble_eq_true rfl) rfl (fun Γ e1 e2 e3 e4 E hN K => wX12_show E σ _ _ h K)
/-! X12_pixel -/
def fX12_pixel_37 (σ : zS) (l0 : Nat) (l1 : Int32) (l2 : Int32) (s0 : Int32) (s1 : Nat) : Option (Int32 × zS) := oPI σ 12 s1 0 s0 (fun σ1 => oGI σ1 12 l0 0 (fun x2 => (if x2 ≤ 0 then oGR σ1 12 l0 10 (fun a1 => oGI σ1 12 l0 8 (fun x3 => oLd σ1 21 a1 ((x3 * l2) + l1) (fun x4 => some (x4, σ1)))) else some (0, σ1))))
set_option maxRecDepth 100000 in
theorem wX12_pixel_37 {Γ : zG} (E : zE Γ cX12_pixel RX12 3 { frames := 0, cells := 0, slots := 0, locals := 0 }) (σ : zS) (l0 : Nat) (l1 : Int32) (l2 : Int32) (s0 : Int32) (s1 : Nat) {R : (Int32 × zS)} (h : fX12_pixel_37 σ l0 l1 l2 s0 s1 = some R) (K : zRet Γ cX12_pixel 3 0 0 (some (.int R.1)) R.2) : zJ Γ 3 0 0 σ 37 [(0, .ref l0), (1, .int l1), (2, .int l2)] [.int s0, .ref s1] := by
  unfold fX12_pixel_37 at h
  refine zs_putI E zc11 0 (by decide) zw_7_9 rfl rfl dX12_pixel_37 h (fun σ1 h => ?_)
  refine zj_aload_n E dX12_pixel_40 rfl 0 rfl ?_
  refine zs_getI E zc11 0 (by decide) zw_7_9 rfl dX12_pixel_41 h (fun x2 h => ?_)
  refine zj_if_le (tgt := 51) E dX12_pixel_44 (by decide) h (fun h => ?_) (fun h => ?_)
  · refine zj_aload_n E dX12_pixel_51 rfl 0 rfl ?_
    refine zs_getR E zc11 10 (by decide) zw_6_8 rfl dX12_pixel_52 h (fun a1 h => ?_)
    refine zj_aload_n E dX12_pixel_55 rfl 0 rfl ?_
    refine zs_getI E zc11 8 (by decide) zw_28_16 rfl dX12_pixel_56 h (fun x3 h => ?_)
    refine zj_iload_n E dX12_pixel_59 rfl 2 rfl ?_
    refine zj_imul E dX12_pixel_60 ?_
    refine zj_iload_n E dX12_pixel_61 rfl 1 rfl ?_
    refine zj_iadd E dX12_pixel_62 ?_
    refine zs_iald E dX12_pixel_63 h (fun x4 h => ?_)
    have e9 := Option.some.inj h
    subst e9
    exact (show zRet Γ cX12_pixel 3 0 0 (some (.int x4)) σ1 from K) _ _ dX12_pixel_64
  · refine zj_iconst (v := 0) E dX12_pixel_47 (by decide) ?_
    refine zj_goto (tgt := 64) E dX12_pixel_48 (by decide) ?_
    have e9 := Option.some.inj h
    subst e9
    exact (show zRet Γ cX12_pixel 3 0 0 (some (.int 0)) σ1 from K) _ _ dX12_pixel_64
def fX12_pixel_36 (σ : zS) (l0 : Nat) (l1 : Int32) (l2 : Int32) (s0 : Nat) : Option (Int32 × zS) := fX12_pixel_37 σ l0 l1 l2 1 s0
set_option maxRecDepth 100000 in
theorem wX12_pixel_36 {Γ : zG} (E : zE Γ cX12_pixel RX12 3 { frames := 0, cells := 0, slots := 0, locals := 0 }) (σ : zS) (l0 : Nat) (l1 : Int32) (l2 : Int32) (s0 : Nat) {R : (Int32 × zS)} (h : fX12_pixel_36 σ l0 l1 l2 s0 = some R) (K : zRet Γ cX12_pixel 3 0 0 (some (.int R.1)) R.2) : zJ Γ 3 0 0 σ 36 [(0, .ref l0), (1, .int l1), (2, .int l2)] [.ref s0] := by
  unfold fX12_pixel_36 at h
  refine zj_iconst (v := 1) E dX12_pixel_36 (by decide) ?_
  refine zj_lv [0, 1, 2] rfl ?_
  exact wX12_pixel_37 E _ _ _ _ _ _ h K
def fX12_pixel (σ : zS) (p0 : Nat) (p1 : Int32) (p2 : Int32) : Option (Int32 × zS) := oGI σ 12 p0 7 (fun x1 => (if x1 = 0 then fX12_pixel_36 σ p0 p1 p2 p0 else (if p1 < 0 then fX12_pixel_36 σ p0 p1 p2 p0 else (if p2 < 0 then fX12_pixel_36 σ p0 p1 p2 p0 else oGI σ 12 p0 8 (fun x5 => (if x5 ≤ p1 then fX12_pixel_36 σ p0 p1 p2 p0 else oGI σ 12 p0 9 (fun x6 => (if x6 ≤ p2 then fX12_pixel_36 σ p0 p1 p2 p0 else fX12_pixel_37 σ p0 p1 p2 0 p0))))))))
set_option maxRecDepth 100000 in
theorem wX12_pixel {Γ : zG} (E : zE Γ cX12_pixel RX12 3 { frames := 0, cells := 0, slots := 0, locals := 0 }) (σ : zS) (p0 : Nat) (p1 : Int32) (p2 : Int32) {R : (Int32 × zS)} (h : fX12_pixel σ p0 p1 p2 = some R) (K : zRet Γ cX12_pixel 3 0 0 (some (.int R.1)) R.2) : zJ Γ 3 0 0 σ 0 [(0, .ref p0), (1, .int p1), (2, .int p2)] [] := by
  unfold fX12_pixel at h
  refine zj_aload_n E dX12_pixel_0 rfl 0 rfl ?_
  refine zj_aload_n E dX12_pixel_1 rfl 0 rfl ?_
  refine zs_getI E zc11 7 (by decide) zw_17_18 rfl dX12_pixel_2 h (fun x1 h => ?_)
  refine zj_if_eq (tgt := 36) E dX12_pixel_5 (by decide) h (fun h => ?_) (fun h => ?_)
  · refine zj_lv [0, 1, 2] rfl ?_
    exact wX12_pixel_36 E _ _ _ _ _ h K
  · refine zj_iload_n E dX12_pixel_8 rfl 1 rfl ?_
    refine zj_if_lt (tgt := 36) E dX12_pixel_9 (by decide) h (fun h => ?_) (fun h => ?_)
    · refine zj_lv [0, 1, 2] rfl ?_
      exact wX12_pixel_36 E _ _ _ _ _ h K
    · refine zj_iload_n E dX12_pixel_12 rfl 2 rfl ?_
      refine zj_if_lt (tgt := 36) E dX12_pixel_13 (by decide) h (fun h => ?_) (fun h => ?_)
      · refine zj_lv [0, 1, 2] rfl ?_
        exact wX12_pixel_36 E _ _ _ _ _ h K
      · refine zj_iload_n E dX12_pixel_16 rfl 1 rfl ?_
        refine zj_aload_n E dX12_pixel_17 rfl 0 rfl ?_
        refine zs_getI E zc11 8 (by decide) zw_28_16 rfl dX12_pixel_18 h (fun x5 h => ?_)
        refine zj_icmp_ge (tgt := 36) E dX12_pixel_21 (by decide) h (fun h => ?_) (fun h => ?_)
        · refine zj_lv [0, 1, 2] rfl ?_
          exact wX12_pixel_36 E _ _ _ _ _ h K
        · refine zj_iload_n E dX12_pixel_24 rfl 2 rfl ?_
          refine zj_aload_n E dX12_pixel_25 rfl 0 rfl ?_
          refine zs_getI E zc11 9 (by decide) zw_28_17 rfl dX12_pixel_26 h (fun x6 h => ?_)
          refine zj_icmp_ge (tgt := 36) E dX12_pixel_29 (by decide) h (fun h => ?_) (fun h => ?_)
          · refine zj_lv [0, 1, 2] rfl ?_
            exact wX12_pixel_36 E _ _ _ _ _ h K
          · refine zj_iconst (v := 0) E dX12_pixel_32 (by decide) ?_
            refine zj_goto (tgt := 37) E dX12_pixel_33 (by decide) ?_
            refine zj_lv [0, 1, 2] rfl ?_
            exact wX12_pixel_37 E _ _ _ _ _ _ h K
set_option maxRecDepth 100000 in
theorem kX12_pixel (l : Launch) (D : va_G) (cs : zCs) (z0 : Nat) (σ : zS) {p0 : Nat} {p1 : Int32} {p2 : Int32} {r : Int32} {σ' : zS} (h : fX12_pixel σ p0 p1 p2 = some (r, σ')) : zM l D cs z0 yX12_pixel cX12_pixel 3 (some .int) { frames := 0, cells := 0, slots := 0, locals := 0 } [.ref p0, .int p1, .int p2] σ (some (.int r)) σ' 0 0 := by
  exact zM_of (by decide) rfl (Or.inl rfl) (Nat.le_of_ble_eq_true rfl) rfl (fun Γ e1 e2 e3 e4 E hN K => wX12_pixel E σ _ _ _ h K)
/-! X12_put -/
def fX12_put (σ : zS) (p0 : Nat) (p1 : Int32) : Option zS := oGR σ 12 p0 13 (fun a1 => oGI σ 12 p0 12 (fun x1 => oSt σ 20 a1 x1 ((p1.toInt8.toInt32).toInt8.toInt32) (fun σ1 => oGI σ1 12 p0 12 (fun x2 => oPI σ1 12 p0 12 (x2 + (1 : Int32)) (fun σ2 => some σ2)))))
set_option maxRecDepth 100000 in
theorem wX12_put {Γ : zG} (E : zE Γ cX12_put RX12 2 { frames := 0, cells := 0, slots := 0, locals := 0 }) (σ : zS) (p0 : Nat) (p1 : Int32) {R : zS} (h : fX12_put σ p0 p1 = some R) (K : zRet Γ cX12_put 2 0 0 (none) R) : zJ Γ 2 0 0 σ 0 [(0, .ref p0), (1, .int p1)] [] := by
  unfold fX12_put at h
  refine zj_aload_n E dX12_put_0 rfl 0 rfl ?_
  refine zs_getR E zc11 13 (by decide) zw_6_10 rfl dX12_put_1 h (fun a1 h => ?_)
  refine zj_aload_n E dX12_put_4 rfl 0 rfl ?_
  refine zs_getI E zc11 12 (by decide) zw_32_21 rfl dX12_put_5 h (fun x1 h => ?_)
  refine zj_iload_n E dX12_put_8 rfl 1 rfl ?_
  refine zj_i2b E dX12_put_9 ?_
  refine zs_bast E dX12_put_10 h (fun σ1 h => ?_)
  refine zj_aload_n E dX12_put_11 rfl 0 rfl ?_
  refine zj_dup E dX12_put_12 rfl ?_
  refine zs_getI E zc11 12 (by decide) zw_32_21 rfl dX12_put_13 h (fun x2 h => ?_)
  refine zj_iconst (v := 1) E dX12_put_16 (by decide) ?_
  refine zj_iadd E dX12_put_17 ?_
  refine zs_putI E zc11 12 (by decide) zw_32_21 rfl rfl dX12_put_18 h (fun σ2 h => ?_)
  have e9 := Option.some.inj h
  subst e9
  exact (show zRet Γ cX12_put 2 0 0 (none) σ2 from K) _ _ dX12_put_21
set_option maxRecDepth 100000 in
theorem kX12_put (l : Launch) (D : va_G) (cs : zCs) (z0 : Nat) (σ : zS) {p0 : Nat} {p1 : Int32}  {σ' : zS} (h : fX12_put σ p0 p1 = some σ') : zM l D cs z0 yX12_put cX12_put 2 none { frames := 0, cells := 0, slots := 0, locals := 0 } [.ref p0, .int p1] σ none σ' 0 0 := by
  exact zM_of (by decide) rfl rfl (Nat.le_of_ble_eq_true rfl) rfl (fun Γ e1 e2 e3 e4 E hN K => wX12_put E σ _ _ h K)
/-! X12_putNumber -/
def fX12_putNumber (σ : zS) (p0 : Nat) (p1 : Int32) : Option zS := oA (zk σ p0 = 12) (oB (fX12_put σ p0 (p1 >>> ((24 : Int32) &&& 31))) (fun σ1 => oA (zk σ1 p0 = 12) (oB (fX12_put σ1 p0 (p1 >>> ((16 : Int32) &&& 31))) (fun σ2 => oA (zk σ2 p0 = 12) (oB (fX12_put σ2 p0 (p1 >>> ((8 : Int32) &&& 31))) (fun σ3 => oA (zk σ3 p0 = 12) (oB (fX12_put σ3 p0 p1) (fun σ4 => some σ4))))))))
set_option maxRecDepth 100000 in
theorem wX12_putNumber {Γ : zG} (E : zE Γ cX12_putNumber RX12 2 { frames := 1, cells := 0, slots := 0, locals := 21 }) (σ : zS) (p0 : Nat) (p1 : Int32) {R : zS} (h : fX12_putNumber σ p0 p1 = some R) (K : zRet Γ cX12_putNumber 2 0 0 (none) R) : zJ Γ 2 0 0 σ 0 [(0, .ref p0), (1, .int p1)] [] := by
  unfold fX12_putNumber at h
  refine zj_aload_n E dX12_putNumber_0 rfl 0 rfl ?_
  refine zj_iload_n E dX12_putNumber_1 rfl 1 rfl ?_
  refine zj_bipush (v := 24) E dX12_putNumber_2 (by decide) ?_
  refine zj_ishr E dX12_putNumber_4 ?_
  obtain ⟨hk, h⟩ := oA_some h
  obtain ⟨σ1, hc, h⟩ := oB_some h
  refine zs_callV (As := [.int (p1 >>> ((24 : Int32) &&& 31))]) (rest := []) E zc11 zyX12_put zw_32_22 (kX12_put _ _ _ _ _ hc) rfl rfl hk rfl ⟨by decide, by decide⟩ ⟨by decide, by decide⟩ (Nat.le_of_ble_eq_true rfl) dX12_putNumber_5 rfl (show zJ Γ 2 0 0 σ1 8 [(0, .ref p0), (1, .int p1)] [] from ?_)
  refine zj_aload_n E dX12_putNumber_8 rfl 0 rfl ?_
  refine zj_iload_n E dX12_putNumber_9 rfl 1 rfl ?_
  refine zj_bipush (v := 16) E dX12_putNumber_10 (by decide) ?_
  refine zj_ishr E dX12_putNumber_12 ?_
  obtain ⟨hk, h⟩ := oA_some h
  obtain ⟨σ2, hc, h⟩ := oB_some h
  refine zs_callV (As := [.int (p1 >>> ((16 : Int32) &&& 31))]) (rest := []) E zc11 zyX12_put zw_32_22 (kX12_put _ _ _ _ _ hc) rfl rfl hk rfl ⟨by decide, by decide⟩ ⟨by decide, by decide⟩ (Nat.le_of_ble_eq_true rfl) dX12_putNumber_13 rfl (show zJ Γ 2 0 0 σ2 16 [(0, .ref p0), (1, .int p1)] [] from ?_)
  refine zj_aload_n E dX12_putNumber_16 rfl 0 rfl ?_
  refine zj_iload_n E dX12_putNumber_17 rfl 1 rfl ?_
  refine zj_bipush (v := 8) E dX12_putNumber_18 (by decide) ?_
  refine zj_ishr E dX12_putNumber_20 ?_
  obtain ⟨hk, h⟩ := oA_some h
  obtain ⟨σ3, hc, h⟩ := oB_some h
  refine zs_callV (As := [.int (p1 >>> ((8 : Int32) &&& 31))]) (rest := []) E zc11 zyX12_put zw_32_22 (kX12_put _ _ _ _ _ hc) rfl rfl hk rfl ⟨by decide, by decide⟩ ⟨by decide, by decide⟩ (Nat.le_of_ble_eq_true rfl) dX12_putNumber_21 rfl (show zJ Γ 2 0 0 σ3 24 [(0, .ref p0), (1, .int p1)] [] from ?_)
  refine zj_aload_n E dX12_putNumber_24 rfl 0 rfl ?_
  refine zj_iload_n E dX12_putNumber_25 rfl 1 rfl ?_
  obtain ⟨hk, h⟩ := oA_some h
  obtain ⟨σ4, hc, h⟩ := oB_some h
  refine zs_callV (As := [.int p1]) (rest := []) E zc11 zyX12_put zw_32_22 (kX12_put _ _ _ _ _ hc) rfl rfl hk rfl ⟨by decide, by decide⟩ ⟨by decide, by decide⟩ (Nat.le_of_ble_eq_true rfl) dX12_putNumber_26 rfl (show zJ Γ 2 0 0 σ4 29 [(0, .ref p0), (1, .int p1)] [] from ?_)
  have e9 := Option.some.inj h
  subst e9
  exact (show zRet Γ cX12_putNumber 2 0 0 (none) σ4 from K) _ _ dX12_putNumber_29
set_option maxRecDepth 100000 in
theorem kX12_putNumber (l : Launch) (D : va_G) (cs : zCs) (z0 : Nat) (σ : zS) {p0 : Nat} {p1 : Int32}  {σ' : zS} (h : fX12_putNumber σ p0 p1 = some σ') : zM l D cs z0 yX12_putNumber cX12_putNumber 2 none { frames := 1, cells := 0, slots := 0, locals := 21 } [.ref p0, .int p1] σ none σ' 0 0 := by
  exact zM_of (by decide) rfl rfl (Nat.le_of_ble_eq_true rfl) rfl (fun Γ e1 e2 e3 e4 E hN K => wX12_putNumber E σ _ _ h K)
/-! X12_beginChunk -/
def fX12_beginChunk (σ : zS) (p0 : Nat) (p1 : Int32) (p2 : Int32) (p3 : Int32) (p4 : Int32) : Option (Int32 × zS) := oGI σ 12 p0 12 (fun x1 => oA (zk σ p0 = 12) (oB (fX12_putNumber σ p0 0) (fun σ1 => oA (zk σ1 p0 = 12) (oB (fX12_put σ1 p0 p1) (fun σ2 => oA (zk σ2 p0 = 12) (oB (fX12_put σ2 p0 p2) (fun σ3 => oA (zk σ3 p0 = 12) (oB (fX12_put σ3 p0 p3) (fun σ4 => oA (zk σ4 p0 = 12) (oB (fX12_put σ4 p0 p4) (fun σ5 => some (x1, σ5))))))))))))
set_option maxRecDepth 100000 in
theorem wX12_beginChunk {Γ : zG} (E : zE Γ cX12_beginChunk RX12 6 { frames := 2, cells := 0, slots := 0, locals := 42 }) (σ : zS) (p0 : Nat) (p1 : Int32) (p2 : Int32) (p3 : Int32) (p4 : Int32) {R : (Int32 × zS)} (h : fX12_beginChunk σ p0 p1 p2 p3 p4 = some R) (K : zRet Γ cX12_beginChunk 6 0 0 (some (.int R.1)) R.2) : zJ Γ 6 0 0 σ 0 [(0, .ref p0), (1, .int p1), (2, .int p2), (3, .int p3), (4, .int p4)] [] := by
  unfold fX12_beginChunk at h
  refine zj_aload_n E dX12_beginChunk_0 rfl 0 rfl ?_
  refine zs_getI E zc11 12 (by decide) zw_32_21 rfl dX12_beginChunk_1 h (fun x1 h => ?_)
  refine zj_istore (lv2 := [(5, .int x1), (0, .ref p0), (1, .int p1), (2, .int p2), (3, .int p3), (4, .int p4)]) E dX12_beginChunk_4 (by decide) rfl ?_
  refine zj_aload_n E dX12_beginChunk_6 rfl 1 rfl ?_
  refine zj_iconst (v := 0) E dX12_beginChunk_7 (by decide) ?_
  obtain ⟨hk, h⟩ := oA_some h
  obtain ⟨σ1, hc, h⟩ := oB_some h
  refine zs_callV (As := [.int 0]) (rest := []) E zc11 zyX12_putNumber zw_33_6 (kX12_putNumber _ _ _ _ _ hc) rfl rfl hk rfl ⟨by decide, by decide⟩ ⟨by decide, by decide⟩ (Nat.le_of_ble_eq_true rfl) dX12_beginChunk_8 rfl (show zJ Γ 6 0 0 σ1 11 [(5, .int x1), (0, .ref p0), (1, .int p1), (2, .int p2), (3, .int p3), (4, .int p4)] [] from ?_)
  refine zj_aload_n E dX12_beginChunk_11 rfl 1 rfl ?_
  refine zj_iload_n E dX12_beginChunk_12 rfl 2 rfl ?_
  obtain ⟨hk, h⟩ := oA_some h
  obtain ⟨σ2, hc, h⟩ := oB_some h
  refine zs_callV (As := [.int p1]) (rest := []) E zc11 zyX12_put zw_32_22 (kX12_put _ _ _ _ _ hc) rfl rfl hk rfl ⟨by decide, by decide⟩ ⟨by decide, by decide⟩ (Nat.le_of_ble_eq_true rfl) dX12_beginChunk_13 rfl (show zJ Γ 6 0 0 σ2 16 [(5, .int x1), (0, .ref p0), (1, .int p1), (2, .int p2), (3, .int p3), (4, .int p4)] [] from ?_)
  refine zj_aload_n E dX12_beginChunk_16 rfl 1 rfl ?_
  refine zj_iload_n E dX12_beginChunk_17 rfl 3 rfl ?_
  obtain ⟨hk, h⟩ := oA_some h
  obtain ⟨σ3, hc, h⟩ := oB_some h
  refine zs_callV (As := [.int p2]) (rest := []) E zc11 zyX12_put zw_32_22 (kX12_put _ _ _ _ _ hc) rfl rfl hk rfl ⟨by decide, by decide⟩ ⟨by decide, by decide⟩ (Nat.le_of_ble_eq_true rfl) dX12_beginChunk_18 rfl (show zJ Γ 6 0 0 σ3 21 [(5, .int x1), (0, .ref p0), (1, .int p1), (2, .int p2), (3, .int p3), (4, .int p4)] [] from ?_)
  refine zj_aload_n E dX12_beginChunk_21 rfl 1 rfl ?_
  refine zj_iload_n E dX12_beginChunk_22 rfl 4 rfl ?_
  obtain ⟨hk, h⟩ := oA_some h
  obtain ⟨σ4, hc, h⟩ := oB_some h
  refine zs_callV (As := [.int p3]) (rest := []) E zc11 zyX12_put zw_32_22 (kX12_put _ _ _ _ _ hc) rfl rfl hk rfl ⟨by decide, by decide⟩ ⟨by decide, by decide⟩ (Nat.le_of_ble_eq_true rfl) dX12_beginChunk_23 rfl (show zJ Γ 6 0 0 σ4 26 [(5, .int x1), (0, .ref p0), (1, .int p1), (2, .int p2), (3, .int p3), (4, .int p4)] [] from ?_)
  refine zj_aload_n E dX12_beginChunk_26 rfl 1 rfl ?_
  refine zj_iload E dX12_beginChunk_27 5 rfl ?_
  obtain ⟨hk, h⟩ := oA_some h
  obtain ⟨σ5, hc, h⟩ := oB_some h
  refine zs_callV (As := [.int p4]) (rest := []) E zc11 zyX12_put zw_32_22 (kX12_put _ _ _ _ _ hc) rfl rfl hk rfl ⟨by decide, by decide⟩ ⟨by decide, by decide⟩ (Nat.le_of_ble_eq_true rfl) dX12_beginChunk_29 rfl (show zJ Γ 6 0 0 σ5 32 [(5, .int x1), (0, .ref p0), (1, .int p1), (2, .int p2), (3, .int p3), (4, .int p4)] [] from ?_)
  refine zj_iload E dX12_beginChunk_32 0 rfl ?_
  have e9 := Option.some.inj h
  subst e9
  exact (show zRet Γ cX12_beginChunk 6 0 0 (some (.int x1)) σ5 from K) _ _ dX12_beginChunk_34
set_option maxRecDepth 100000 in
theorem kX12_beginChunk (l : Launch) (D : va_G) (cs : zCs) (z0 : Nat) (σ : zS) {p0 : Nat} {p1 : Int32} {p2 : Int32} {p3 : Int32} {p4 : Int32} {r : Int32} {σ' : zS} (h : fX12_beginChunk σ p0 p1 p2 p3 p4 = some (r, σ')) : zM l D cs z0 yX12_beginChunk cX12_beginChunk 6 (some .int) { frames := 2, cells := 0, slots := 0, locals := 42 } [.ref p0, .int p1, .int p2, .int p3, .int p4] σ (some (.int r)) σ' 0 0 := by
  exact zM_of (by decide) rfl (Or.inl rfl) (Nat.le_of_ble_eq_true rfl) rfl (fun Γ e1 e2 e3 e4 E hN K => wX12_beginChunk E σ _ _ _ _ _ h K)
/-! X12_endChunk -/
def jX12_endChunk_12 (Γ : zG) (l0 : Nat) (l1 : Int32) (l2 : Int32) : (Int32 × zS) → Prop := fun x => zJ Γ 5 0 0 x.2 12 [(0, .ref l0), (1, .int l1), (2, .int l2), (3, .int x.1)] []
def eX12_endChunk_12 (Γ : zG) (l0 : Nat) (l1 : Int32) (l2 : Int32) : zS → Prop := fun b => zJ Γ 5 0 0 b 41 [(0, .ref l0), (1, .int l1)] []
def bX12_endChunk_12 (l0 : Nat) (l1 : Int32) (l2 : Int32) (l3 : Int32) (σ : zS) : Option ((Int32 × zS) ⊕ zS) := (if (4 : Int32) ≤ l3 then some (.inr σ) else oGR σ 12 l0 13 (fun a1 => oSt σ 20 a1 (l1 + l3) (((l2 >>> (((24 : Int32) - ((8 : Int32) * l3)) &&& 31)).toInt8.toInt32).toInt8.toInt32) (fun σ1 => oL (l3 + 1) (fun v2 => some (.inl (v2, σ1))))))
set_option maxRecDepth 100000 in
theorem wX12_endChunk_L12 {Γ : zG} (E : zE Γ cX12_endChunk RX12 5 { frames := 2, cells := 0, slots := 0, locals := 42 }) (l0 : Nat) (l1 : Int32) (l2 : Int32) : ∀ x R, (fun x => bX12_endChunk_12 l0 l1 l2 x.1 x.2) x = some R → Sum.elim (jX12_endChunk_12 Γ l0 l1 l2) (eX12_endChunk_12 Γ l0 l1 l2) R → jX12_endChunk_12 Γ l0 l1 l2 x := by
  intro x R h K
  obtain ⟨l3, σ⟩ := x
  have h : bX12_endChunk_12 l0 l1 l2 l3 σ = some R := h
  show zJ Γ 5 0 0 σ 12 [(0, .ref l0), (1, .int l1), (2, .int l2), (3, .int l3)] []
  unfold bX12_endChunk_12 at h
  refine zj_iload_n E dX12_endChunk_12 rfl 3 rfl ?_
  refine zj_iconst (v := 4) E dX12_endChunk_13 (by decide) ?_
  refine zj_icmp_ge (tgt := 41) E dX12_endChunk_14 (by decide) h (fun h => ?_) (fun h => ?_)
  · have e9 := Option.some.inj h
    subst e9
    refine zj_lv [0, 1] rfl ?_
    exact K
  · refine zj_aload_n E dX12_endChunk_17 rfl 0 rfl ?_
    refine zs_getR E zc11 13 (by decide) zw_6_10 rfl dX12_endChunk_18 h (fun a1 h => ?_)
    refine zj_iload_n E dX12_endChunk_21 rfl 1 rfl ?_
    refine zj_iload_n E dX12_endChunk_22 rfl 3 rfl ?_
    refine zj_iadd E dX12_endChunk_23 ?_
    refine zj_iload_n E dX12_endChunk_24 rfl 2 rfl ?_
    refine zj_bipush (v := 24) E dX12_endChunk_25 (by decide) ?_
    refine zj_bipush (v := 8) E dX12_endChunk_27 (by decide) ?_
    refine zj_iload_n E dX12_endChunk_29 rfl 3 rfl ?_
    refine zj_imul E dX12_endChunk_30 ?_
    refine zj_isub E dX12_endChunk_31 ?_
    refine zj_ishr E dX12_endChunk_32 ?_
    refine zj_i2b E dX12_endChunk_33 ?_
    refine zs_bast E dX12_endChunk_34 h (fun σ1 h => ?_)
    refine zs_iinc (lv2 := fun v2 => [(3, .int v2), (0, .ref l0), (1, .int l1), (2, .int l2)]) E dX12_endChunk_35 3 rfl (by decide) (by decide) (fun _ => rfl) h (fun v2 h => ?_)
    refine zj_goto (tgt := 12) E dX12_endChunk_38 (by decide) ?_
    have e9 := Option.some.inj h
    subst e9
    refine zj_lv [1, 2, 3, 0] rfl ?_
    exact K
def jX12_endChunk_48 (Γ : zG) (σ : zS) (l0 : Nat) : (Int32 × Int32) → Prop := fun x => zJ Γ 5 0 0 σ 48 [(0, .ref l0), (3, .int x.1), (4, .int x.2)] []
def eX12_endChunk_48 (Γ : zG) (σ : zS) (l0 : Nat) : Int32 → Prop := fun b => zJ Γ 5 0 0 σ 79 [(0, .ref l0), (3, .int b)] []
def bX12_endChunk_48 (σ : zS) (l0 : Nat) (l3 : Int32) (l4 : Int32) : Option ((Int32 × Int32) ⊕ Int32) := oGI σ 12 l0 12 (fun x2 => (if x2 ≤ l4 then some (.inr l3) else oGR σ 12 l0 13 (fun a2 => oLd σ 20 a2 l4 (fun x3 => oB (fX12_nextSum σ l3 (x3 &&& (255 : Int32))) (fun x4 => oL (l4 + 1) (fun v4 => some (.inl (x4, v4))))))))
set_option maxRecDepth 100000 in
theorem wX12_endChunk_L48 {Γ : zG} (E : zE Γ cX12_endChunk RX12 5 { frames := 2, cells := 0, slots := 0, locals := 42 }) (σ : zS) (l0 : Nat) : ∀ x R, (fun x => bX12_endChunk_48 σ l0 x.1 x.2) x = some R → Sum.elim (jX12_endChunk_48 Γ σ l0) (eX12_endChunk_48 Γ σ l0) R → jX12_endChunk_48 Γ σ l0 x := by
  intro x R h K
  obtain ⟨l3, l4⟩ := x
  have h : bX12_endChunk_48 σ l0 l3 l4 = some R := h
  show zJ Γ 5 0 0 σ 48 [(0, .ref l0), (3, .int l3), (4, .int l4)] []
  unfold bX12_endChunk_48 at h
  refine zj_iload E dX12_endChunk_48 2 rfl ?_
  refine zj_aload_n E dX12_endChunk_50 rfl 0 rfl ?_
  refine zs_getI E zc11 12 (by decide) zw_32_21 rfl dX12_endChunk_51 h (fun x2 h => ?_)
  refine zj_icmp_ge (tgt := 79) E dX12_endChunk_54 (by decide) h (fun h => ?_) (fun h => ?_)
  · have e9 := Option.some.inj h
    subst e9
    refine zj_lv [0, 1] rfl ?_
    exact K
  · refine zj_iload_n E dX12_endChunk_57 rfl 1 rfl ?_
    refine zj_aload_n E dX12_endChunk_58 rfl 0 rfl ?_
    refine zs_getR E zc11 13 (by decide) zw_6_10 rfl dX12_endChunk_59 h (fun a2 h => ?_)
    refine zj_iload E dX12_endChunk_62 2 rfl ?_
    refine zs_bald E dX12_endChunk_64 h (fun x3 h => ?_)
    refine zj_sipush (v := 255) E dX12_endChunk_65 (by decide) ?_
    refine zj_iand E dX12_endChunk_68 ?_
    obtain ⟨x4, hc, h⟩ := oB_some h
    refine zs_callS (As := [.int l3, .int (x3 &&& (255 : Int32))]) (rest := []) E zyX12_nextSum zw_18_18 (kX12_nextSum _ _ _ _ _ hc) rfl rfl rfl ⟨by decide, by decide⟩ ⟨by decide, by decide⟩ (Nat.le_of_ble_eq_true rfl) dX12_endChunk_69 rfl (show zJ Γ 5 0 0 σ 72 [(0, .ref l0), (3, .int l3), (4, .int l4)] [.int x4] from ?_)
    refine zj_istore_n (lv2 := [(3, .int x4), (0, .ref l0), (4, .int l4)]) E dX12_endChunk_72 rfl (by decide) rfl ?_
    refine zs_iinc (lv2 := fun v4 => [(4, .int v4), (3, .int x4), (0, .ref l0)]) E dX12_endChunk_73 2 rfl (by decide) (by decide) (fun _ => rfl) h (fun v4 h => ?_)
    refine zj_goto (tgt := 48) E dX12_endChunk_76 (by decide) ?_
    have e9 := Option.some.inj h
    subst e9
    refine zj_lv [2, 1, 0] rfl ?_
    exact K
def fX12_endChunk (σ : zS) (p0 : Nat) (p1 : Int32) : Option zS := oGI σ 12 p0 12 (fun x1 => oL ((x1 - p1) - (8 : Int32)) (fun v1 => oB (zloop zF (fun x => bX12_endChunk_12 p0 p1 v1 x.1 x.2) (0, σ)) (fun b1 => (fun σ2 => oL (p1 + (4 : Int32)) (fun v3 => oB (zloop zF (fun x => bX12_endChunk_48 σ2 p0 x.1 x.2) ((-1 : Int32), v3)) (fun b2 => (fun v5 => oA (zk σ2 p0 = 12) (oB (fX12_putNumber σ2 p0 (v5 ^^^ (-1 : Int32))) (fun σ3 => some σ3))) b2))) b1)))
set_option maxRecDepth 100000 in
theorem wX12_endChunk {Γ : zG} (E : zE Γ cX12_endChunk RX12 5 { frames := 2, cells := 0, slots := 0, locals := 42 }) (σ : zS) (p0 : Nat) (p1 : Int32) {R : zS} (h : fX12_endChunk σ p0 p1 = some R) (K : zRet Γ cX12_endChunk 5 0 0 (none) R) : zJ Γ 5 0 0 σ 0 [(0, .ref p0), (1, .int p1)] [] := by
  unfold fX12_endChunk at h
  refine zj_aload_n E dX12_endChunk_0 rfl 0 rfl ?_
  refine zs_getI E zc11 12 (by decide) zw_32_21 rfl dX12_endChunk_1 h (fun x1 h => ?_)
  refine zj_iload_n E dX12_endChunk_4 rfl 1 rfl ?_
  refine zj_isub E dX12_endChunk_5 ?_
  refine zj_bipush (v := 8) E dX12_endChunk_6 (by decide) ?_
  refine zj_isub E dX12_endChunk_8 ?_
  refine zs_istore_n (lv2 := fun v1 => [(2, .int v1), (0, .ref p0), (1, .int p1)]) E dX12_endChunk_9 rfl (by decide) (fun _ => rfl) h (fun v1 h => ?_)
  refine zj_iconst (v := 0) E dX12_endChunk_10 (by decide) ?_
  refine zj_istore_n (lv2 := [(3, .int 0), (2, .int v1), (0, .ref p0), (1, .int p1)]) E dX12_endChunk_11 rfl (by decide) rfl ?_
  obtain ⟨b1, hb1, h⟩ := oB_some h
  refine zj_lv [2, 3, 1, 0] rfl ?_
  refine zj_loop (wX12_endChunk_L12 E p0 p1 v1) zF (0, σ) b1 hb1 ?_
  obtain ⟨σ2, rfl⟩ : ∃ z, z = b1 := ⟨_, rfl⟩
  try dsimp only at h
  show zJ Γ 5 0 0 σ2 41 [(0, .ref p0), (1, .int p1)] []
  refine zj_iconst (v := (-1 : Int32)) E dX12_endChunk_41 (by decide) ?_
  refine zj_istore_n (lv2 := [(3, .int (-1 : Int32)), (0, .ref p0), (1, .int p1)]) E dX12_endChunk_42 rfl (by decide) rfl ?_
  refine zj_iload_n E dX12_endChunk_43 rfl 2 rfl ?_
  refine zj_iconst (v := 4) E dX12_endChunk_44 (by decide) ?_
  refine zj_iadd E dX12_endChunk_45 ?_
  refine zs_istore (lv2 := fun v3 => [(4, .int v3), (3, .int (-1 : Int32)), (0, .ref p0), (1, .int p1)]) E dX12_endChunk_46 (by decide) (fun _ => rfl) h (fun v3 h => ?_)
  obtain ⟨b2, hb2, h⟩ := oB_some h
  refine zj_lv [2, 1, 0] rfl ?_
  refine zj_loop (wX12_endChunk_L48 E σ2 p0) zF ((-1 : Int32), v3) b2 hb2 ?_
  obtain ⟨v5, rfl⟩ : ∃ z, z = b2 := ⟨_, rfl⟩
  try dsimp only at h
  show zJ Γ 5 0 0 σ2 79 [(0, .ref p0), (3, .int v5)] []
  refine zj_aload_n E dX12_endChunk_79 rfl 0 rfl ?_
  refine zj_iload_n E dX12_endChunk_80 rfl 1 rfl ?_
  refine zj_iconst (v := (-1 : Int32)) E dX12_endChunk_81 (by decide) ?_
  refine zj_ixor E dX12_endChunk_82 ?_
  obtain ⟨hk, h⟩ := oA_some h
  obtain ⟨σ3, hc, h⟩ := oB_some h
  refine zs_callV (As := [.int (v5 ^^^ (-1 : Int32))]) (rest := []) E zc11 zyX12_putNumber zw_33_6 (kX12_putNumber _ _ _ _ _ hc) rfl rfl hk rfl ⟨by decide, by decide⟩ ⟨by decide, by decide⟩ (Nat.le_of_ble_eq_true rfl) dX12_endChunk_83 rfl (show zJ Γ 5 0 0 σ3 86 [(0, .ref p0), (3, .int v5)] [] from ?_)
  have e9 := Option.some.inj h
  subst e9
  exact (show zRet Γ cX12_endChunk 5 0 0 (none) σ3 from K) _ _ dX12_endChunk_86
set_option maxRecDepth 100000 in
theorem kX12_endChunk (l : Launch) (D : va_G) (cs : zCs) (z0 : Nat) (σ : zS) {p0 : Nat} {p1 : Int32}  {σ' : zS} (h : fX12_endChunk σ p0 p1 = some σ') : zM l D cs z0 yX12_endChunk cX12_endChunk 5 none { frames := 2, cells := 0, slots := 0, locals := 42 } [.ref p0, .int p1] σ none σ' 0 0 := by
  exact zM_of (by decide) rfl rfl (Nat.le_of_ble_eq_true rfl) rfl (fun Γ e1 e2 e3 e4 E hN K => wX12_endChunk E σ _ _ h K)
