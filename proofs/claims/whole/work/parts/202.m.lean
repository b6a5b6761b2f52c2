/-! X9_fixCodes -/
def jX9_fixCodes_2 (Γ : zG) (l0 : Nat) : (Int32 × zS) → Prop := fun x => zJ Γ 2 0 0 x.2 2 [(0, .ref l0), (1, .int x.1)] []
def eX9_fixCodes_2 (Γ : zG) (l0 : Nat) : zS → Prop := fun b => zJ Γ 2 0 0 b 59 [(0, .ref l0)] []
def fX9_fixCodes_52 (σ : zS) (l0 : Nat) (l1 : Int32) (s0 : Int32) (s1 : Int32) (s2 : Nat) : Option ((Int32 × zS) ⊕ zS) := oSt σ 21 s2 s1 s0 (fun σ1 => oL (l1 + 1) (fun v1 => some (.inl (v1, σ1))))
set_option maxRecDepth 100000 in
theorem wX9_fixCodes_52 {Γ : zG} (E : zE Γ cX9_fixCodes RX9 2 { frames := 2, cells := 0, slots := 0, locals := 49 }) (σ : zS) (l0 : Nat) (l1 : Int32) (s0 : Int32) (s1 : Int32) (s2 : Nat) {R : ((Int32 × zS) ⊕ zS)} (h : fX9_fixCodes_52 σ l0 l1 s0 s1 s2 = some R) (K : Sum.elim (jX9_fixCodes_2 Γ l0) (eX9_fixCodes_2 Γ l0) R) : zJ Γ 2 0 0 σ 52 [(0, .ref l0), (1, .int l1)] [.int s0, .int s1, .ref s2] := by
  unfold fX9_fixCodes_52 at h
  refine zs_iast E dX9_fixCodes_52 h (fun σ1 h => ?_)
  refine zs_iinc (lv2 := fun v1 => [(1, .int v1), (0, .ref l0)]) E dX9_fixCodes_53 1 rfl (by decide) (by decide) (fun _ => rfl) h (fun v1 h => ?_)
  refine zj_goto (tgt := 2) E dX9_fixCodes_56 (by decide) ?_
  have e9 := Option.some.inj h
  subst e9
  refine zj_lv [1, 0] rfl ?_
  exact K
def bX9_fixCodes_2 (l0 : Nat) (l1 : Int32) (σ : zS) : Option ((Int32 × zS) ⊕ zS) := (if (288 : Int32) ≤ l1 then some (.inr σ) else oGR σ 9 l0 6 (fun a1 => (if (144 : Int32) ≤ l1 then (if (256 : Int32) ≤ l1 then (if (280 : Int32) ≤ l1 then fX9_fixCodes_52 σ l0 l1 8 l1 a1 else fX9_fixCodes_52 σ l0 l1 7 l1 a1) else fX9_fixCodes_52 σ l0 l1 9 l1 a1) else fX9_fixCodes_52 σ l0 l1 8 l1 a1)))
set_option maxRecDepth 100000 in
theorem wX9_fixCodes_L2 {Γ : zG} (E : zE Γ cX9_fixCodes RX9 2 { frames := 2, cells := 0, slots := 0, locals := 49 }) (l0 : Nat) : ∀ x R, (fun x => bX9_fixCodes_2 l0 x.1 x.2) x = some R → Sum.elim (jX9_fixCodes_2 Γ l0) (eX9_fixCodes_2 Γ l0) R → jX9_fixCodes_2 Γ l0 x := by
  intro x R h K
  obtain ⟨l1, σ⟩ := x
  have h : bX9_fixCodes_2 l0 l1 σ = some R := h
  show zJ Γ 2 0 0 σ 2 [(0, .ref l0), (1, .int l1)] []
  unfold bX9_fixCodes_2 at h
  refine zj_iload_n E dX9_fixCodes_2 rfl 1 rfl ?_
  refine zj_sipush (v := 288) E dX9_fixCodes_3 (by decide) ?_
  refine zj_icmp_ge (tgt := 59) E dX9_fixCodes_6 (by decide) h (fun h => ?_) (fun h => ?_)
  · have e9 := Option.some.inj h
    subst e9
    refine zj_lv [0] rfl ?_
    exact K
  · refine zj_aload_n E dX9_fixCodes_9 rfl 0 rfl ?_
    refine zs_getR E zc8 6 (by decide) zw_4_7 rfl dX9_fixCodes_10 h (fun a1 h => ?_)
    refine zj_iload_n E dX9_fixCodes_13 rfl 1 rfl ?_
    refine zj_iload_n E dX9_fixCodes_14 rfl 1 rfl ?_
    refine zj_sipush (v := 144) E dX9_fixCodes_15 (by decide) ?_
    refine zj_icmp_ge (tgt := 26) E dX9_fixCodes_18 (by decide) h (fun h => ?_) (fun h => ?_)
    · refine zj_iload_n E dX9_fixCodes_26 rfl 1 rfl ?_
      refine zj_sipush (v := 256) E dX9_fixCodes_27 (by decide) ?_
      refine zj_icmp_ge (tgt := 38) E dX9_fixCodes_30 (by decide) h (fun h => ?_) (fun h => ?_)
      · refine zj_iload_n E dX9_fixCodes_38 rfl 1 rfl ?_
        refine zj_sipush (v := 280) E dX9_fixCodes_39 (by decide) ?_
        refine zj_icmp_ge (tgt := 50) E dX9_fixCodes_42 (by decide) h (fun h => ?_) (fun h => ?_)
        · refine zj_bipush (v := 8) E dX9_fixCodes_50 (by decide) ?_
          refine zj_lv [0, 1] rfl ?_
          exact wX9_fixCodes_52 E _ _ _ _ _ _ h K
        · refine zj_bipush (v := 7) E dX9_fixCodes_45 (by decide) ?_
          refine zj_goto (tgt := 52) E dX9_fixCodes_47 (by decide) ?_
          refine zj_lv [0, 1] rfl ?_
          exact wX9_fixCodes_52 E _ _ _ _ _ _ h K
      · refine zj_bipush (v := 9) E dX9_fixCodes_33 (by decide) ?_
        refine zj_goto (tgt := 52) E dX9_fixCodes_35 (by decide) ?_
        refine zj_lv [0, 1] rfl ?_
        exact wX9_fixCodes_52 E _ _ _ _ _ _ h K
    · refine zj_bipush (v := 8) E dX9_fixCodes_21 (by decide) ?_
      refine zj_goto (tgt := 52) E dX9_fixCodes_23 (by decide) ?_
      refine zj_lv [0, 1] rfl ?_
      exact wX9_fixCodes_52 E _ _ _ _ _ _ h K
def jX9_fixCodes_61 (Γ : zG) (l0 : Nat) : (Int32 × zS) → Prop := fun x => zJ Γ 2 0 0 x.2 61 [(0, .ref l0), (1, .int x.1)] []
def eX9_fixCodes_61 (Γ : zG) (l0 : Nat) : zS → Prop := fun b => zJ Γ 2 0 0 b 84 [(0, .ref l0)] []
def bX9_fixCodes_61 (l0 : Nat) (l1 : Int32) (σ : zS) : Option ((Int32 × zS) ⊕ zS) := (if (32 : Int32) ≤ l1 then some (.inr σ) else oGR σ 9 l0 6 (fun a2 => oSt σ 21 a2 ((288 : Int32) + l1) 5 (fun σ3 => oL (l1 + 1) (fun v2 => some (.inl (v2, σ3))))))
set_option maxRecDepth 100000 in
theorem wX9_fixCodes_L61 {Γ : zG} (E : zE Γ cX9_fixCodes RX9 2 { frames := 2, cells := 0, slots := 0, locals := 49 }) (l0 : Nat) : ∀ x R, (fun x => bX9_fixCodes_61 l0 x.1 x.2) x = some R → Sum.elim (jX9_fixCodes_61 Γ l0) (eX9_fixCodes_61 Γ l0) R → jX9_fixCodes_61 Γ l0 x := by
  intro x R h K
  obtain ⟨l1, σ⟩ := x
  have h : bX9_fixCodes_61 l0 l1 σ = some R := h
  show zJ Γ 2 0 0 σ 61 [(0, .ref l0), (1, .int l1)] []
  unfold bX9_fixCodes_61 at h
  refine zj_iload_n E dX9_fixCodes_61 rfl 1 rfl ?_
  refine zj_bipush (v := 32) E dX9_fixCodes_62 (by decide) ?_
  refine zj_icmp_ge (tgt := 84) E dX9_fixCodes_64 (by decide) h (fun h => ?_) (fun h => ?_)
  · have e9 := Option.some.inj h
    subst e9
    refine zj_lv [0] rfl ?_
    exact K
  · refine zj_aload_n E dX9_fixCodes_67 rfl 0 rfl ?_
    refine zs_getR E zc8 6 (by decide) zw_4_7 rfl dX9_fixCodes_68 h (fun a2 h => ?_)
    refine zj_sipush (v := 288) E dX9_fixCodes_71 (by decide) ?_
    refine zj_iload_n E dX9_fixCodes_74 rfl 1 rfl ?_
    refine zj_iadd E dX9_fixCodes_75 ?_
    refine zj_iconst (v := 5) E dX9_fixCodes_76 (by decide) ?_
    refine zs_iast E dX9_fixCodes_77 h (fun σ3 h => ?_)
    refine zs_iinc (lv2 := fun v2 => [(1, .int v2), (0, .ref l0)]) E dX9_fixCodes_78 1 rfl (by decide) (by decide) (fun _ => rfl) h (fun v2 h => ?_)
    refine zj_goto (tgt := 61) E dX9_fixCodes_81 (by decide) ?_
    have e9 := Option.some.inj h
    subst e9
    refine zj_lv [1, 0] rfl ?_
    exact K
def fX9_fixCodes (σ : zS) (p0 : Nat) : Option zS := oB (zloop zF (fun x => bX9_fixCodes_2 p0 x.1 x.2) (0, σ)) (fun b1 => (fun σ2 => oB (zloop zF (fun x => bX9_fixCodes_61 p0 x.1 x.2) (0, σ2)) (fun b2 => (fun σ4 => oGR σ4 9 p0 4 (fun a3 => oGR σ4 9 p0 6 (fun a4 => oA (zk σ4 a3 = 3) (oC (fX2_build σ4 a3 a4 0 288) (fun x1 σ5 => oGR σ5 9 p0 5 (fun a5 => oGR σ5 9 p0 6 (fun a6 => oA (zk σ5 a5 = 3) (oC (fX2_build σ5 a5 a6 288 32) (fun x2 σ6 => some σ6))))))))) b2)) b1)
set_option maxRecDepth 100000 in
theorem wX9_fixCodes {Γ : zG} (E : zE Γ cX9_fixCodes RX9 2 { frames := 2, cells := 0, slots := 0, locals := 49 }) (σ : zS) (p0 : Nat) {R : zS} (h : fX9_fixCodes σ p0 = some R) (K : zRet Γ cX9_fixCodes 2 0 0 (none) R) : zJ Γ 2 0 0 σ 0 [(0, .ref p0)] [] := by
  unfold fX9_fixCodes at h
  refine zj_iconst (v := 0) E dX9_fixCodes_0 (by decide) ?_
  refine zj_istore_n (lv2 := [(1, .int 0), (0, .ref p0)]) E dX9_fixCodes_1 rfl (by decide) rfl ?_
  obtain ⟨b1, hb1, h⟩ := oB_some h
  refine zj_lv [1, 0] rfl ?_
  refine zj_loop (wX9_fixCodes_L2 E p0) zF (0, σ) b1 hb1 ?_
  obtain ⟨σ2, rfl⟩ : ∃ z, z = b1 := ⟨_, rfl⟩
  try dsimp only at h
  show zJ Γ 2 0 0 σ2 59 [(0, .ref p0)] []
  refine zj_iconst (v := 0) E dX9_fixCodes_59 (by decide) ?_
  refine zj_istore_n (lv2 := [(1, .int 0), (0, .ref p0)]) E dX9_fixCodes_60 rfl (by decide) rfl ?_
  obtain ⟨b2, hb2, h⟩ := oB_some h
  refine zj_lv [1, 0] rfl ?_
  refine zj_loop (wX9_fixCodes_L61 E p0) zF (0, σ2) b2 hb2 ?_
  obtain ⟨σ4, rfl⟩ : ∃ z, z = b2 := ⟨_, rfl⟩
  try dsimp only at h
  show zJ Γ 2 0 0 σ4 84 [(0, .ref p0)] []
  refine zj_aload_n E dX9_fixCodes_84 rfl 0 rfl ?_
  refine zs_getR E zc8 4 (by decide) zw_4_5 rfl dX9_fixCodes_85 h (fun a3 h => ?_)
  refine zj_aload_n E dX9_fixCodes_88 rfl 0 rfl ?_
  refine zs_getR E zc8 6 (by decide) zw_4_7 rfl dX9_fixCodes_89 h (fun a4 h => ?_)
  refine zj_iconst (v := 0) E dX9_fixCodes_92 (by decide) ?_
  refine zj_sipush (v := 288) E dX9_fixCodes_93 (by decide) ?_
  obtain ⟨hk, h⟩ := oA_some h
  obtain ⟨x1, σ5, hc, h⟩ := oC_some h
  refine zs_callV (As := [.ref a4, .int 0, .int 288]) (rest := []) E zc2 zyX2_build zw_11_9 (kX2_build _ _ _ _ _ hc) rfl rfl hk rfl ⟨by decide, by decide⟩ ⟨by decide, by decide⟩ (Nat.le_of_ble_eq_true rfl) dX9_fixCodes_96 rfl (show zJ Γ 2 0 0 σ5 99 [(0, .ref p0)] [.int x1] from ?_)
  refine zj_pop E dX9_fixCodes_99 rfl ?_
  refine zj_aload_n E dX9_fixCodes_100 rfl 0 rfl ?_
  refine zs_getR E zc8 5 (by decide) zw_4_6 rfl dX9_fixCodes_101 h (fun a5 h => ?_)
  refine zj_aload_n E dX9_fixCodes_104 rfl 0 rfl ?_
  refine zs_getR E zc8 6 (by decide) zw_4_7 rfl dX9_fixCodes_105 h (fun a6 h => ?_)
  refine zj_sipush (v := 288) E dX9_fixCodes_108 (by decide) ?_
  refine zj_bipush (v := 32) E dX9_fixCodes_111 (by decide) ?_
  obtain ⟨hk, h⟩ := oA_some h
  obtain ⟨x2, σ6, hc, h⟩ := oC_some h
  refine zs_callV (As := [.ref a6, .int 288, .int 32]) (rest := []) E zc2 zyX2_build zw_11_9 (kX2_build _ _ _ _ _ hc) rfl rfl hk rfl ⟨by decide, by decide⟩ ⟨by decide, by decide⟩ (Nat.le_of_ble_eq_true rfl) dX9_fixCodes_113 rfl (show zJ Γ 2 0 0 σ6 116 [(0, .ref p0)] [.int x2] from ?_)
  refine zj_pop E dX9_fixCodes_116 rfl ?_
  have e9 := Option.some.inj h
  subst e9
  exact (show zRet Γ cX9_fixCodes 2 0 0 (none) σ6 from K) _ _ dX9_fixCodes_117
set_option maxRecDepth 100000 in
theorem kX9_fixCodes (l : Launch) (D : va_G) (cs : zCs) (z0 : Nat) (σ : zS) {p0 : Nat}  {σ' : zS} (h : fX9_fixCodes σ p0 = some σ') : zM l D cs z0 yX9_fixCodes cX9_fixCodes 2 none { frames := 2, cells := 0, slots := 0, locals := 49 } [.ref p0] σ none σ' 0 0 := by
  exact zM_of (by decide) rfl rfl (Nat.le_of_ble_eq_true rfl) rfl (fun Γ e1 e2 e3 e4 E hN K => wX9_fixCodes E σ _ h K)
/-! X9_takeTellers -/
def jX9_takeTellers_76 (Γ : zG) (l0 : Nat) (l2 : Int32) : (Int32 × zS) → Prop := fun x => zJ Γ 5 0 0 x.2 76 [(0, .ref l0), (2, .int l2), (3, .int x.1)] []
def eX9_takeTellers_76 (Γ : zG) (l0 : Nat) (l2 : Int32) : (zS ⊕ (Int32 × zS)) → Prop := Sum.elim (fun b => zJ Γ 5 0 0 b 116 [(0, .ref l0)] []) (fun r => zRet Γ cX9_takeTellers 5 0 0 (some (.int r.1)) r.2)
def bX9_takeTellers_76 (l0 : Nat) (l2 : Int32) (l3 : Int32) (σ : zS) : Option ((Int32 × zS) ⊕ (zS ⊕ (Int32 × zS))) := (if l2 ≤ l3 then some (.inr (.inl σ)) else oGR σ 9 l0 2 (fun a3 => oA (zk σ a3 = 1) (oC (fX0_take σ a3 3) (fun x4 σ5 => (if 0 ≤ x4 then oGR σ5 9 l0 6 (fun a4 => oLt zt0 l3 (fun x5 => oSt σ5 21 a4 x5 x4 (fun σ6 => oL (l3 + 1) (fun v2 => some (.inl (v2, σ6)))))) else some (.inr (.inr (0, σ5))))))))
set_option maxRecDepth 100000 in
theorem wX9_takeTellers_L76 {Γ : zG} (E : zE Γ cX9_takeTellers RX9 5 { frames := 2, cells := 0, slots := 0, locals := 49 }) (l0 : Nat) (l2 : Int32) : ∀ x R, (fun x => bX9_takeTellers_76 l0 l2 x.1 x.2) x = some R → Sum.elim (jX9_takeTellers_76 Γ l0 l2) (eX9_takeTellers_76 Γ l0 l2) R → jX9_takeTellers_76 Γ l0 l2 x := by
  intro x R h K
  obtain ⟨l3, σ⟩ := x
  have h : bX9_takeTellers_76 l0 l2 l3 σ = some R := h
  show zJ Γ 5 0 0 σ 76 [(0, .ref l0), (2, .int l2), (3, .int l3)] []
  unfold bX9_takeTellers_76 at h
  refine zj_iload_n E dX9_takeTellers_76 rfl 2 rfl ?_
  refine zj_iload_n E dX9_takeTellers_77 rfl 1 rfl ?_
  refine zj_icmp_ge (tgt := 116) E dX9_takeTellers_78 (by decide) h (fun h => ?_) (fun h => ?_)
  · have e9 := Option.some.inj h
    subst e9
    refine zj_lv [0] rfl ?_
    exact K
  · refine zj_aload_n E dX9_takeTellers_81 rfl 0 rfl ?_
    refine zs_getR E zc8 2 (by decide) zw_4_0 rfl dX9_takeTellers_82 h (fun a3 h => ?_)
    refine zj_iconst (v := 3) E dX9_takeTellers_85 (by decide) ?_
    obtain ⟨hk, h⟩ := oA_some h
    obtain ⟨x4, σ5, hc, h⟩ := oC_some h
    refine zs_callV (As := [.int 3]) (rest := []) E zc0 zyX0_take zw_10_5 (kX0_take _ _ _ _ _ hc) rfl rfl hk rfl ⟨by decide, by decide⟩ ⟨by decide, by decide⟩ (Nat.le_of_ble_eq_true rfl) dX9_takeTellers_86 rfl (show zJ Γ 5 0 0 σ5 89 [(0, .ref l0), (2, .int l2), (3, .int l3)] [.int x4] from ?_)
    refine zj_istore (lv2 := [(4, .int x4), (0, .ref l0), (2, .int l2), (3, .int l3)]) E dX9_takeTellers_89 (by decide) rfl ?_
    refine zj_iload E dX9_takeTellers_91 0 rfl ?_
    refine zj_if_ge (tgt := 98) E dX9_takeTellers_93 (by decide) h (fun h => ?_) (fun h => ?_)
    · refine zj_aload_n E dX9_takeTellers_98 rfl 1 rfl ?_
      refine zs_getR E zc8 6 (by decide) zw_4_7 rfl dX9_takeTellers_99 h (fun a4 h => ?_)
      refine zs_tab (nm := "TELLER_ORDER") (l := zt0) E (by decide) zw_12_0 dX9_takeTellers_102 (fun t1 ht1 => ?_)
      refine zj_iload_n E dX9_takeTellers_105 rfl 3 rfl ?_
      refine zs_tld E ht1 dX9_takeTellers_106 h (fun x5 h => ?_)
      refine zj_iload E dX9_takeTellers_107 0 rfl ?_
      refine zs_iast E dX9_takeTellers_109 h (fun σ6 h => ?_)
      refine zs_iinc (lv2 := fun v2 => [(3, .int v2), (4, .int x4), (0, .ref l0), (2, .int l2)]) E dX9_takeTellers_110 3 rfl (by decide) (by decide) (fun _ => rfl) h (fun v2 h => ?_)
      refine zj_goto (tgt := 76) E dX9_takeTellers_113 (by decide) ?_
      have e9 := Option.some.inj h
      subst e9
      refine zj_lv [2, 3, 0] rfl ?_
      exact K
    · refine zj_iconst (v := 0) E dX9_takeTellers_96 (by decide) ?_
      have e9 := Option.some.inj h
      subst e9
      exact (show zRet Γ cX9_takeTellers 5 0 0 (some (.int 0)) σ5 from K) _ _ dX9_takeTellers_97
def gX9_takeTellers (σ : zS) (p0 : Nat) : Option (Int32 × zS) := oGR σ 9 p0 2 (fun a1 => oA (zk σ a1 = 1) (oC (fX0_take σ a1 14) (fun x1 σ1 => oPI σ1 9 p0 7 ((x1 &&& (31 : Int32)) + (257 : Int32)) (fun σ2 => oPI σ2 9 p0 8 (((x1 >>> ((5 : Int32) &&& 31)) &&& (31 : Int32)) + (1 : Int32)) (fun σ3 => (if x1 < 0 then some (0, σ3) else oGI σ3 9 p0 7 (fun x2 => (if (286 : Int32) < x2 then some (0, σ3) else oGI σ3 9 p0 8 (fun x3 => (if x3 ≤ (30 : Int32) then oL ((x1 >>> ((10 : Int32) &&& 31)) + (4 : Int32)) (fun v1 => oGR σ3 9 p0 6 (fun a2 => oB (fJ7_fill_53178 σ3 a2 0) (fun σ4 => oB (zloop zF (fun x => bX9_takeTellers_76 p0 v1 x.1 x.2) (0, σ4)) (fun b1 => oS b1 (fun c1 => (fun σ7 => oGR σ7 9 p0 3 (fun a5 => oGR σ7 9 p0 6 (fun a6 => oA (zk σ7 a5 = 3) (oC (fX2_build σ7 a5 a6 0 19) (fun x6 σ8 => (if x6 = 0 then some (1, σ8) else some (0, σ8))))))) c1) (fun r1 => some r1))))) else some (0, σ3)))))))))))
def fX9_takeTellers (σ : zS) (p0 : Nat) : Option (Int32 × zS) := oC (gX9_takeTellers σ p0) (fun r s => oA (r = 0 ∨ r = 1) (some (r, s)))
set_option maxRecDepth 100000 in
theorem wX9_takeTellers {Γ : zG} (E : zE Γ cX9_takeTellers RX9 5 { frames := 2, cells := 0, slots := 0, locals := 49 }) (σ : zS) (p0 : Nat) {R : (Int32 × zS)} (h : gX9_takeTellers σ p0 = some R) (K : zRet Γ cX9_takeTellers 5 0 0 (some (.int R.1)) R.2) : zJ Γ 5 0 0 σ 0 [(0, .ref p0)] [] := by
  unfold gX9_takeTellers at h
  refine zj_aload_n E dX9_takeTellers_0 rfl 0 rfl ?_
  refine zs_getR E zc8 2 (by decide) zw_4_0 rfl dX9_takeTellers_1 h (fun a1 h => ?_)
  refine zj_bipush (v := 14) E dX9_takeTellers_4 (by decide) ?_
  obtain ⟨hk, h⟩ := oA_some h
  obtain ⟨x1, σ1, hc, h⟩ := oC_some h
  refine zs_callV (As := [.int 14]) (rest := []) E zc0 zyX0_take zw_10_5 (kX0_take _ _ _ _ _ hc) rfl rfl hk rfl ⟨by decide, by decide⟩ ⟨by decide, by decide⟩ (Nat.le_of_ble_eq_true rfl) dX9_takeTellers_6 rfl (show zJ Γ 5 0 0 σ1 9 [(0, .ref p0)] [.int x1] from ?_)
  refine zj_istore_n (lv2 := [(1, .int x1), (0, .ref p0)]) E dX9_takeTellers_9 rfl (by decide) rfl ?_
  refine zj_aload_n E dX9_takeTellers_10 rfl 1 rfl ?_
  refine zj_iload_n E dX9_takeTellers_11 rfl 0 rfl ?_
  refine zj_bipush (v := 31) E dX9_takeTellers_12 (by decide) ?_
  refine zj_iand E dX9_takeTellers_14 ?_
  refine zj_sipush (v := 257) E dX9_takeTellers_15 (by decide) ?_
  refine zj_iadd E dX9_takeTellers_18 ?_
  refine zs_putI E zc8 7 (by decide) zw_11_22 rfl rfl dX9_takeTellers_19 h (fun σ2 h => ?_)
  refine zj_aload_n E dX9_takeTellers_22 rfl 1 rfl ?_
  refine zj_iload_n E dX9_takeTellers_23 rfl 0 rfl ?_
  refine zj_iconst (v := 5) E dX9_takeTellers_24 (by decide) ?_
  refine zj_ishr E dX9_takeTellers_25 ?_
  refine zj_bipush (v := 31) E dX9_takeTellers_26 (by decide) ?_
  refine zj_iand E dX9_takeTellers_28 ?_
  refine zj_iconst (v := 1) E dX9_takeTellers_29 (by decide) ?_
  refine zj_iadd E dX9_takeTellers_30 ?_
  refine zs_putI E zc8 8 (by decide) zw_11_23 rfl rfl dX9_takeTellers_31 h (fun σ3 h => ?_)
  refine zj_iload_n E dX9_takeTellers_34 rfl 0 rfl ?_
  refine zj_if_lt (tgt := 57) E dX9_takeTellers_35 (by decide) h (fun h => ?_) (fun h => ?_)
  · refine zj_iconst (v := 0) E dX9_takeTellers_57 (by decide) ?_
    have e9 := Option.some.inj h
    subst e9
    exact (show zRet Γ cX9_takeTellers 5 0 0 (some (.int 0)) σ3 from K) _ _ dX9_takeTellers_58
  · refine zj_aload_n E dX9_takeTellers_38 rfl 1 rfl ?_
    refine zs_getI E zc8 7 (by decide) zw_11_22 rfl dX9_takeTellers_39 h (fun x2 h => ?_)
    refine zj_sipush (v := 286) E dX9_takeTellers_42 (by decide) ?_
    refine zj_icmp_gt (tgt := 57) E dX9_takeTellers_45 (by decide) h (fun h => ?_) (fun h => ?_)
    · refine zj_iconst (v := 0) E dX9_takeTellers_57 (by decide) ?_
      have e9 := Option.some.inj h
      subst e9
      exact (show zRet Γ cX9_takeTellers 5 0 0 (some (.int 0)) σ3 from K) _ _ dX9_takeTellers_58
    · refine zj_aload_n E dX9_takeTellers_48 rfl 1 rfl ?_
      refine zs_getI E zc8 8 (by decide) zw_11_23 rfl dX9_takeTellers_49 h (fun x3 h => ?_)
      refine zj_bipush (v := 30) E dX9_takeTellers_52 (by decide) ?_
      refine zj_icmp_le (tgt := 59) E dX9_takeTellers_54 (by decide) h (fun h => ?_) (fun h => ?_)
      · refine zj_iload_n E dX9_takeTellers_59 rfl 0 rfl ?_
        refine zj_bipush (v := 10) E dX9_takeTellers_60 (by decide) ?_
        refine zj_ishr E dX9_takeTellers_62 ?_
        refine zj_iconst (v := 4) E dX9_takeTellers_63 (by decide) ?_
        refine zj_iadd E dX9_takeTellers_64 ?_
        refine zs_istore_n (lv2 := fun v1 => [(2, .int v1), (1, .int x1), (0, .ref p0)]) E dX9_takeTellers_65 rfl (by decide) (fun _ => rfl) h (fun v1 h => ?_)
        refine zj_aload_n E dX9_takeTellers_66 rfl 2 rfl ?_
        refine zs_getR E zc8 6 (by decide) zw_4_7 rfl dX9_takeTellers_67 h (fun a2 h => ?_)
        refine zj_iconst (v := 0) E dX9_takeTellers_70 (by decide) ?_
        obtain ⟨σ4, hc, h⟩ := oB_some h
        refine zs_callS (As := [.ref a2, .int 0]) (rest := []) E zyJ7_fill_53178 zw_12_1 (kJ7_fill_53178 _ _ _ _ _ hc) rfl rfl rfl ⟨by decide, by decide⟩ ⟨by decide, by decide⟩ (Nat.le_of_ble_eq_true rfl) dX9_takeTellers_71 rfl (show zJ Γ 5 0 0 σ4 74 [(2, .int v1), (1, .int x1), (0, .ref p0)] [] from ?_)
        refine zj_iconst (v := 0) E dX9_takeTellers_74 (by decide) ?_
        refine zj_istore_n (lv2 := [(3, .int 0), (2, .int v1), (1, .int x1), (0, .ref p0)]) E dX9_takeTellers_75 rfl (by decide) rfl ?_
        obtain ⟨b1, hb1, h⟩ := oB_some h
        refine zj_lv [3, 1, 0] rfl ?_
        refine zj_loop (wX9_takeTellers_L76 E p0 v1) zF (0, σ4) b1 hb1 ?_
        cases b1 with
        | inr r1 =>
          have e9 := Option.some.inj h
          subst e9
          exact K
        | inl c1 =>
          obtain ⟨σ7, rfl⟩ : ∃ z, z = c1 := ⟨_, rfl⟩
          dsimp only [oS] at h
          show zJ Γ 5 0 0 σ7 116 [(0, .ref p0)] []
          refine zj_aload_n E dX9_takeTellers_116 rfl 0 rfl ?_
          refine zs_getR E zc8 3 (by decide) zw_4_4 rfl dX9_takeTellers_117 h (fun a5 h => ?_)
          refine zj_aload_n E dX9_takeTellers_120 rfl 0 rfl ?_
          refine zs_getR E zc8 6 (by decide) zw_4_7 rfl dX9_takeTellers_121 h (fun a6 h => ?_)
          refine zj_iconst (v := 0) E dX9_takeTellers_124 (by decide) ?_
          refine zs_tab (nm := "TELLER_ORDER") (l := zt0) E (by decide) zw_12_0 dX9_takeTellers_125 (fun t2 ht2 => ?_)
          refine zs_tln (v := 19) E ht2 (by decide) dX9_takeTellers_128 ?_
          obtain ⟨hk, h⟩ := oA_some h
          obtain ⟨x6, σ8, hc, h⟩ := oC_some h
          refine zs_callV (As := [.ref a6, .int 0, .int 19]) (rest := []) E zc2 zyX2_build zw_11_9 (kX2_build _ _ _ _ _ hc) rfl rfl hk rfl ⟨by decide, by decide⟩ ⟨by decide, by decide⟩ (Nat.le_of_ble_eq_true rfl) dX9_takeTellers_129 rfl (show zJ Γ 5 0 0 σ8 132 [(0, .ref p0)] [.int x6] from ?_)
          refine zj_if_ne (tgt := 139) E dX9_takeTellers_132 (by decide) h (fun h => ?_) (fun h => ?_)
          · refine zj_iconst (v := 0) E dX9_takeTellers_139 (by decide) ?_
            have e9 := Option.some.inj h
            subst e9
            exact (show zRet Γ cX9_takeTellers 5 0 0 (some (.int 0)) σ8 from K) _ _ dX9_takeTellers_140
          · refine zj_iconst (v := 1) E dX9_takeTellers_135 (by decide) ?_
            refine zj_goto (tgt := 140) E dX9_takeTellers_136 (by decide) ?_
            have e9 := Option.some.inj h
            subst e9
            exact (show zRet Γ cX9_takeTellers 5 0 0 (some (.int 1)) σ8 from K) _ _ dX9_takeTellers_140
      · refine zj_iconst (v := 0) E dX9_takeTellers_57 (by decide) ?_
        have e9 := Option.some.inj h
        subst e9
        exact (show zRet Γ cX9_takeTellers 5 0 0 (some (.int 0)) σ3 from K) _ _ dX9_takeTellers_58
set_option maxRecDepth 100000 in
theorem kX9_takeTellers (l : Launch) (D : va_G) (cs : zCs) (z0 : Nat) (σ : zS) {p0 : Nat} {r : Int32} {σ' : zS} (h : fX9_takeTellers σ p0 = some (r, σ')) : zM l D cs z0 yX9_takeTellers cX9_takeTellers 5 (some .boolean) { frames := 2, cells := 0, slots := 0, locals := 49 } [.ref p0] σ (some (.int r)) σ' 0 0 := by
  obtain ⟨r0, s0, h0, h⟩ := oC_some h
  obtain ⟨hz, h⟩ := oA_some h
  cases h
  exact zM_of (by decide) rfl (Or.inr ⟨rfl, hz⟩) (Nat.le_of_ble_eq_true rfl) rfl (fun Γ e1 e2 e3 e4 E hN K => wX9_takeTellers E σ _ h0 K)
/-! X9_takeLengths -/
def jX9_takeLengths_14 (Γ : zG) (l0 : Nat) (l1 : Int32) : (Int32 × Int32 × zS) → Prop := fun x => zJ Γ 10 0 0 x.2.2 14 [(0, .ref l0), (1, .int l1), (2, .int x.1), (3, .int x.2.1)] []
def eX9_takeLengths_14 (Γ : zG) (l0 : Nat) (l1 : Int32) : (zS ⊕ (Int32 × zS)) → Prop := Sum.elim (fun b => zJ Γ 10 0 0 b 180 [] []) (fun r => zRet Γ cX9_takeLengths 10 0 0 (some (.int r.1)) r.2)
def jX9_takeLengths_150 (Γ : zG) (l0 : Nat) (l1 : Int32) (l3 : Int32) (l7 : Int32) (l8 : Int32) : (Int32 × Int32 × zS) → Prop := fun x => zJ Γ 10 0 0 x.2.2 150 [(0, .ref l0), (1, .int l1), (3, .int l3), (7, .int l7), (8, .int l8), (2, .int x.1), (9, .int x.2.1)] []
def eX9_takeLengths_150 (Γ : zG) (l0 : Nat) (l1 : Int32) (l3 : Int32) (l7 : Int32) (l8 : Int32) : (Int32 × zS) → Prop := fun b => zJ Γ 10 0 0 b.2 174 [(0, .ref l0), (1, .int l1), (3, .int l3), (2, .int b.1)] []
def bX9_takeLengths_150 (l0 : Nat) (l1 : Int32) (l3 : Int32) (l7 : Int32) (l8 : Int32) (l2 : Int32) (l9 : Int32) (σ : zS) : Option ((Int32 × Int32 × zS) ⊕ (Int32 × zS)) := (if l7 ≤ l9 then some (.inr (l2, σ)) else oGR σ 9 l0 6 (fun a4 => oSt σ 21 a4 l2 l8 (fun σ3 => oL (l2 + 1) (fun v3 => oL (l9 + 1) (fun v4 => some (.inl (v3, v4, σ3)))))))
set_option maxRecDepth 100000 in
theorem wX9_takeLengths_L150 {Γ : zG} (E : zE Γ cX9_takeLengths RX9 10 { frames := 1, cells := 0, slots := 0, locals := 27 }) (l0 : Nat) (l1 : Int32) (l3 : Int32) (l7 : Int32) (l8 : Int32) : ∀ x R, (fun x => bX9_takeLengths_150 l0 l1 l3 l7 l8 x.1 x.2.1 x.2.2) x = some R → Sum.elim (jX9_takeLengths_150 Γ l0 l1 l3 l7 l8) (eX9_takeLengths_150 Γ l0 l1 l3 l7 l8) R → jX9_takeLengths_150 Γ l0 l1 l3 l7 l8 x := by
  intro x R h K
  obtain ⟨l2, l9, σ⟩ := x
  have h : bX9_takeLengths_150 l0 l1 l3 l7 l8 l2 l9 σ = some R := h
  show zJ Γ 10 0 0 σ 150 [(0, .ref l0), (1, .int l1), (3, .int l3), (7, .int l7), (8, .int l8), (2, .int l2), (9, .int l9)] []
  unfold bX9_takeLengths_150 at h
  refine zj_iload E dX9_takeLengths_150 6 rfl ?_
  refine zj_iload E dX9_takeLengths_152 3 rfl ?_
  refine zj_icmp_ge (tgt := 174) E dX9_takeLengths_154 (by decide) h (fun h => ?_) (fun h => ?_)
  · have e9 := Option.some.inj h
    subst e9
    refine zj_lv [0, 1, 2, 5] rfl ?_
    exact K
  · refine zj_aload_n E dX9_takeLengths_157 rfl 0 rfl ?_
    refine zs_getR E zc8 6 (by decide) zw_4_7 rfl dX9_takeLengths_158 h (fun a4 h => ?_)
    refine zj_iload_n E dX9_takeLengths_161 rfl 5 rfl ?_
    refine zj_iload E dX9_takeLengths_162 4 rfl ?_
    refine zs_iast E dX9_takeLengths_164 h (fun σ3 h => ?_)
    refine zs_iinc (lv2 := fun v3 => [(2, .int v3), (0, .ref l0), (1, .int l1), (3, .int l3), (7, .int l7), (8, .int l8), (9, .int l9)]) E dX9_takeLengths_165 5 rfl (by decide) (by decide) (fun _ => rfl) h (fun v3 h => ?_)
    refine zs_iinc (lv2 := fun v4 => [(9, .int v4), (2, .int v3), (0, .ref l0), (1, .int l1), (3, .int l3), (7, .int l7), (8, .int l8)]) E dX9_takeLengths_168 6 rfl (by decide) (by decide) (fun _ => rfl) h (fun v4 h => ?_)
    refine zj_goto (tgt := 150) E dX9_takeLengths_171 (by decide) ?_
    have e9 := Option.some.inj h
    subst e9
    refine zj_lv [2, 3, 4, 5, 6, 1, 0] rfl ?_
    exact K
def fX9_takeLengths_145 (σ : zS) (l0 : Nat) (l1 : Int32) (l2 : Int32) (l3 : Int32) (l7 : Int32) (s0 : Int32) : Option ((Int32 × Int32 × zS) ⊕ (zS ⊕ (Int32 × zS))) := oB (zloop zF (fun x => bX9_takeLengths_150 l0 l1 l3 l7 s0 x.1 x.2.1 x.2.2) (l2, 0, σ)) (fun b1 => (fun v5 σ4 => oL (l3 + 1) (fun v6 => some (.inl (v5, v6, σ4)))) b1.1 b1.2)
set_option maxRecDepth 100000 in
theorem wX9_takeLengths_145 {Γ : zG} (E : zE Γ cX9_takeLengths RX9 10 { frames := 1, cells := 0, slots := 0, locals := 27 }) (σ : zS) (l0 : Nat) (l1 : Int32) (l2 : Int32) (l3 : Int32) (l7 : Int32) (s0 : Int32) {R : ((Int32 × Int32 × zS) ⊕ (zS ⊕ (Int32 × zS)))} (h : fX9_takeLengths_145 σ l0 l1 l2 l3 l7 s0 = some R) (K : Sum.elim (jX9_takeLengths_14 Γ l0 l1) (eX9_takeLengths_14 Γ l0 l1) R) : zJ Γ 10 0 0 σ 145 [(0, .ref l0), (1, .int l1), (2, .int l2), (3, .int l3), (7, .int l7)] [.int s0] := by
  unfold fX9_takeLengths_145 at h
  refine zj_istore (lv2 := [(8, .int s0), (0, .ref l0), (1, .int l1), (2, .int l2), (3, .int l3), (7, .int l7)]) E dX9_takeLengths_145 (by decide) rfl ?_
  refine zj_iconst (v := 0) E dX9_takeLengths_147 (by decide) ?_
  refine zj_istore (lv2 := [(9, .int 0), (8, .int s0), (0, .ref l0), (1, .int l1), (2, .int l2), (3, .int l3), (7, .int l7)]) E dX9_takeLengths_148 (by decide) rfl ?_
  obtain ⟨b1, hb1, h⟩ := oB_some h
  refine zj_lv [2, 3, 5, 6, 1, 4, 0] rfl ?_
  refine zj_loop (wX9_takeLengths_L150 E l0 l1 l3 l7 s0) zF (l2, 0, σ) b1 hb1 ?_
  obtain ⟨v5, σ4⟩ := b1
  try dsimp only at h
  show zJ Γ 10 0 0 σ4 174 [(0, .ref l0), (1, .int l1), (3, .int l3), (2, .int v5)] []
  refine zs_iinc (lv2 := fun v6 => [(3, .int v6), (0, .ref l0), (1, .int l1), (2, .int v5)]) E dX9_takeLengths_174 2 rfl (by decide) (by decide) (fun _ => rfl) h (fun v6 h => ?_)
  refine zj_goto (tgt := 14) E dX9_takeLengths_177 (by decide) ?_
  have e9 := Option.some.inj h
  subst e9
  refine zj_lv [1, 2, 3, 0] rfl ?_
  exact K
def fX9_takeLengths_71 (σ : zS) (l0 : Nat) (l1 : Int32) (l2 : Int32) (l3 : Int32) (l4 : Int32) (s0 : Int32) : Option ((Int32 × Int32 × zS) ⊕ (zS ⊕ (Int32 × zS))) := oGR σ 9 l0 2 (fun a3 => oLt zt2 s0 (fun x4 => oA (zk σ a3 = 1) (oC (fX0_take σ a3 x4) (fun x5 σ2 => oLt zt1 s0 (fun x6 => oL (x6 + x5) (fun v2 => (if x5 < 0 then some (.inr (.inr (0, σ2))) else (if v2 ≤ (l1 - l2) then (if (16 : Int32) ≤ l4 then (if l4 = (16 : Int32) then oGR σ2 9 l0 6 (fun a5 => oLd σ2 21 a5 (l2 - (1 : Int32)) (fun x7 => fX9_takeLengths_145 σ2 l0 l1 l2 l3 v2 x7)) else fX9_takeLengths_145 σ2 l0 l1 l2 l3 v2 0) else fX9_takeLengths_145 σ2 l0 l1 l2 l3 v2 l4) else some (.inr (.inr (0, σ2)))))))))))
set_option maxRecDepth 100000 in
theorem wX9_takeLengths_71 {Γ : zG} (E : zE Γ cX9_takeLengths RX9 10 { frames := 1, cells := 0, slots := 0, locals := 27 }) (σ : zS) (l0 : Nat) (l1 : Int32) (l2 : Int32) (l3 : Int32) (l4 : Int32) (s0 : Int32) {R : ((Int32 × Int32 × zS) ⊕ (zS ⊕ (Int32 × zS)))} (h : fX9_takeLengths_71 σ l0 l1 l2 l3 l4 s0 = some R) (K : Sum.elim (jX9_takeLengths_14 Γ l0 l1) (eX9_takeLengths_14 Γ l0 l1) R) : zJ Γ 10 0 0 σ 71 [(0, .ref l0), (1, .int l1), (2, .int l2), (3, .int l3), (4, .int l4)] [.int s0] := by
  unfold fX9_takeLengths_71 at h
  refine zj_istore (lv2 := [(5, .int s0), (0, .ref l0), (1, .int l1), (2, .int l2), (3, .int l3), (4, .int l4)]) E dX9_takeLengths_71 (by decide) rfl ?_
  refine zj_aload_n E dX9_takeLengths_73 rfl 1 rfl ?_
  refine zs_getR E zc8 2 (by decide) zw_4_0 rfl dX9_takeLengths_74 h (fun a3 h => ?_)
  refine zs_tab (nm := "REPEAT_BITS") (l := zt2) E (by decide) zw_12_6 dX9_takeLengths_77 (fun t1 ht1 => ?_)
  refine zj_iload E dX9_takeLengths_80 0 rfl ?_
  refine zs_tld E ht1 dX9_takeLengths_82 h (fun x4 h => ?_)
  obtain ⟨hk, h⟩ := oA_some h
  obtain ⟨x5, σ2, hc, h⟩ := oC_some h
  refine zs_callV (As := [.int x4]) (rest := []) E zc0 zyX0_take zw_10_5 (kX0_take _ _ _ _ _ hc) rfl rfl hk rfl ⟨by decide, by decide⟩ ⟨by decide, by decide⟩ (Nat.le_of_ble_eq_true rfl) dX9_takeLengths_83 rfl (show zJ Γ 10 0 0 σ2 86 [(5, .int s0), (0, .ref l0), (1, .int l1), (2, .int l2), (3, .int l3), (4, .int l4)] [.int x5] from ?_)
  refine zj_istore (lv2 := [(6, .int x5), (5, .int s0), (0, .ref l0), (1, .int l1), (2, .int l2), (3, .int l3), (4, .int l4)]) E dX9_takeLengths_86 (by decide) rfl ?_
  refine zs_tab (nm := "REPEAT_BASES") (l := zt1) E (by decide) zw_12_7 dX9_takeLengths_88 (fun t2 ht2 => ?_)
  refine zj_iload E dX9_takeLengths_91 1 rfl ?_
  refine zs_tld E ht2 dX9_takeLengths_93 h (fun x6 h => ?_)
  refine zj_iload E dX9_takeLengths_94 0 rfl ?_
  refine zj_iadd E dX9_takeLengths_96 ?_
  refine zs_istore (lv2 := fun v2 => [(7, .int v2), (6, .int x5), (5, .int s0), (0, .ref l0), (1, .int l1), (2, .int l2), (3, .int l3), (4, .int l4)]) E dX9_takeLengths_97 (by decide) (fun _ => rfl) h (fun v2 h => ?_)
  refine zj_iload E dX9_takeLengths_99 1 rfl ?_
  refine zj_if_lt (tgt := 112) E dX9_takeLengths_101 (by decide) h (fun h => ?_) (fun h => ?_)
  · refine zj_iconst (v := 0) E dX9_takeLengths_112 (by decide) ?_
    have e9 := Option.some.inj h
    subst e9
    exact (show zRet Γ cX9_takeLengths 10 0 0 (some (.int 0)) σ2 from K) _ _ dX9_takeLengths_113
  · refine zj_iload E dX9_takeLengths_104 0 rfl ?_
    refine zj_iload_n E dX9_takeLengths_106 rfl 4 rfl ?_
    refine zj_iload_n E dX9_takeLengths_107 rfl 5 rfl ?_
    refine zj_isub E dX9_takeLengths_108 ?_
    refine zj_icmp_le (tgt := 114) E dX9_takeLengths_109 (by decide) h (fun h => ?_) (fun h => ?_)
    · refine zj_iload E dX9_takeLengths_114 7 rfl ?_
      refine zj_bipush (v := 16) E dX9_takeLengths_116 (by decide) ?_
      refine zj_icmp_ge (tgt := 126) E dX9_takeLengths_118 (by decide) h (fun h => ?_) (fun h => ?_)
      · refine zj_iload E dX9_takeLengths_126 7 rfl ?_
        refine zj_bipush (v := 16) E dX9_takeLengths_128 (by decide) ?_
        refine zj_icmp_ne (tgt := 144) E dX9_takeLengths_130 (by decide) h (fun h => ?_) (fun h => ?_)
        · refine zj_iconst (v := 0) E dX9_takeLengths_144 (by decide) ?_
          refine zj_lv [3, 4, 5, 6, 0] rfl ?_
          exact wX9_takeLengths_145 E _ _ _ _ _ _ _ h K
        · refine zj_aload_n E dX9_takeLengths_133 rfl 3 rfl ?_
          refine zs_getR E zc8 6 (by decide) zw_4_7 rfl dX9_takeLengths_134 h (fun a5 h => ?_)
          refine zj_iload_n E dX9_takeLengths_137 rfl 5 rfl ?_
          refine zj_iconst (v := 1) E dX9_takeLengths_138 (by decide) ?_
          refine zj_isub E dX9_takeLengths_139 ?_
          refine zs_iald E dX9_takeLengths_140 h (fun x7 h => ?_)
          refine zj_goto (tgt := 145) E dX9_takeLengths_141 (by decide) ?_
          refine zj_lv [3, 4, 5, 6, 0] rfl ?_
          exact wX9_takeLengths_145 E _ _ _ _ _ _ _ h K
      · refine zj_iload E dX9_takeLengths_121 7 rfl ?_
        refine zj_goto (tgt := 145) E dX9_takeLengths_123 (by decide) ?_
        refine zj_lv [3, 4, 5, 6, 0] rfl ?_
        exact wX9_takeLengths_145 E _ _ _ _ _ _ _ h K
    · refine zj_iconst (v := 0) E dX9_takeLengths_112 (by decide) ?_
      have e9 := Option.some.inj h
      subst e9
      exact (show zRet Γ cX9_takeLengths 10 0 0 (some (.int 0)) σ2 from K) _ _ dX9_takeLengths_113
def fX9_takeLengths_55 (σ : zS) (l0 : Nat) (l1 : Int32) (l2 : Int32) (l3 : Int32) (l4 : Int32) : Option ((Int32 × Int32 × zS) ⊕ (zS ⊕ (Int32 × zS))) := (if (16 : Int32) ≤ l4 then fX9_takeLengths_71 σ l0 l1 l2 l3 l4 (l4 - (15 : Int32)) else fX9_takeLengths_71 σ l0 l1 l2 l3 l4 0)
set_option maxRecDepth 100000 in
theorem wX9_takeLengths_55 {Γ : zG} (E : zE Γ cX9_takeLengths RX9 10 { frames := 1, cells := 0, slots := 0, locals := 27 }) (σ : zS) (l0 : Nat) (l1 : Int32) (l2 : Int32) (l3 : Int32) (l4 : Int32) {R : ((Int32 × Int32 × zS) ⊕ (zS ⊕ (Int32 × zS)))} (h : fX9_takeLengths_55 σ l0 l1 l2 l3 l4 = some R) (K : Sum.elim (jX9_takeLengths_14 Γ l0 l1) (eX9_takeLengths_14 Γ l0 l1) R) : zJ Γ 10 0 0 σ 55 [(0, .ref l0), (1, .int l1), (2, .int l2), (3, .int l3), (4, .int l4)] [] := by
  unfold fX9_takeLengths_55 at h
  refine zj_iload E dX9_takeLengths_55 4 rfl ?_
  refine zj_bipush (v := 16) E dX9_takeLengths_57 (by decide) ?_
  refine zj_icmp_ge (tgt := 66) E dX9_takeLengths_59 (by decide) h (fun h => ?_) (fun h => ?_)
  · refine zj_iload E dX9_takeLengths_66 4 rfl ?_
    refine zj_bipush (v := 15) E dX9_takeLengths_68 (by decide) ?_
    refine zj_isub E dX9_takeLengths_70 ?_
    refine zj_lv [0, 1, 2, 3, 4] rfl ?_
    exact wX9_takeLengths_71 E _ _ _ _ _ _ _ h K
  · refine zj_iconst (v := 0) E dX9_takeLengths_62 (by decide) ?_
    refine zj_goto (tgt := 71) E dX9_takeLengths_63 (by decide) ?_
    refine zj_lv [0, 1, 2, 3, 4] rfl ?_
    exact wX9_takeLengths_71 E _ _ _ _ _ _ _ h K
def bX9_takeLengths_14 (l0 : Nat) (l1 : Int32) (l2 : Int32) (l3 : Int32) (σ : zS) : Option ((Int32 × Int32 × zS) ⊕ (zS ⊕ (Int32 × zS))) := (if l1 ≤ l3 then some (.inr (.inl σ)) else (if l1 ≤ l2 then some (.inr (.inl σ)) else oGR σ 9 l0 2 (fun a1 => oGR σ 9 l0 3 (fun a2 => oA (zk σ a1 = 1) (oC (fX0_symbol σ a1 a2) (fun x3 σ1 => (if x3 < 0 then some (.inr (.inr (0, σ1))) else (if x3 = (16 : Int32) then (if l2 = 0 then some (.inr (.inr (0, σ1))) else fX9_takeLengths_55 σ1 l0 l1 l2 l3 x3) else fX9_takeLengths_55 σ1 l0 l1 l2 l3 x3))))))))
set_option maxRecDepth 100000 in
theorem wX9_takeLengths_L14 {Γ : zG} (E : zE Γ cX9_takeLengths RX9 10 { frames := 1, cells := 0, slots := 0, locals := 27 }) (l0 : Nat) (l1 : Int32) : ∀ x R, (fun x => bX9_takeLengths_14 l0 l1 x.1 x.2.1 x.2.2) x = some R → Sum.elim (jX9_takeLengths_14 Γ l0 l1) (eX9_takeLengths_14 Γ l0 l1) R → jX9_takeLengths_14 Γ l0 l1 x := by
  intro x R h K
  obtain ⟨l2, l3, σ⟩ := x
  have h : bX9_takeLengths_14 l0 l1 l2 l3 σ = some R := h
  show zJ Γ 10 0 0 σ 14 [(0, .ref l0), (1, .int l1), (2, .int l2), (3, .int l3)] []
  unfold bX9_takeLengths_14 at h
  refine zj_iload_n E dX9_takeLengths_14 rfl 3 rfl ?_
  refine zj_iload_n E dX9_takeLengths_15 rfl 1 rfl ?_
  refine zj_icmp_ge (tgt := 180) E dX9_takeLengths_16 (by decide) h (fun h => ?_) (fun h => ?_)
  · have e9 := Option.some.inj h
    subst e9
    refine zj_lv [] rfl ?_
    exact K
  · refine zj_iload_n E dX9_takeLengths_19 rfl 2 rfl ?_
    refine zj_iload_n E dX9_takeLengths_20 rfl 1 rfl ?_
    refine zj_icmp_ge (tgt := 180) E dX9_takeLengths_21 (by decide) h (fun h => ?_) (fun h => ?_)
    · have e9 := Option.some.inj h
      subst e9
      refine zj_lv [] rfl ?_
      exact K
    · refine zj_aload_n E dX9_takeLengths_24 rfl 0 rfl ?_
      refine zs_getR E zc8 2 (by decide) zw_4_0 rfl dX9_takeLengths_25 h (fun a1 h => ?_)
      refine zj_aload_n E dX9_takeLengths_28 rfl 0 rfl ?_
      refine zs_getR E zc8 3 (by decide) zw_4_4 rfl dX9_takeLengths_29 h (fun a2 h => ?_)
      obtain ⟨hk, h⟩ := oA_some h
      obtain ⟨x3, σ1, hc, h⟩ := oC_some h
      refine zs_callV (As := [.ref a2]) (rest := []) E zc0 zyX0_symbol zw_12_8 (kX0_symbol _ _ _ _ _ hc) rfl rfl hk rfl ⟨by decide, by decide⟩ ⟨by decide, by decide⟩ (Nat.le_of_ble_eq_true rfl) dX9_takeLengths_32 rfl (show zJ Γ 10 0 0 σ1 35 [(0, .ref l0), (1, .int l1), (2, .int l2), (3, .int l3)] [.int x3] from ?_)
      refine zj_istore (lv2 := [(4, .int x3), (0, .ref l0), (1, .int l1), (2, .int l2), (3, .int l3)]) E dX9_takeLengths_35 (by decide) rfl ?_
      refine zj_iload E dX9_takeLengths_37 0 rfl ?_
      refine zj_if_lt (tgt := 53) E dX9_takeLengths_39 (by decide) h (fun h => ?_) (fun h => ?_)
      · refine zj_iconst (v := 0) E dX9_takeLengths_53 (by decide) ?_
        have e9 := Option.some.inj h
        subst e9
        exact (show zRet Γ cX9_takeLengths 10 0 0 (some (.int 0)) σ1 from K) _ _ dX9_takeLengths_54
      · refine zj_iload E dX9_takeLengths_42 0 rfl ?_
        refine zj_bipush (v := 16) E dX9_takeLengths_44 (by decide) ?_
        refine zj_icmp_ne (tgt := 55) E dX9_takeLengths_46 (by decide) h (fun h => ?_) (fun h => ?_)
        · refine zj_lv [1, 2, 3, 4, 0] rfl ?_
          exact wX9_takeLengths_55 E _ _ _ _ _ _ h K
        · refine zj_iload_n E dX9_takeLengths_49 rfl 3 rfl ?_
          refine zj_if_ne (tgt := 55) E dX9_takeLengths_50 (by decide) h (fun h => ?_) (fun h => ?_)
          · refine zj_lv [1, 2, 3, 4, 0] rfl ?_
            exact wX9_takeLengths_55 E _ _ _ _ _ _ h K
          · refine zj_iconst (v := 0) E dX9_takeLengths_53 (by decide) ?_
            have e9 := Option.some.inj h
            subst e9
            exact (show zRet Γ cX9_takeLengths 10 0 0 (some (.int 0)) σ1 from K) _ _ dX9_takeLengths_54
def gX9_takeLengths (σ : zS) (p0 : Nat) : Option (Int32 × zS) := oGI σ 9 p0 7 (fun x1 => oGI σ 9 p0 8 (fun x2 => oL (x1 + x2) (fun v1 => oB (zloop zF (fun x => bX9_takeLengths_14 p0 v1 x.1 x.2.1 x.2.2) (0, 0, σ)) (fun b2 => oS b2 (fun c1 => (fun σ5 => some (1, σ5)) c1) (fun r1 => some r1)))))
def fX9_takeLengths (σ : zS) (p0 : Nat) : Option (Int32 × zS) := oC (gX9_takeLengths σ p0) (fun r s => oA (r = 0 ∨ r = 1) (some (r, s)))
set_option maxRecDepth 100000 in
theorem wX9_takeLengths {Γ : zG} (E : zE Γ cX9_takeLengths RX9 10 { frames := 1, cells := 0, slots := 0, locals := 27 }) (σ : zS) (p0 : Nat) {R : (Int32 × zS)} (h : gX9_takeLengths σ p0 = some R) (K : zRet Γ cX9_takeLengths 10 0 0 (some (.int R.1)) R.2) : zJ Γ 10 0 0 σ 0 [(0, .ref p0)] [] := by
  unfold gX9_takeLengths at h
  refine zj_aload_n E dX9_takeLengths_0 rfl 0 rfl ?_
  refine zs_getI E zc8 7 (by decide) zw_11_22 rfl dX9_takeLengths_1 h (fun x1 h => ?_)
  refine zj_aload_n E dX9_takeLengths_4 rfl 0 rfl ?_
  refine zs_getI E zc8 8 (by decide) zw_11_23 rfl dX9_takeLengths_5 h (fun x2 h => ?_)
  refine zj_iadd E dX9_takeLengths_8 ?_
  refine zs_istore_n (lv2 := fun v1 => [(1, .int v1), (0, .ref p0)]) E dX9_takeLengths_9 rfl (by decide) (fun _ => rfl) h (fun v1 h => ?_)
  refine zj_iconst (v := 0) E dX9_takeLengths_10 (by decide) ?_
  refine zj_istore_n (lv2 := [(2, .int 0), (1, .int v1), (0, .ref p0)]) E dX9_takeLengths_11 rfl (by decide) rfl ?_
  refine zj_iconst (v := 0) E dX9_takeLengths_12 (by decide) ?_
  refine zj_istore_n (lv2 := [(3, .int 0), (2, .int 0), (1, .int v1), (0, .ref p0)]) E dX9_takeLengths_13 rfl (by decide) rfl ?_
  obtain ⟨b2, hb2, h⟩ := oB_some h
  refine zj_lv [3, 2, 1, 0] rfl ?_
  refine zj_loop (wX9_takeLengths_L14 E p0 v1) zF (0, 0, σ) b2 hb2 ?_
  cases b2 with
  | inr r1 =>
    have e9 := Option.some.inj h
    subst e9
    exact K
  | inl c1 =>
    obtain ⟨σ5, rfl⟩ : ∃ z, z = c1 := ⟨_, rfl⟩
    dsimp only [oS] at h
    show zJ Γ 10 0 0 σ5 180 [] []
    refine zj_iconst (v := 1) E dX9_takeLengths_180 (by decide) ?_
    have e9 := Option.some.inj h
    subst e9
    exact (show zRet Γ cX9_takeLengths 10 0 0 (some (.int 1)) σ5 from K) _ _ dX9_takeLengths_181
set_option maxRecDepth 100000 in
theorem kX9_takeLengths (l : Launch) (D : va_G) (cs : zCs) (z0 : Nat) (σ : zS) {p0 : Nat} {r : Int32} {σ' : zS} (h : fX9_takeLengths σ p0 = some (r, σ')) : zM l D cs z0 yX9_takeLengths cX9_takeLengths 10 (some .boolean) { frames := 1, cells := 0, slots := 0, locals := 27 } [.ref p0] σ (some (.int r)) σ' 0 0 := by
  obtain ⟨r0, s0, h0, h⟩ := oC_some h
  obtain ⟨hz, h⟩ := oA_some h
  cases h
  exact zM_of (by decide) rfl (Or.inr ⟨rfl, hz⟩) (Nat.le_of_ble_eq_true rfl) rfl (fun Γ e1 e2 e3 e4 E hN K => wX9_takeLengths E σ _ h0 K)
/-! X9_buildCodes -/
def fX9_buildCodes_70 (σ : zS) : Option (Int32 × zS) := some (1, σ)
set_option maxRecDepth 100000 in
theorem wX9_buildCodes_70 {Γ : zG} (E : zE Γ cX9_buildCodes RX9 2 { frames := 2, cells := 0, slots := 0, locals := 49 }) (σ : zS) {R : (Int32 × zS)} (h : fX9_buildCodes_70 σ = some R) (K : zRet Γ cX9_buildCodes 2 0 0 (some (.int R.1)) R.2) : zJ Γ 2 0 0 σ 70 [] [] := by
  unfold fX9_buildCodes_70 at h
  refine zj_iconst (v := 1) E dX9_buildCodes_70 (by decide) ?_
  refine zj_goto (tgt := 75) E dX9_buildCodes_71 (by decide) ?_
  have e9 := Option.some.inj h
  subst e9
  exact (show zRet Γ cX9_buildCodes 2 0 0 (some (.int 1)) σ from K) _ _ dX9_buildCodes_75
def gX9_buildCodes (σ : zS) (p0 : Nat) : Option (Int32 × zS) := oGR σ 9 p0 6 (fun a1 => oLd σ 21 a1 256 (fun x1 => (if x1 = 0 then some (0, σ) else oGR σ 9 p0 4 (fun a2 => oGR σ 9 p0 6 (fun a3 => oGI σ 9 p0 7 (fun x2 => oA (zk σ a2 = 3) (oC (fX2_build σ a2 a3 0 x2) (fun x3 σ1 => (if x3 = 0 then oGR σ1 9 p0 5 (fun a4 => oGR σ1 9 p0 6 (fun a5 => oGI σ1 9 p0 7 (fun x4 => oGI σ1 9 p0 8 (fun x5 => oA (zk σ1 a4 = 3) (oC (fX2_build σ1 a4 a5 x4 x5) (fun x6 σ2 => (if x6 = 0 then fX9_buildCodes_70 σ2 else (if x6 ≤ 0 then some (0, σ2) else oGR σ2 9 p0 5 (fun a6 => oA (zk σ2 a6 = 3) (oB (fX2_isNoneOrOneBit σ2 a6) (fun x7 => (if x7 = 0 then some (0, σ2) else fX9_buildCodes_70 σ2)))))))))))) else some (0, σ1))))))))))
def fX9_buildCodes (σ : zS) (p0 : Nat) : Option (Int32 × zS) := oC (gX9_buildCodes σ p0) (fun r s => oA (r = 0 ∨ r = 1) (some (r, s)))
set_option maxRecDepth 100000 in
theorem wX9_buildCodes {Γ : zG} (E : zE Γ cX9_buildCodes RX9 2 { frames := 2, cells := 0, slots := 0, locals := 49 }) (σ : zS) (p0 : Nat) {R : (Int32 × zS)} (h : gX9_buildCodes σ p0 = some R) (K : zRet Γ cX9_buildCodes 2 0 0 (some (.int R.1)) R.2) : zJ Γ 2 0 0 σ 0 [(0, .ref p0)] [] := by
  unfold gX9_buildCodes at h
  refine zj_aload_n E dX9_buildCodes_0 rfl 0 rfl ?_
  refine zs_getR E zc8 6 (by decide) zw_4_7 rfl dX9_buildCodes_1 h (fun a1 h => ?_)
  refine zj_sipush (v := 256) E dX9_buildCodes_4 (by decide) ?_
  refine zs_iald E dX9_buildCodes_7 h (fun x1 h => ?_)
  refine zj_if_eq (tgt := 30) E dX9_buildCodes_8 (by decide) h (fun h => ?_) (fun h => ?_)
  · refine zj_iconst (v := 0) E dX9_buildCodes_30 (by decide) ?_
    have e9 := Option.some.inj h
    subst e9
    exact (show zRet Γ cX9_buildCodes 2 0 0 (some (.int 0)) σ from K) _ _ dX9_buildCodes_31
  · refine zj_aload_n E dX9_buildCodes_11 rfl 0 rfl ?_
    refine zs_getR E zc8 4 (by decide) zw_4_5 rfl dX9_buildCodes_12 h (fun a2 h => ?_)
    refine zj_aload_n E dX9_buildCodes_15 rfl 0 rfl ?_
    refine zs_getR E zc8 6 (by decide) zw_4_7 rfl dX9_buildCodes_16 h (fun a3 h => ?_)
    refine zj_iconst (v := 0) E dX9_buildCodes_19 (by decide) ?_
    refine zj_aload_n E dX9_buildCodes_20 rfl 0 rfl ?_
    refine zs_getI E zc8 7 (by decide) zw_11_22 rfl dX9_buildCodes_21 h (fun x2 h => ?_)
    obtain ⟨hk, h⟩ := oA_some h
    obtain ⟨x3, σ1, hc, h⟩ := oC_some h
    refine zs_callV (As := [.ref a3, .int 0, .int x2]) (rest := []) E zc2 zyX2_build zw_11_9 (kX2_build _ _ _ _ _ hc) rfl rfl hk rfl ⟨by decide, by decide⟩ ⟨by decide, by decide⟩ (Nat.le_of_ble_eq_true rfl) dX9_buildCodes_24 rfl (show zJ Γ 2 0 0 σ1 27 [(0, .ref p0)] [.int x3] from ?_)
    refine zj_if_eq (tgt := 32) E dX9_buildCodes_27 (by decide) h (fun h => ?_) (fun h => ?_)
    · refine zj_aload_n E dX9_buildCodes_32 rfl 0 rfl ?_
      refine zs_getR E zc8 5 (by decide) zw_4_6 rfl dX9_buildCodes_33 h (fun a4 h => ?_)
      refine zj_aload_n E dX9_buildCodes_36 rfl 0 rfl ?_
      refine zs_getR E zc8 6 (by decide) zw_4_7 rfl dX9_buildCodes_37 h (fun a5 h => ?_)
      refine zj_aload_n E dX9_buildCodes_40 rfl 0 rfl ?_
      refine zs_getI E zc8 7 (by decide) zw_11_22 rfl dX9_buildCodes_41 h (fun x4 h => ?_)
      refine zj_aload_n E dX9_buildCodes_44 rfl 0 rfl ?_
      refine zs_getI E zc8 8 (by decide) zw_11_23 rfl dX9_buildCodes_45 h (fun x5 h => ?_)
      obtain ⟨hk, h⟩ := oA_some h
      obtain ⟨x6, σ2, hc, h⟩ := oC_some h
      refine zs_callV (As := [.ref a5, .int x4, .int x5]) (rest := []) E zc2 zyX2_build zw_11_9 (kX2_build _ _ _ _ _ hc) rfl rfl hk rfl ⟨by decide, by decide⟩ ⟨by decide, by decide⟩ (Nat.le_of_ble_eq_true rfl) dX9_buildCodes_48 rfl (show zJ Γ 2 0 0 σ2 51 [(0, .ref p0)] [.int x6] from ?_)
      refine zj_istore_n (lv2 := [(1, .int x6), (0, .ref p0)]) E dX9_buildCodes_51 rfl (by decide) rfl ?_
      refine zj_iload_n E dX9_buildCodes_52 rfl 0 rfl ?_
      refine zj_if_eq (tgt := 70) E dX9_buildCodes_53 (by decide) h (fun h => ?_) (fun h => ?_)
      · refine zj_lv [] rfl ?_
        exact wX9_buildCodes_70 E _ h K
      · refine zj_iload_n E dX9_buildCodes_56 rfl 0 rfl ?_
        refine zj_if_le (tgt := 74) E dX9_buildCodes_57 (by decide) h (fun h => ?_) (fun h => ?_)
        · refine zj_iconst (v := 0) E dX9_buildCodes_74 (by decide) ?_
          have e9 := Option.some.inj h
          subst e9
          exact (show zRet Γ cX9_buildCodes 2 0 0 (some (.int 0)) σ2 from K) _ _ dX9_buildCodes_75
        · refine zj_aload_n E dX9_buildCodes_60 rfl 1 rfl ?_
          refine zs_getR E zc8 5 (by decide) zw_4_6 rfl dX9_buildCodes_61 h (fun a6 h => ?_)
          obtain ⟨hk, h⟩ := oA_some h
          obtain ⟨x7, hc, h⟩ := oB_some h
          refine zs_callV (As := []) (rest := []) E zc2 zyX2_isNoneOrOneBit zw_12_16 (kX2_isNoneOrOneBit _ _ _ _ _ hc) rfl rfl hk rfl ⟨by decide, by decide⟩ ⟨by decide, by decide⟩ (Nat.le_of_ble_eq_true rfl) dX9_buildCodes_64 rfl (show zJ Γ 2 0 0 σ2 67 [(1, .int x6), (0, .ref p0)] [.int x7] from ?_)
          refine zj_if_eq (tgt := 74) E dX9_buildCodes_67 (by decide) h (fun h => ?_) (fun h => ?_)
          · refine zj_iconst (v := 0) E dX9_buildCodes_74 (by decide) ?_
            have e9 := Option.some.inj h
            subst e9
            exact (show zRet Γ cX9_buildCodes 2 0 0 (some (.int 0)) σ2 from K) _ _ dX9_buildCodes_75
          · refine zj_lv [] rfl ?_
            exact wX9_buildCodes_70 E _ h K
    · refine zj_iconst (v := 0) E dX9_buildCodes_30 (by decide) ?_
      have e9 := Option.some.inj h
      subst e9
      exact (show zRet Γ cX9_buildCodes 2 0 0 (some (.int 0)) σ1 from K) _ _ dX9_buildCodes_31
set_option maxRecDepth 100000 in
theorem kX9_buildCodes (l : Launch) (D : va_G) (cs : zCs) (z0 : Nat) (σ : zS) {p0 : Nat} {r : Int32} {σ' : zS} (h : fX9_buildCodes σ p0 = some (r, σ')) : zM l D cs z0 yX9_buildCodes cX9_buildCodes 2 (some .boolean) { frames := 2, cells := 0, slots := 0, locals := 49 } [.ref p0] σ (some (.int r)) σ' 0 0 := by
  obtain ⟨r0, s0, h0, h⟩ := oC_some h
  obtain ⟨hz, h⟩ := oA_some h
  cases h
  exact zM_of (by decide) rfl (Or.inr ⟨rfl, hz⟩) (Nat.le_of_ble_eq_true rfl) rfl (fun Γ e1 e2 e3 e4 E hN K => wX9_buildCodes E σ _ h0 K)
/-! X9_hasCodes -/
def gX9_hasCodes (σ : zS) (p0 : Nat) (p1 : Int32) : Option (Int32 × zS) := (if p1 = (1 : Int32) then oA (zk σ p0 = 9) (oB (fX9_fixCodes σ p0) (fun σ4 => some (1, σ4))) else (if p1 = (2 : Int32) then oA (zk σ p0 = 9) (oC (fX9_takeTellers σ p0) (fun x1 σ1 => (if x1 = 0 then some (0, σ1) else oA (zk σ1 p0 = 9) (oC (fX9_takeLengths σ1 p0) (fun x2 σ2 => (if x2 = 0 then some (0, σ2) else oA (zk σ2 p0 = 9) (oC (fX9_buildCodes σ2 p0) (fun x3 σ3 => (if x3 = 0 then some (0, σ3) else some (1, σ3)))))))))) else some (0, σ)))
def fX9_hasCodes (σ : zS) (p0 : Nat) (p1 : Int32) : Option (Int32 × zS) := oC (gX9_hasCodes σ p0 p1) (fun r s => oA (r = 0 ∨ r = 1) (some (r, s)))
set_option maxRecDepth 100000 in
theorem wX9_hasCodes {Γ : zG} (E : zE Γ cX9_hasCodes RX9 2 { frames := 3, cells := 0, slots := 0, locals := 73 }) (σ : zS) (p0 : Nat) (p1 : Int32) {R : (Int32 × zS)} (h : gX9_hasCodes σ p0 p1 = some R) (K : zRet Γ cX9_hasCodes 2 0 0 (some (.int R.1)) R.2) : zJ Γ 2 0 0 σ 0 [(0, .ref p0), (1, .int p1)] [] := by
  unfold gX9_hasCodes at h
  refine zj_iload_n E dX9_hasCodes_0 rfl 1 rfl ?_
  refine zj_iconst (v := 1) E dX9_hasCodes_1 (by decide) ?_
  refine zj_icmp_ne (tgt := 11) E dX9_hasCodes_2 (by decide) h (fun h => ?_) (fun h => ?_)
  · refine zj_iload_n E dX9_hasCodes_11 rfl 1 rfl ?_
    refine zj_iconst (v := 2) E dX9_hasCodes_12 (by decide) ?_
    refine zj_icmp_ne (tgt := 41) E dX9_hasCodes_13 (by decide) h (fun h => ?_) (fun h => ?_)
    · refine zj_iconst (v := 0) E dX9_hasCodes_41 (by decide) ?_
      have e9 := Option.some.inj h
      subst e9
      exact (show zRet Γ cX9_hasCodes 2 0 0 (some (.int 0)) σ from K) _ _ dX9_hasCodes_42
    · refine zj_aload_n E dX9_hasCodes_16 rfl 0 rfl ?_
      obtain ⟨hk, h⟩ := oA_some h
      obtain ⟨x1, σ1, hc, h⟩ := oC_some h
      refine zs_callV (As := []) (rest := []) E zc8 zyX9_takeTellers zw_11_18 (kX9_takeTellers _ _ _ _ _ hc) rfl rfl hk rfl ⟨by decide, by decide⟩ ⟨by decide, by decide⟩ (Nat.le_of_ble_eq_true rfl) dX9_hasCodes_17 rfl (show zJ Γ 2 0 0 σ1 20 [(0, .ref p0), (1, .int p1)] [.int x1] from ?_)
      refine zj_if_eq (tgt := 41) E dX9_hasCodes_20 (by decide) h (fun h => ?_) (fun h => ?_)
      · refine zj_iconst (v := 0) E dX9_hasCodes_41 (by decide) ?_
        have e9 := Option.some.inj h
        subst e9
        exact (show zRet Γ cX9_hasCodes 2 0 0 (some (.int 0)) σ1 from K) _ _ dX9_hasCodes_42
      · refine zj_aload_n E dX9_hasCodes_23 rfl 0 rfl ?_
        obtain ⟨hk, h⟩ := oA_some h
        obtain ⟨x2, σ2, hc, h⟩ := oC_some h
        refine zs_callV (As := []) (rest := []) E zc8 zyX9_takeLengths zw_12_2 (kX9_takeLengths _ _ _ _ _ hc) rfl rfl hk rfl ⟨by decide, by decide⟩ ⟨by decide, by decide⟩ (Nat.le_of_ble_eq_true rfl) dX9_hasCodes_24 rfl (show zJ Γ 2 0 0 σ2 27 [(0, .ref p0), (1, .int p1)] [.int x2] from ?_)
        refine zj_if_eq (tgt := 41) E dX9_hasCodes_27 (by decide) h (fun h => ?_) (fun h => ?_)
        · refine zj_iconst (v := 0) E dX9_hasCodes_41 (by decide) ?_
          have e9 := Option.some.inj h
          subst e9
          exact (show zRet Γ cX9_hasCodes 2 0 0 (some (.int 0)) σ2 from K) _ _ dX9_hasCodes_42
        · refine zj_aload_n E dX9_hasCodes_30 rfl 0 rfl ?_
          obtain ⟨hk, h⟩ := oA_some h
          obtain ⟨x3, σ3, hc, h⟩ := oC_some h
          refine zs_callV (As := []) (rest := []) E zc8 zyX9_buildCodes zw_12_12 (kX9_buildCodes _ _ _ _ _ hc) rfl rfl hk rfl ⟨by decide, by decide⟩ ⟨by decide, by decide⟩ (Nat.le_of_ble_eq_true rfl) dX9_hasCodes_31 rfl (show zJ Γ 2 0 0 σ3 34 [(0, .ref p0), (1, .int p1)] [.int x3] from ?_)
          refine zj_if_eq (tgt := 41) E dX9_hasCodes_34 (by decide) h (fun h => ?_) (fun h => ?_)
          · refine zj_iconst (v := 0) E dX9_hasCodes_41 (by decide) ?_
            have e9 := Option.some.inj h
            subst e9
            exact (show zRet Γ cX9_hasCodes 2 0 0 (some (.int 0)) σ3 from K) _ _ dX9_hasCodes_42
          · refine zj_iconst (v := 1) E dX9_hasCodes_37 (by decide) ?_
            refine zj_goto (tgt := 42) E dX9_hasCodes_38 (by decide) ?_
            have e9 := Option.some.inj h
            subst e9
            exact (show zRet Γ cX9_hasCodes 2 0 0 (some (.int 1)) σ3 from K) _ _ dX9_hasCodes_42
  · refine zj_aload_n E dX9_hasCodes_5 rfl 0 rfl ?_
    obtain ⟨hk, h⟩ := oA_some h
    obtain ⟨σ4, hc, h⟩ := oB_some h
    refine zs_callV (As := []) (rest := []) E zc8 zyX9_fixCodes zw_11_5 (kX9_fixCodes _ _ _ _ _ hc) rfl rfl hk rfl ⟨by decide, by decide⟩ ⟨by decide, by decide⟩ (Nat.le_of_ble_eq_true rfl) dX9_hasCodes_6 rfl (show zJ Γ 2 0 0 σ4 9 [(0, .ref p0), (1, .int p1)] [] from ?_)
    refine zj_iconst (v := 1) E dX9_hasCodes_9 (by decide) ?_
    have e9 := Option.some.inj h
    subst e9
    exact (show zRet Γ cX9_hasCodes 2 0 0 (some (.int 1)) σ4 from K) _ _ dX9_hasCodes_10
set_option maxRecDepth 100000 in
theorem kX9_hasCodes (l : Launch) (D : va_G) (cs : zCs) (z0 : Nat) (σ : zS) {p0 : Nat} {p1 : Int32} {r : Int32} {σ' : zS} (h : fX9_hasCodes σ p0 p1 = some (r, σ')) : zM l D cs z0 yX9_hasCodes cX9_hasCodes 2 (some .boolean) { frames := 3, cells := 0, slots := 0, locals := 73 } [.ref p0, .int p1] σ (some (.int r)) σ' 0 0 := by
  obtain ⟨r0, s0, h0, h⟩ := oC_some h
  obtain ⟨hz, h⟩ := oA_some h
  cases h
  exact zM_of (by decide) rfl (Or.inr ⟨rfl, hz⟩) (Nat.le_of_ble_eq_true rfl) rfl (fun Γ e1 e2 e3 e4 E hN K => wX9_hasCodes E σ _ _ h0 K)
/-! X9_copyMatch -/
def jX9_copyMatch_120 (Γ : zG) (l0 : Nat) (l5 : Int32) (l6 : Int32) : (Int32 × zS) → Prop := fun x => zJ Γ 8 0 0 x.2 120 [(0, .ref l0), (5, .int l5), (6, .int l6), (7, .int x.1)] []
def eX9_copyMatch_120 (Γ : zG) (l0 : Nat) (l5 : Int32) (l6 : Int32) : zS → Prop := fun b => zJ Γ 8 0 0 b 157 [] []
def bX9_copyMatch_120 (l0 : Nat) (l5 : Int32) (l6 : Int32) (l7 : Int32) (σ : zS) : Option ((Int32 × zS) ⊕ zS) := (if l5 ≤ l7 then some (.inr σ) else oGR σ 9 l0 1 (fun a7 => oGR σ 9 l0 1 (fun a8 => oGR σ 9 l0 1 (fun a9 => oGI σ 2 a9 1 (fun x10 => oA (zk σ a8 = 2) (oB (fX1_at σ a8 (x10 - l6)) (fun x11 => oA (zk σ a7 = 2) (oB (fX1_add σ a7 x11) (fun σ4 => oL (l7 + 1) (fun v3 => some (.inl (v3, σ4))))))))))))
set_option maxRecDepth 100000 in
theorem wX9_copyMatch_L120 {Γ : zG} (E : zE Γ cX9_copyMatch RX9 8 { frames := 1, cells := 0, slots := 0, locals := 27 }) (l0 : Nat) (l5 : Int32) (l6 : Int32) : ∀ x R, (fun x => bX9_copyMatch_120 l0 l5 l6 x.1 x.2) x = some R → Sum.elim (jX9_copyMatch_120 Γ l0 l5 l6) (eX9_copyMatch_120 Γ l0 l5 l6) R → jX9_copyMatch_120 Γ l0 l5 l6 x := by
  intro x R h K
  obtain ⟨l7, σ⟩ := x
  have h : bX9_copyMatch_120 l0 l5 l6 l7 σ = some R := h
  show zJ Γ 8 0 0 σ 120 [(0, .ref l0), (5, .int l5), (6, .int l6), (7, .int l7)] []
  unfold bX9_copyMatch_120 at h
  refine zj_iload E dX9_copyMatch_120 3 rfl ?_
  refine zj_iload E dX9_copyMatch_122 1 rfl ?_
  refine zj_icmp_ge (tgt := 157) E dX9_copyMatch_124 (by decide) h (fun h => ?_) (fun h => ?_)
  · have e9 := Option.some.inj h
    subst e9
    refine zj_lv [] rfl ?_
    exact K
  · refine zj_aload_n E dX9_copyMatch_127 rfl 0 rfl ?_
    refine zs_getR E zc8 1 (by decide) zw_3_20 rfl dX9_copyMatch_128 h (fun a7 h => ?_)
    refine zj_aload_n E dX9_copyMatch_131 rfl 0 rfl ?_
    refine zs_getR E zc8 1 (by decide) zw_3_20 rfl dX9_copyMatch_132 h (fun a8 h => ?_)
    refine zj_aload_n E dX9_copyMatch_135 rfl 0 rfl ?_
    refine zs_getR E zc8 1 (by decide) zw_3_20 rfl dX9_copyMatch_136 h (fun a9 h => ?_)
    refine zs_getIN E zc1 1 (by decide) (znf_4) rfl dX9_copyMatch_139 h (fun x10 h => ?_)
    refine zj_iload E dX9_copyMatch_142 2 rfl ?_
    refine zj_isub E dX9_copyMatch_144 ?_
    obtain ⟨hk, h⟩ := oA_some h
    obtain ⟨x11, hc, h⟩ := oB_some h
    refine zs_callV (As := [.int (x10 - l6)]) (rest := [.ref a7]) E zc1 zyX1_at zw_10_4 (kX1_at _ _ _ _ _ hc) rfl rfl hk rfl ⟨by decide, by decide⟩ ⟨by decide, by decide⟩ (Nat.le_of_ble_eq_true rfl) dX9_copyMatch_145 rfl (show zJ Γ 8 0 0 σ 148 [(0, .ref l0), (5, .int l5), (6, .int l6), (7, .int l7)] [.int x11, .ref a7] from ?_)
    obtain ⟨hk, h⟩ := oA_some h
    obtain ⟨σ4, hc, h⟩ := oB_some h
    refine zs_callV (As := [.int x11]) (rest := []) E zc1 zyX1_add zw_13_0 (kX1_add _ _ _ _ _ hc) rfl rfl hk rfl ⟨by decide, by decide⟩ ⟨by decide, by decide⟩ (Nat.le_of_ble_eq_true rfl) dX9_copyMatch_148 rfl (show zJ Γ 8 0 0 σ4 151 [(0, .ref l0), (5, .int l5), (6, .int l6), (7, .int l7)] [] from ?_)
    refine zs_iinc (lv2 := fun v3 => [(7, .int v3), (0, .ref l0), (5, .int l5), (6, .int l6)]) E dX9_copyMatch_151 3 rfl (by decide) (by decide) (fun _ => rfl) h (fun v3 h => ?_)
    refine zj_goto (tgt := 120) E dX9_copyMatch_154 (by decide) ?_
    have e9 := Option.some.inj h
    subst e9
    refine zj_lv [1, 2, 3, 0] rfl ?_
    exact K
def gX9_copyMatch (σ : zS) (p0 : Nat) (p1 : Int32) : Option (Int32 × zS) := (if p1 < (29 : Int32) then oGR σ 9 p0 2 (fun a1 => oLt zt4 p1 (fun x1 => oA (zk σ a1 = 1) (oC (fX0_take σ a1 x1) (fun x2 σ1 => oGR σ1 9 p0 2 (fun a2 => oGR σ1 9 p0 5 (fun a3 => oA (zk σ1 a2 = 1) (oC (fX0_symbol σ1 a2 a3) (fun x3 σ2 => (if x2 < 0 then some (0, σ2) else (if x3 < 0 then some (0, σ2) else (if x3 < (30 : Int32) then oGR σ2 9 p0 2 (fun a4 => oLt zt6 x3 (fun x4 => oA (zk σ2 a4 = 1) (oC (fX0_take σ2 a4 x4) (fun x5 σ3 => oLt zt3 p1 (fun x6 => oL (x6 + x2) (fun v1 => oLt zt5 x3 (fun x7 => oL (x7 + x5) (fun v2 => (if x5 < 0 then some (0, σ3) else oGR σ3 9 p0 1 (fun a5 => oGI σ3 2 a5 1 (fun x8 => (if x8 < v2 then some (0, σ3) else oGR σ3 9 p0 1 (fun a6 => oA (zk σ3 a6 = 2) (oB (fX1_fits σ3 a6 v1) (fun x9 => (if x9 = 0 then some (0, σ3) else oB (zloop zF (fun x => bX9_copyMatch_120 p0 v1 v2 x.1 x.2) (0, σ3)) (fun b1 => (fun σ5 => some (1, σ5)) b1))))))))))))))))) else some (0, σ2)))))))))))) else some (0, σ))
def fX9_copyMatch (σ : zS) (p0 : Nat) (p1 : Int32) : Option (Int32 × zS) := oC (gX9_copyMatch σ p0 p1) (fun r s => oA (r = 0 ∨ r = 1) (some (r, s)))
set_option maxRecDepth 100000 in
theorem wX9_copyMatch {Γ : zG} (E : zE Γ cX9_copyMatch RX9 8 { frames := 1, cells := 0, slots := 0, locals := 27 }) (σ : zS) (p0 : Nat) (p1 : Int32) {R : (Int32 × zS)} (h : gX9_copyMatch σ p0 p1 = some R) (K : zRet Γ cX9_copyMatch 8 0 0 (some (.int R.1)) R.2) : zJ Γ 8 0 0 σ 0 [(0, .ref p0), (1, .int p1)] [] := by
  unfold gX9_copyMatch at h
  refine zj_iload_n E dX9_copyMatch_0 rfl 1 rfl ?_
  refine zs_tab (nm := "LENGTH_BASES") (l := zt3) E (by decide) zw_13_5 dX9_copyMatch_1 (fun t1 ht1 => ?_)
  refine zs_tln (v := 29) E ht1 (by decide) dX9_copyMatch_4 ?_
  refine zj_icmp_lt (tgt := 10) E dX9_copyMatch_5 (by decide) h (fun h => ?_) (fun h => ?_)
  · refine zj_aload_n E dX9_copyMatch_10 rfl 0 rfl ?_
    refine zs_getR E zc8 2 (by decide) zw_4_0 rfl dX9_copyMatch_11 h (fun a1 h => ?_)
    refine zs_tab (nm := "LENGTH_BITS") (l := zt4) E (by decide) zw_13_6 dX9_copyMatch_14 (fun t2 ht2 => ?_)
    refine zj_iload_n E dX9_copyMatch_17 rfl 1 rfl ?_
    refine zs_tld E ht2 dX9_copyMatch_18 h (fun x1 h => ?_)
    obtain ⟨hk, h⟩ := oA_some h
    obtain ⟨x2, σ1, hc, h⟩ := oC_some h
    refine zs_callV (As := [.int x1]) (rest := []) E zc0 zyX0_take zw_10_5 (kX0_take _ _ _ _ _ hc) rfl rfl hk rfl ⟨by decide, by decide⟩ ⟨by decide, by decide⟩ (Nat.le_of_ble_eq_true rfl) dX9_copyMatch_19 rfl (show zJ Γ 8 0 0 σ1 22 [(0, .ref p0), (1, .int p1)] [.int x2] from ?_)
    refine zj_istore_n (lv2 := [(2, .int x2), (0, .ref p0), (1, .int p1)]) E dX9_copyMatch_22 rfl (by decide) rfl ?_
    refine zj_aload_n E dX9_copyMatch_23 rfl 1 rfl ?_
    refine zs_getR E zc8 2 (by decide) zw_4_0 rfl dX9_copyMatch_24 h (fun a2 h => ?_)
    refine zj_aload_n E dX9_copyMatch_27 rfl 1 rfl ?_
    refine zs_getR E zc8 5 (by decide) zw_4_6 rfl dX9_copyMatch_28 h (fun a3 h => ?_)
    obtain ⟨hk, h⟩ := oA_some h
    obtain ⟨x3, σ2, hc, h⟩ := oC_some h
    refine zs_callV (As := [.ref a3]) (rest := []) E zc0 zyX0_symbol zw_12_8 (kX0_symbol _ _ _ _ _ hc) rfl rfl hk rfl ⟨by decide, by decide⟩ ⟨by decide, by decide⟩ (Nat.le_of_ble_eq_true rfl) dX9_copyMatch_31 rfl (show zJ Γ 8 0 0 σ2 34 [(2, .int x2), (0, .ref p0), (1, .int p1)] [.int x3] from ?_)
    refine zj_istore_n (lv2 := [(3, .int x3), (2, .int x2), (0, .ref p0), (1, .int p1)]) E dX9_copyMatch_34 rfl (by decide) rfl ?_
    refine zj_iload_n E dX9_copyMatch_35 rfl 1 rfl ?_
    refine zj_if_lt (tgt := 51) E dX9_copyMatch_36 (by decide) h (fun h => ?_) (fun h => ?_)
    · refine zj_iconst (v := 0) E dX9_copyMatch_51 (by decide) ?_
      have e9 := Option.some.inj h
      subst e9
      exact (show zRet Γ cX9_copyMatch 8 0 0 (some (.int 0)) σ2 from K) _ _ dX9_copyMatch_52
    · refine zj_iload_n E dX9_copyMatch_39 rfl 0 rfl ?_
      refine zj_if_lt (tgt := 51) E dX9_copyMatch_40 (by decide) h (fun h => ?_) (fun h => ?_)
      · refine zj_iconst (v := 0) E dX9_copyMatch_51 (by decide) ?_
        have e9 := Option.some.inj h
        subst e9
        exact (show zRet Γ cX9_copyMatch 8 0 0 (some (.int 0)) σ2 from K) _ _ dX9_copyMatch_52
      · refine zj_iload_n E dX9_copyMatch_43 rfl 0 rfl ?_
        refine zs_tab (nm := "DISTANCE_BASES") (l := zt5) E (by decide) zw_13_7 dX9_copyMatch_44 (fun t3 ht3 => ?_)
        refine zs_tln (v := 30) E ht3 (by decide) dX9_copyMatch_47 ?_
        refine zj_icmp_lt (tgt := 53) E dX9_copyMatch_48 (by decide) h (fun h => ?_) (fun h => ?_)
        · refine zj_aload_n E dX9_copyMatch_53 rfl 2 rfl ?_
          refine zs_getR E zc8 2 (by decide) zw_4_0 rfl dX9_copyMatch_54 h (fun a4 h => ?_)
          refine zs_tab (nm := "DISTANCE_BITS") (l := zt6) E (by decide) zw_13_8 dX9_copyMatch_57 (fun t4 ht4 => ?_)
          refine zj_iload_n E dX9_copyMatch_60 rfl 0 rfl ?_
          refine zs_tld E ht4 dX9_copyMatch_61 h (fun x4 h => ?_)
          obtain ⟨hk, h⟩ := oA_some h
          obtain ⟨x5, σ3, hc, h⟩ := oC_some h
          refine zs_callV (As := [.int x4]) (rest := []) E zc0 zyX0_take zw_10_5 (kX0_take _ _ _ _ _ hc) rfl rfl hk rfl ⟨by decide, by decide⟩ ⟨by decide, by decide⟩ (Nat.le_of_ble_eq_true rfl) dX9_copyMatch_62 rfl (show zJ Γ 8 0 0 σ3 65 [(3, .int x3), (2, .int x2), (0, .ref p0), (1, .int p1)] [.int x5] from ?_)
          refine zj_istore (lv2 := [(4, .int x5), (3, .int x3), (2, .int x2), (0, .ref p0), (1, .int p1)]) E dX9_copyMatch_65 (by decide) rfl ?_
          refine zs_tab (nm := "LENGTH_BASES") (l := zt3) E (by decide) zw_13_5 dX9_copyMatch_67 (fun t5 ht5 => ?_)
          refine zj_iload_n E dX9_copyMatch_70 rfl 4 rfl ?_
          refine zs_tld E ht5 dX9_copyMatch_71 h (fun x6 h => ?_)
          refine zj_iload_n E dX9_copyMatch_72 rfl 2 rfl ?_
          refine zj_iadd E dX9_copyMatch_73 ?_
          refine zs_istore (lv2 := fun v1 => [(5, .int v1), (4, .int x5), (3, .int x3), (2, .int x2), (0, .ref p0), (1, .int p1)]) E dX9_copyMatch_74 (by decide) (fun _ => rfl) h (fun v1 h => ?_)
          refine zs_tab (nm := "DISTANCE_BASES") (l := zt5) E (by decide) zw_13_7 dX9_copyMatch_76 (fun t6 ht6 => ?_)
          refine zj_iload_n E dX9_copyMatch_79 rfl 2 rfl ?_
          refine zs_tld E ht6 dX9_copyMatch_80 h (fun x7 h => ?_)
          refine zj_iload E dX9_copyMatch_81 1 rfl ?_
          refine zj_iadd E dX9_copyMatch_83 ?_
          refine zs_istore (lv2 := fun v2 => [(6, .int v2), (5, .int v1), (4, .int x5), (3, .int x3), (2, .int x2), (0, .ref p0), (1, .int p1)]) E dX9_copyMatch_84 (by decide) (fun _ => rfl) h (fun v2 h => ?_)
          refine zj_iload E dX9_copyMatch_86 2 rfl ?_
          refine zj_if_lt (tgt := 115) E dX9_copyMatch_88 (by decide) h (fun h => ?_) (fun h => ?_)
          · refine zj_iconst (v := 0) E dX9_copyMatch_115 (by decide) ?_
            have e9 := Option.some.inj h
            subst e9
            exact (show zRet Γ cX9_copyMatch 8 0 0 (some (.int 0)) σ3 from K) _ _ dX9_copyMatch_116
          · refine zj_iload E dX9_copyMatch_91 0 rfl ?_
            refine zj_aload_n E dX9_copyMatch_93 rfl 5 rfl ?_
            refine zs_getR E zc8 1 (by decide) zw_3_20 rfl dX9_copyMatch_94 h (fun a5 h => ?_)
            refine zs_getIN E zc1 1 (by decide) (znf_4) rfl dX9_copyMatch_97 h (fun x8 h => ?_)
            refine zj_icmp_gt (tgt := 115) E dX9_copyMatch_100 (by decide) h (fun h => ?_) (fun h => ?_)
            · refine zj_iconst (v := 0) E dX9_copyMatch_115 (by decide) ?_
              have e9 := Option.some.inj h
              subst e9
              exact (show zRet Γ cX9_copyMatch 8 0 0 (some (.int 0)) σ3 from K) _ _ dX9_copyMatch_116
            · refine zj_aload_n E dX9_copyMatch_103 rfl 5 rfl ?_
              refine zs_getR E zc8 1 (by decide) zw_3_20 rfl dX9_copyMatch_104 h (fun a6 h => ?_)
              refine zj_iload E dX9_copyMatch_107 1 rfl ?_
              obtain ⟨hk, h⟩ := oA_some h
              obtain ⟨x9, hc, h⟩ := oB_some h
              refine zs_callV (As := [.int v1]) (rest := []) E zc1 zyX1_fits zw_10_19 (kX1_fits _ _ _ _ _ hc) rfl rfl hk rfl ⟨by decide, by decide⟩ ⟨by decide, by decide⟩ (Nat.le_of_ble_eq_true rfl) dX9_copyMatch_109 rfl (show zJ Γ 8 0 0 σ3 112 [(6, .int v2), (5, .int v1), (4, .int x5), (3, .int x3), (2, .int x2), (0, .ref p0), (1, .int p1)] [.int x9] from ?_)
              refine zj_if_ne (tgt := 117) E dX9_copyMatch_112 (by decide) h (fun h => ?_) (fun h => ?_)
              · refine zj_iconst (v := 0) E dX9_copyMatch_117 (by decide) ?_
                refine zj_istore (lv2 := [(7, .int 0), (6, .int v2), (5, .int v1), (4, .int x5), (3, .int x3), (2, .int x2), (0, .ref p0), (1, .int p1)]) E dX9_copyMatch_118 (by decide) rfl ?_
                obtain ⟨b1, hb1, h⟩ := oB_some h
                refine zj_lv [6, 2, 1, 0] rfl ?_
                refine zj_loop (wX9_copyMatch_L120 E p0 v1 v2) zF (0, σ3) b1 hb1 ?_
                obtain ⟨σ5, rfl⟩ : ∃ z, z = b1 := ⟨_, rfl⟩
                try dsimp only at h
                show zJ Γ 8 0 0 σ5 157 [] []
                refine zj_iconst (v := 1) E dX9_copyMatch_157 (by decide) ?_
                have e9 := Option.some.inj h
                subst e9
                exact (show zRet Γ cX9_copyMatch 8 0 0 (some (.int 1)) σ5 from K) _ _ dX9_copyMatch_158
              · refine zj_iconst (v := 0) E dX9_copyMatch_115 (by decide) ?_
                have e9 := Option.some.inj h
                subst e9
                exact (show zRet Γ cX9_copyMatch 8 0 0 (some (.int 0)) σ3 from K) _ _ dX9_copyMatch_116
        · refine zj_iconst (v := 0) E dX9_copyMatch_51 (by decide) ?_
          have e9 := Option.some.inj h
          subst e9
          exact (show zRet Γ cX9_copyMatch 8 0 0 (some (.int 0)) σ2 from K) _ _ dX9_copyMatch_52
  · refine zj_iconst (v := 0) E dX9_copyMatch_8 (by decide) ?_
    have e9 := Option.some.inj h
    subst e9
    exact (show zRet Γ cX9_copyMatch 8 0 0 (some (.int 0)) σ from K) _ _ dX9_copyMatch_9
set_option maxRecDepth 100000 in
theorem kX9_copyMatch (l : Launch) (D : va_G) (cs : zCs) (z0 : Nat) (σ : zS) {p0 : Nat} {p1 : Int32} {r : Int32} {σ' : zS} (h : fX9_copyMatch σ p0 p1 = some (r, σ')) : zM l D cs z0 yX9_copyMatch cX9_copyMatch 8 (some .boolean) { frames := 1, cells := 0, slots := 0, locals := 27 } [.ref p0, .int p1] σ (some (.int r)) σ' 0 0 := by
  obtain ⟨r0, s0, h0, h⟩ := oC_some h
  obtain ⟨hz, h⟩ := oA_some h
  cases h
  exact zM_of (by decide) rfl (Or.inr ⟨rfl, hz⟩) (Nat.le_of_ble_eq_true rfl) rfl (fun Γ e1 e2 e3 e4 E hN K => wX9_copyMatch E σ _ _ h0 K)
