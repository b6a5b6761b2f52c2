/-! X12_place -/
def fX12_place (σ : zS) (p0 : Nat) : Option (Int32 × zS) := oPI σ 12 p0 0 0 (fun σ1 => oGI σ1 12 p0 3 (fun x1 => some (x1, σ1)))
set_option maxRecDepth 100000 in
theorem wX12_place {Γ : zG} (E : zE Γ cX12_place RX12 1 { frames := 0, cells := 0, slots := 0, locals := 0 }) (σ : zS) (p0 : Nat) {R : (Int32 × zS)} (h : fX12_place σ p0 = some R) (K : zRet Γ cX12_place 1 0 0 (some (.int R.1)) R.2) : zJ Γ 1 0 0 σ 0 [(0, .ref p0)] [] := by
  unfold fX12_place at h
  refine zj_aload_n E dX12_place_0 rfl 0 rfl ?_
  refine zj_iconst (v := 0) E dX12_place_1 (by decide) ?_
  refine zs_putI E zc11 0 (by decide) zw_7_9 rfl rfl dX12_place_2 h (fun σ1 h => ?_)
  refine zj_aload_n E dX12_place_5 rfl 0 rfl ?_
  refine zs_getI E zc11 3 (by decide) zw_6_4 rfl dX12_place_6 h (fun x1 h => ?_)
  have e9 := Option.some.inj h
  subst e9
  exact (show zRet Γ cX12_place 1 0 0 (some (.int x1)) σ1 from K) _ _ dX12_place_9
set_option maxRecDepth 100000 in
theorem kX12_place (l : Launch) (D : va_G) (cs : zCs) (z0 : Nat) (σ : zS) {p0 : Nat} {r : Int32} {σ' : zS} (h : fX12_place σ p0 = some (r, σ')) : zM l D cs z0 yX12_place cX12_place 1 (some .int) { frames := 0, cells := 0, slots := 0, locals := 0 } [.ref p0] σ (some (.int r)) σ' 0 0 := by
  exact zM_of (by decide) rfl (Or.inl rfl) (Nat.le_of_ble_eq_true rfl) rfl (fun Γ e1 e2 e3 e4 E hN K => wX12_place E σ _ h K)
/-! X12_wipe -/
def jX12_wipe_2 (Γ : zG) (l0 : Nat) (l1 : Int32) : (Int32 × zS) → Prop := fun x => zJ Γ 3 0 0 x.2 2 [(0, .ref l0), (1, .int l1), (2, .int x.1)] []
def eX12_wipe_2 (Γ : zG) (l0 : Nat) (l1 : Int32) : zS → Prop := fun b => zJ Γ 3 0 0 b 28 [] []
def bX12_wipe_2 (l0 : Nat) (l1 : Int32) (l2 : Int32) (σ : zS) : Option ((Int32 × zS) ⊕ zS) := (if (256 : Int32) ≤ l2 then some (.inr σ) else oGR σ 12 l0 6 (fun a1 => oSt σ 21 a1 (((256 : Int32) * l1) + l2) 0 (fun σ1 => oL (l2 + 1) (fun v1 => some (.inl (v1, σ1))))))
set_option maxRecDepth 100000 in
theorem wX12_wipe_L2 {Γ : zG} (E : zE Γ cX12_wipe RX12 3 { frames := 0, cells := 0, slots := 0, locals := 0 }) (l0 : Nat) (l1 : Int32) : ∀ x R, (fun x => bX12_wipe_2 l0 l1 x.1 x.2) x = some R → Sum.elim (jX12_wipe_2 Γ l0 l1) (eX12_wipe_2 Γ l0 l1) R → jX12_wipe_2 Γ l0 l1 x := by
  intro x R h K
  obtain ⟨l2, σ⟩ := x
  have h : bX12_wipe_2 l0 l1 l2 σ = some R := h
  show zJ Γ 3 0 0 σ 2 [(0, .ref l0), (1, .int l1), (2, .int l2)] []
  unfold bX12_wipe_2 at h
  refine zj_iload_n E dX12_wipe_2 rfl 2 rfl ?_
  refine zj_sipush (v := 256) E dX12_wipe_3 (by decide) ?_
  refine zj_icmp_ge (tgt := 28) E dX12_wipe_6 (by decide) h (fun h => ?_) (fun h => ?_)
  · have e9 := Option.some.inj h
    subst e9
    refine zj_lv [] rfl ?_
    exact K
  · refine zj_aload_n E dX12_wipe_9 rfl 0 rfl ?_
    refine zs_getR E zc11 6 (by decide) zw_6_7 rfl dX12_wipe_10 h (fun a1 h => ?_)
    refine zj_sipush (v := 256) E dX12_wipe_13 (by decide) ?_
    refine zj_iload_n E dX12_wipe_16 rfl 1 rfl ?_
    refine zj_imul E dX12_wipe_17 ?_
    refine zj_iload_n E dX12_wipe_18 rfl 2 rfl ?_
    refine zj_iadd E dX12_wipe_19 ?_
    refine zj_iconst (v := 0) E dX12_wipe_20 (by decide) ?_
    refine zs_iast E dX12_wipe_21 h (fun σ1 h => ?_)
    refine zs_iinc (lv2 := fun v1 => [(2, .int v1), (0, .ref l0), (1, .int l1)]) E dX12_wipe_22 2 rfl (by decide) (by decide) (fun _ => rfl) h (fun v1 h => ?_)
    refine zj_goto (tgt := 2) E dX12_wipe_25 (by decide) ?_
    have e9 := Option.some.inj h
    subst e9
    refine zj_lv [1, 2, 0] rfl ?_
    exact K
def fX12_wipe (σ : zS) (p0 : Nat) (p1 : Int32) : Option zS := oB (zloop zF (fun x => bX12_wipe_2 p0 p1 x.1 x.2) (0, σ)) (fun b1 => (fun σ2 => some σ2) b1)
set_option maxRecDepth 100000 in
theorem wX12_wipe {Γ : zG} (E : zE Γ cX12_wipe RX12 3 { frames := 0, cells := 0, slots := 0, locals := 0 }) (σ : zS) (p0 : Nat) (p1 : Int32) {R : zS} (h : fX12_wipe σ p0 p1 = some R) (K : zRet Γ cX12_wipe 3 0 0 (none) R) : zJ Γ 3 0 0 σ 0 [(0, .ref p0), (1, .int p1)] [] := by
  unfold fX12_wipe at h
  refine zj_iconst (v := 0) E dX12_wipe_0 (by decide) ?_
  refine zj_istore_n (lv2 := [(2, .int 0), (0, .ref p0), (1, .int p1)]) E dX12_wipe_1 rfl (by decide) rfl ?_
  obtain ⟨b1, hb1, h⟩ := oB_some h
  refine zj_lv [1, 2, 0] rfl ?_
  refine zj_loop (wX12_wipe_L2 E p0 p1) zF (0, σ) b1 hb1 ?_
  obtain ⟨σ2, rfl⟩ : ∃ z, z = b1 := ⟨_, rfl⟩
  try dsimp only at h
  show zJ Γ 3 0 0 σ2 28 [] []
  have e9 := Option.some.inj h
  subst e9
  exact (show zRet Γ cX12_wipe 3 0 0 (none) σ2 from K) _ _ dX12_wipe_28
set_option maxRecDepth 100000 in
theorem kX12_wipe (l : Launch) (D : va_G) (cs : zCs) (z0 : Nat) (σ : zS) {p0 : Nat} {p1 : Int32}  {σ' : zS} (h : fX12_wipe σ p0 p1 = some σ') : zM l D cs z0 yX12_wipe cX12_wipe 3 none { frames := 0, cells := 0, slots := 0, locals := 0 } [.ref p0, .int p1] σ none σ' 0 0 := by
  exact zM_of (by decide) rfl rfl (Nat.le_of_ble_eq_true rfl) rfl (fun Γ e1 e2 e3 e4 E hN K => wX12_wipe E σ _ _ h K)
/-! X12_begin -/
def fX12_begin (σ : zS) (p0 : Nat) (p1 : Int32) (p2 : Int32) (p3 : Int32) : Option (Int32 × zS) := oPI σ 12 p0 0 0 (fun σ1 => (if p1 < (1 : Int32) then some ((-12 : Int32), σ1) else (if (16 : Int32) < p1 then some ((-12 : Int32), σ1) else (if p2 < (1 : Int32) then some ((-12 : Int32), σ1) else (if (16 : Int32) < p2 then some ((-12 : Int32), σ1) else (if 0 ≤ p3 then oGR σ1 12 p0 4 (fun a1 => oSt σ1 21 a1 0 1 (fun σ2 => oGR σ2 12 p0 4 (fun a2 => oSt σ2 21 a2 1 p1 (fun σ3 => oGR σ3 12 p0 4 (fun a3 => oSt σ3 21 a3 2 p2 (fun σ4 => oGR σ4 12 p0 4 (fun a4 => oSt σ4 21 a4 3 p3 (fun σ5 => oGR σ5 12 p0 4 (fun a5 => oSt σ5 21 a5 4 0 (fun σ6 => oGR σ6 12 p0 4 (fun a6 => oSt σ6 21 a6 5 0 (fun σ7 => oA (zk σ7 p0 = 12) (oB (fX12_wipe σ7 p0 8) (fun σ8 => oPZ σ8 12 p0 7 0 (fun σ9 => some (1, σ9)))))))))))))))) else some ((-12 : Int32), σ1)))))))
set_option maxRecDepth 100000 in
theorem wX12_begin {Γ : zG} (E : zE Γ cX12_begin RX12 4 { frames := 1, cells := 0, slots := 0, locals := 22 }) (σ : zS) (p0 : Nat) (p1 : Int32) (p2 : Int32) (p3 : Int32) {R : (Int32 × zS)} (h : fX12_begin σ p0 p1 p2 p3 = some R) (K : zRet Γ cX12_begin 4 0 0 (some (.int R.1)) R.2) : zJ Γ 4 0 0 σ 0 [(0, .ref p0), (1, .int p1), (2, .int p2), (3, .int p3)] [] := by
  unfold fX12_begin at h
  refine zj_aload_n E dX12_begin_0 rfl 0 rfl ?_
  refine zj_iconst (v := 0) E dX12_begin_1 (by decide) ?_
  refine zs_putI E zc11 0 (by decide) zw_7_9 rfl rfl dX12_begin_2 h (fun σ1 h => ?_)
  refine zj_iload_n E dX12_begin_5 rfl 1 rfl ?_
  refine zj_iconst (v := 1) E dX12_begin_6 (by decide) ?_
  refine zj_icmp_lt (tgt := 31) E dX12_begin_7 (by decide) h (fun h => ?_) (fun h => ?_)
  · refine zj_bipush (v := (-12 : Int32)) E dX12_begin_31 (by decide) ?_
    have e9 := Option.some.inj h
    subst e9
    exact (show zRet Γ cX12_begin 4 0 0 (some (.int (-12 : Int32))) σ1 from K) _ _ dX12_begin_33
  · refine zj_iload_n E dX12_begin_10 rfl 1 rfl ?_
    refine zj_bipush (v := 16) E dX12_begin_11 (by decide) ?_
    refine zj_icmp_gt (tgt := 31) E dX12_begin_13 (by decide) h (fun h => ?_) (fun h => ?_)
    · refine zj_bipush (v := (-12 : Int32)) E dX12_begin_31 (by decide) ?_
      have e9 := Option.some.inj h
      subst e9
      exact (show zRet Γ cX12_begin 4 0 0 (some (.int (-12 : Int32))) σ1 from K) _ _ dX12_begin_33
    · refine zj_iload_n E dX12_begin_16 rfl 2 rfl ?_
      refine zj_iconst (v := 1) E dX12_begin_17 (by decide) ?_
      refine zj_icmp_lt (tgt := 31) E dX12_begin_18 (by decide) h (fun h => ?_) (fun h => ?_)
      · refine zj_bipush (v := (-12 : Int32)) E dX12_begin_31 (by decide) ?_
        have e9 := Option.some.inj h
        subst e9
        exact (show zRet Γ cX12_begin 4 0 0 (some (.int (-12 : Int32))) σ1 from K) _ _ dX12_begin_33
      · refine zj_iload_n E dX12_begin_21 rfl 2 rfl ?_
        refine zj_bipush (v := 16) E dX12_begin_22 (by decide) ?_
        refine zj_icmp_gt (tgt := 31) E dX12_begin_24 (by decide) h (fun h => ?_) (fun h => ?_)
        · refine zj_bipush (v := (-12 : Int32)) E dX12_begin_31 (by decide) ?_
          have e9 := Option.some.inj h
          subst e9
          exact (show zRet Γ cX12_begin 4 0 0 (some (.int (-12 : Int32))) σ1 from K) _ _ dX12_begin_33
        · refine zj_iload_n E dX12_begin_27 rfl 3 rfl ?_
          refine zj_if_ge (tgt := 34) E dX12_begin_28 (by decide) h (fun h => ?_) (fun h => ?_)
          · refine zj_aload_n E dX12_begin_34 rfl 0 rfl ?_
            refine zs_getR E zc11 4 (by decide) zw_6_5 rfl dX12_begin_35 h (fun a1 h => ?_)
            refine zj_iconst (v := 0) E dX12_begin_38 (by decide) ?_
            refine zj_iconst (v := 1) E dX12_begin_39 (by decide) ?_
            refine zs_iast E dX12_begin_40 h (fun σ2 h => ?_)
            refine zj_aload_n E dX12_begin_41 rfl 0 rfl ?_
            refine zs_getR E zc11 4 (by decide) zw_6_5 rfl dX12_begin_42 h (fun a2 h => ?_)
            refine zj_iconst (v := 1) E dX12_begin_45 (by decide) ?_
            refine zj_iload_n E dX12_begin_46 rfl 1 rfl ?_
            refine zs_iast E dX12_begin_47 h (fun σ3 h => ?_)
            refine zj_aload_n E dX12_begin_48 rfl 0 rfl ?_
            refine zs_getR E zc11 4 (by decide) zw_6_5 rfl dX12_begin_49 h (fun a3 h => ?_)
            refine zj_iconst (v := 2) E dX12_begin_52 (by decide) ?_
            refine zj_iload_n E dX12_begin_53 rfl 2 rfl ?_
            refine zs_iast E dX12_begin_54 h (fun σ4 h => ?_)
            refine zj_aload_n E dX12_begin_55 rfl 0 rfl ?_
            refine zs_getR E zc11 4 (by decide) zw_6_5 rfl dX12_begin_56 h (fun a4 h => ?_)
            refine zj_iconst (v := 3) E dX12_begin_59 (by decide) ?_
            refine zj_iload_n E dX12_begin_60 rfl 3 rfl ?_
            refine zs_iast E dX12_begin_61 h (fun σ5 h => ?_)
            refine zj_aload_n E dX12_begin_62 rfl 0 rfl ?_
            refine zs_getR E zc11 4 (by decide) zw_6_5 rfl dX12_begin_63 h (fun a5 h => ?_)
            refine zj_iconst (v := 4) E dX12_begin_66 (by decide) ?_
            refine zj_iconst (v := 0) E dX12_begin_67 (by decide) ?_
            refine zs_iast E dX12_begin_68 h (fun σ6 h => ?_)
            refine zj_aload_n E dX12_begin_69 rfl 0 rfl ?_
            refine zs_getR E zc11 4 (by decide) zw_6_5 rfl dX12_begin_70 h (fun a6 h => ?_)
            refine zj_iconst (v := 5) E dX12_begin_73 (by decide) ?_
            refine zj_iconst (v := 0) E dX12_begin_74 (by decide) ?_
            refine zs_iast E dX12_begin_75 h (fun σ7 h => ?_)
            refine zj_aload_n E dX12_begin_76 rfl 0 rfl ?_
            refine zj_bipush (v := 8) E dX12_begin_77 (by decide) ?_
            obtain ⟨hk, h⟩ := oA_some h
            obtain ⟨σ8, hc, h⟩ := oB_some h
            refine zs_callV (As := [.int 8]) (rest := []) E zc11 zyX12_wipe zw_24_17 (kX12_wipe _ _ _ _ _ hc) rfl rfl hk rfl ⟨by decide, by decide⟩ ⟨by decide, by decide⟩ (Nat.le_of_ble_eq_true rfl) dX12_begin_79 rfl (show zJ Γ 4 0 0 σ8 82 [(0, .ref p0), (1, .int p1), (2, .int p2), (3, .int p3)] [] from ?_)
            refine zj_aload_n E dX12_begin_82 rfl 0 rfl ?_
            refine zj_iconst (v := 0) E dX12_begin_83 (by decide) ?_
            refine zs_putZ E zc11 7 (by decide) zw_17_18 rfl rfl dX12_begin_84 h (fun σ9 h => ?_)
            refine zj_iconst (v := 1) E dX12_begin_87 (by decide) ?_
            have e9 := Option.some.inj h
            subst e9
            exact (show zRet Γ cX12_begin 4 0 0 (some (.int 1)) σ9 from K) _ _ dX12_begin_88
          · refine zj_bipush (v := (-12 : Int32)) E dX12_begin_31 (by decide) ?_
            have e9 := Option.some.inj h
            subst e9
            exact (show zRet Γ cX12_begin 4 0 0 (some (.int (-12 : Int32))) σ1 from K) _ _ dX12_begin_33
set_option maxRecDepth 100000 in
theorem kX12_begin (l : Launch) (D : va_G) (cs : zCs) (z0 : Nat) (σ : zS) {p0 : Nat} {p1 : Int32} {p2 : Int32} {p3 : Int32} {r : Int32} {σ' : zS} (h : fX12_begin σ p0 p1 p2 p3 = some (r, σ')) : zM l D cs z0 yX12_begin cX12_begin 4 (some .int) { frames := 1, cells := 0, slots := 0, locals := 22 } [.ref p0, .int p1, .int p2, .int p3] σ (some (.int r)) σ' 0 0 := by
  exact zM_of (by decide) rfl (Or.inl rfl) (Nat.le_of_ble_eq_true rfl) rfl (fun Γ e1 e2 e3 e4 E hN K => wX12_begin E σ _ _ _ _ h K)
/-! X12_frame -/
def fX12_frame (σ : zS) (p0 : Nat) (p1 : Int32) (p2 : Int32) (p3 : Int32) (p4 : Int32) (p5 : Int32) (p6 : Int32) : Option (Int32 × zS) := oPI σ 12 p0 0 0 (fun σ1 => oGR σ1 12 p0 4 (fun a1 => oLd σ1 21 a1 0 (fun x1 => (if x1 = 0 then some ((-13 : Int32), σ1) else oA (zk σ1 p0 = 12) (oB (fX12_isRegion σ1 p0 0 p1 p2 p3 p4) (fun x2 => (if x2 = 0 then some ((-12 : Int32), σ1) else (if p5 < 0 then some ((-12 : Int32), σ1) else (if (2 : Int32) < p5 then some ((-12 : Int32), σ1) else (if p6 < 0 then some ((-12 : Int32), σ1) else (if p6 ≤ (1 : Int32) then oGR σ1 12 p0 4 (fun a2 => oLd σ1 21 a2 4 (fun x3 => (if x3 = (8 : Int32) then some ((-14 : Int32), σ1) else oGR σ1 12 p0 4 (fun a3 => oLd σ1 21 a3 4 (fun x4 => oA (zk σ1 p0 = 12) (oB (fX12_setRegion σ1 p0 0 x4 p1 p2 p3 p4 p5 p6) (fun σ2 => oGR σ2 12 p0 4 (fun a4 => oLd σ2 21 a4 4 (fun x5 => oA (zk σ2 p0 = 12) (oB (fX12_wipe σ2 p0 x5) (fun σ3 => oGR σ3 12 p0 4 (fun a5 => oLd σ3 21 a5 4 (fun x6 => oSt σ3 21 a5 4 (x6 + (1 : Int32)) (fun σ4 => oPZ σ4 12 p0 7 0 (fun σ5 => oGR σ5 12 p0 4 (fun a6 => oLd σ5 21 a6 4 (fun x7 => some (x7, σ5)))))))))))))))))) else some ((-12 : Int32), σ1))))))))))))
set_option maxRecDepth 100000 in
theorem wX12_frame {Γ : zG} (E : zE Γ cX12_frame RX12 7 { frames := 1, cells := 0, slots := 0, locals := 29 }) (σ : zS) (p0 : Nat) (p1 : Int32) (p2 : Int32) (p3 : Int32) (p4 : Int32) (p5 : Int32) (p6 : Int32) {R : (Int32 × zS)} (h : fX12_frame σ p0 p1 p2 p3 p4 p5 p6 = some R) (K : zRet Γ cX12_frame 7 0 0 (some (.int R.1)) R.2) : zJ Γ 7 0 0 σ 0 [(0, .ref p0), (1, .int p1), (2, .int p2), (3, .int p3), (4, .int p4), (5, .int p5), (6, .int p6)] [] := by
  unfold fX12_frame at h
  refine zj_aload_n E dX12_frame_0 rfl 0 rfl ?_
  refine zj_iconst (v := 0) E dX12_frame_1 (by decide) ?_
  refine zs_putI E zc11 0 (by decide) zw_7_9 rfl rfl dX12_frame_2 h (fun σ1 h => ?_)
  refine zj_aload_n E dX12_frame_5 rfl 0 rfl ?_
  refine zs_getR E zc11 4 (by decide) zw_6_5 rfl dX12_frame_6 h (fun a1 h => ?_)
  refine zj_iconst (v := 0) E dX12_frame_9 (by decide) ?_
  refine zs_iald E dX12_frame_10 h (fun x1 h => ?_)
  refine zj_if_ne (tgt := 17) E dX12_frame_11 (by decide) h (fun h => ?_) (fun h => ?_)
  · refine zj_aload_n E dX12_frame_17 rfl 0 rfl ?_
    refine zj_iconst (v := 0) E dX12_frame_18 (by decide) ?_
    refine zj_iload_n E dX12_frame_19 rfl 1 rfl ?_
    refine zj_iload_n E dX12_frame_20 rfl 2 rfl ?_
    refine zj_iload_n E dX12_frame_21 rfl 3 rfl ?_
    refine zj_iload E dX12_frame_22 4 rfl ?_
    obtain ⟨hk, h⟩ := oA_some h
    obtain ⟨x2, hc, h⟩ := oB_some h
    refine zs_callV (As := [.int 0, .int p1, .int p2, .int p3, .int p4]) (rest := []) E zc11 zyX12_isRegion zw_23_8 (kX12_isRegion _ _ _ _ _ hc) rfl rfl hk rfl ⟨by decide, by decide⟩ ⟨by decide, by decide⟩ (Nat.le_of_ble_eq_true rfl) dX12_frame_24 rfl (show zJ Γ 7 0 0 σ1 27 [(0, .ref p0), (1, .int p1), (2, .int p2), (3, .int p3), (4, .int p4), (5, .int p5), (6, .int p6)] [.int x2] from ?_)
    refine zj_if_eq (tgt := 52) E dX12_frame_27 (by decide) h (fun h => ?_) (fun h => ?_)
    · refine zj_bipush (v := (-12 : Int32)) E dX12_frame_52 (by decide) ?_
      have e9 := Option.some.inj h
      subst e9
      exact (show zRet Γ cX12_frame 7 0 0 (some (.int (-12 : Int32))) σ1 from K) _ _ dX12_frame_54
    · refine zj_iload E dX12_frame_30 5 rfl ?_
      refine zj_if_lt (tgt := 52) E dX12_frame_32 (by decide) h (fun h => ?_) (fun h => ?_)
      · refine zj_bipush (v := (-12 : Int32)) E dX12_frame_52 (by decide) ?_
        have e9 := Option.some.inj h
        subst e9
        exact (show zRet Γ cX12_frame 7 0 0 (some (.int (-12 : Int32))) σ1 from K) _ _ dX12_frame_54
      · refine zj_iload E dX12_frame_35 5 rfl ?_
        refine zj_iconst (v := 2) E dX12_frame_37 (by decide) ?_
        refine zj_icmp_gt (tgt := 52) E dX12_frame_38 (by decide) h (fun h => ?_) (fun h => ?_)
        · refine zj_bipush (v := (-12 : Int32)) E dX12_frame_52 (by decide) ?_
          have e9 := Option.some.inj h
          subst e9
          exact (show zRet Γ cX12_frame 7 0 0 (some (.int (-12 : Int32))) σ1 from K) _ _ dX12_frame_54
        · refine zj_iload E dX12_frame_41 6 rfl ?_
          refine zj_if_lt (tgt := 52) E dX12_frame_43 (by decide) h (fun h => ?_) (fun h => ?_)
          · refine zj_bipush (v := (-12 : Int32)) E dX12_frame_52 (by decide) ?_
            have e9 := Option.some.inj h
            subst e9
            exact (show zRet Γ cX12_frame 7 0 0 (some (.int (-12 : Int32))) σ1 from K) _ _ dX12_frame_54
          · refine zj_iload E dX12_frame_46 6 rfl ?_
            refine zj_iconst (v := 1) E dX12_frame_48 (by decide) ?_
            refine zj_icmp_le (tgt := 55) E dX12_frame_49 (by decide) h (fun h => ?_) (fun h => ?_)
            · refine zj_aload_n E dX12_frame_55 rfl 0 rfl ?_
              refine zs_getR E zc11 4 (by decide) zw_6_5 rfl dX12_frame_56 h (fun a2 h => ?_)
              refine zj_iconst (v := 4) E dX12_frame_59 (by decide) ?_
              refine zs_iald E dX12_frame_60 h (fun x3 h => ?_)
              refine zj_bipush (v := 8) E dX12_frame_61 (by decide) ?_
              refine zj_icmp_ne (tgt := 69) E dX12_frame_63 (by decide) h (fun h => ?_) (fun h => ?_)
              · refine zj_aload_n E dX12_frame_69 rfl 0 rfl ?_
                refine zj_iconst (v := 0) E dX12_frame_70 (by decide) ?_
                refine zj_aload_n E dX12_frame_71 rfl 0 rfl ?_
                refine zs_getR E zc11 4 (by decide) zw_6_5 rfl dX12_frame_72 h (fun a3 h => ?_)
                refine zj_iconst (v := 4) E dX12_frame_75 (by decide) ?_
                refine zs_iald E dX12_frame_76 h (fun x4 h => ?_)
                refine zj_iload_n E dX12_frame_77 rfl 1 rfl ?_
                refine zj_iload_n E dX12_frame_78 rfl 2 rfl ?_
                refine zj_iload_n E dX12_frame_79 rfl 3 rfl ?_
                refine zj_iload E dX12_frame_80 4 rfl ?_
                refine zj_iload E dX12_frame_82 5 rfl ?_
                refine zj_iload E dX12_frame_84 6 rfl ?_
                obtain ⟨hk, h⟩ := oA_some h
                obtain ⟨σ2, hc, h⟩ := oB_some h
                refine zs_callV (As := [.int 0, .int x4, .int p1, .int p2, .int p3, .int p4, .int p5, .int p6]) (rest := []) E zc11 zyX12_setRegion zw_23_12 (kX12_setRegion _ _ _ _ _ hc) rfl rfl hk rfl ⟨by decide, by decide⟩ ⟨by decide, by decide⟩ (Nat.le_of_ble_eq_true rfl) dX12_frame_86 rfl (show zJ Γ 7 0 0 σ2 89 [(0, .ref p0), (1, .int p1), (2, .int p2), (3, .int p3), (4, .int p4), (5, .int p5), (6, .int p6)] [] from ?_)
                refine zj_aload_n E dX12_frame_89 rfl 0 rfl ?_
                refine zj_aload_n E dX12_frame_90 rfl 0 rfl ?_
                refine zs_getR E zc11 4 (by decide) zw_6_5 rfl dX12_frame_91 h (fun a4 h => ?_)
                refine zj_iconst (v := 4) E dX12_frame_94 (by decide) ?_
                refine zs_iald E dX12_frame_95 h (fun x5 h => ?_)
                obtain ⟨hk, h⟩ := oA_some h
                obtain ⟨σ3, hc, h⟩ := oB_some h
                refine zs_callV (As := [.int x5]) (rest := []) E zc11 zyX12_wipe zw_24_17 (kX12_wipe _ _ _ _ _ hc) rfl rfl hk rfl ⟨by decide, by decide⟩ ⟨by decide, by decide⟩ (Nat.le_of_ble_eq_true rfl) dX12_frame_96 rfl (show zJ Γ 7 0 0 σ3 99 [(0, .ref p0), (1, .int p1), (2, .int p2), (3, .int p3), (4, .int p4), (5, .int p5), (6, .int p6)] [] from ?_)
                refine zj_aload_n E dX12_frame_99 rfl 0 rfl ?_
                refine zs_getR E zc11 4 (by decide) zw_6_5 rfl dX12_frame_100 h (fun a5 h => ?_)
                refine zj_iconst (v := 4) E dX12_frame_103 (by decide) ?_
                refine zj_dup2 E dX12_frame_104 rfl rfl ?_
                refine zs_iald E dX12_frame_105 h (fun x6 h => ?_)
                refine zj_iconst (v := 1) E dX12_frame_106 (by decide) ?_
                refine zj_iadd E dX12_frame_107 ?_
                refine zs_iast E dX12_frame_108 h (fun σ4 h => ?_)
                refine zj_aload_n E dX12_frame_109 rfl 0 rfl ?_
                refine zj_iconst (v := 0) E dX12_frame_110 (by decide) ?_
                refine zs_putZ E zc11 7 (by decide) zw_17_18 rfl rfl dX12_frame_111 h (fun σ5 h => ?_)
                refine zj_aload_n E dX12_frame_114 rfl 0 rfl ?_
                refine zs_getR E zc11 4 (by decide) zw_6_5 rfl dX12_frame_115 h (fun a6 h => ?_)
                refine zj_iconst (v := 4) E dX12_frame_118 (by decide) ?_
                refine zs_iald E dX12_frame_119 h (fun x7 h => ?_)
                have e9 := Option.some.inj h
                subst e9
                exact (show zRet Γ cX12_frame 7 0 0 (some (.int x7)) σ5 from K) _ _ dX12_frame_120
              · refine zj_bipush (v := (-14 : Int32)) E dX12_frame_66 (by decide) ?_
                have e9 := Option.some.inj h
                subst e9
                exact (show zRet Γ cX12_frame 7 0 0 (some (.int (-14 : Int32))) σ1 from K) _ _ dX12_frame_68
            · refine zj_bipush (v := (-12 : Int32)) E dX12_frame_52 (by decide) ?_
              have e9 := Option.some.inj h
              subst e9
              exact (show zRet Γ cX12_frame 7 0 0 (some (.int (-12 : Int32))) σ1 from K) _ _ dX12_frame_54
  · refine zj_bipush (v := (-13 : Int32)) E dX12_frame_14 (by decide) ?_
    have e9 := Option.some.inj h
    subst e9
    exact (show zRet Γ cX12_frame 7 0 0 (some (.int (-13 : Int32))) σ1 from K) _ _ dX12_frame_16
set_option maxRecDepth 100000 in
theorem kX12_frame (l : Launch) (D : va_G) (cs : zCs) (z0 : Nat) (σ : zS) {p0 : Nat} {p1 : Int32} {p2 : Int32} {p3 : Int32} {p4 : Int32} {p5 : Int32} {p6 : Int32} {r : Int32} {σ' : zS} (h : fX12_frame σ p0 p1 p2 p3 p4 p5 p6 = some (r, σ')) : zM l D cs z0 yX12_frame cX12_frame 7 (some .int) { frames := 1, cells := 0, slots := 0, locals := 29 } [.ref p0, .int p1, .int p2, .int p3, .int p4, .int p5, .int p6] σ (some (.int r)) σ' 0 0 := by
  exact zM_of (by decide) rfl (Or.inl rfl) (Nat.le_of_ble_eq_true rfl) rfl (fun Γ e1 e2 e3 e4 E hN K => wX12_frame E σ _ _ _ _ _ _ _ h K)
/-! X12_paint -/
def fX12_paint_145 (σ : zS) (l0 : Nat) (l2 : Int32) (l3 : Int32) (l4 : Int32) (l6 : Int32) (s0 : Int32) (s1 : Int32) (s2 : Nat) : Option (Int32 × zS) := oSt σ 21 s2 (((s1 * s0) + (l6 * l3)) + l2) l4 (fun σ2 => oPZ σ2 12 l0 7 0 (fun σ3 => some (1, σ3)))
set_option maxRecDepth 100000 in
theorem wX12_paint_145 {Γ : zG} (E : zE Γ cX12_paint RX12 8 { frames := 1, cells := 0, slots := 0, locals := 23 }) (σ : zS) (l0 : Nat) (l2 : Int32) (l3 : Int32) (l4 : Int32) (l6 : Int32) (s0 : Int32) (s1 : Int32) (s2 : Nat) {R : (Int32 × zS)} (h : fX12_paint_145 σ l0 l2 l3 l4 l6 s0 s1 s2 = some R) (K : zRet Γ cX12_paint 8 0 0 (some (.int R.1)) R.2) : zJ Γ 8 0 0 σ 145 [(0, .ref l0), (2, .int l2), (3, .int l3), (4, .int l4), (6, .int l6)] [.int s0, .int s1, .ref s2] := by
  unfold fX12_paint_145 at h
  refine zj_imul E dX12_paint_145 ?_
  refine zj_iload E dX12_paint_146 4 rfl ?_
  refine zj_iload_n E dX12_paint_148 rfl 2 rfl ?_
  refine zj_imul E dX12_paint_149 ?_
  refine zj_iadd E dX12_paint_150 ?_
  refine zj_iload_n E dX12_paint_151 rfl 1 rfl ?_
  refine zj_iadd E dX12_paint_152 ?_
  refine zj_iload E dX12_paint_153 3 rfl ?_
  refine zs_iast E dX12_paint_155 h (fun σ2 h => ?_)
  refine zj_aload_n E dX12_paint_156 rfl 0 rfl ?_
  refine zj_iconst (v := 0) E dX12_paint_157 (by decide) ?_
  refine zs_putZ E zc11 7 (by decide) zw_17_18 rfl rfl dX12_paint_158 h (fun σ3 h => ?_)
  refine zj_iconst (v := 1) E dX12_paint_161 (by decide) ?_
  have e9 := Option.some.inj h
  subst e9
  exact (show zRet Γ cX12_paint 8 0 0 (some (.int 1)) σ3 from K) _ _ dX12_paint_162
def fX12_paint_102 (σ : zS) (l0 : Nat) (l1 : Int32) (l2 : Int32) (l3 : Int32) (l4 : Int32) (l5 : Int32) (l6 : Int32) (s0 : Int32) : Option (Int32 × zS) := (if l2 < 0 then some ((-12 : Int32), σ) else (if l6 ≤ l2 then some ((-12 : Int32), σ) else (if l3 < 0 then some ((-12 : Int32), σ) else (if l3 < s0 then oGR σ 12 l0 6 (fun a1 => (if l5 = 0 then fX12_paint_145 σ l0 l2 l3 l4 l6 l1 256 a1 else fX12_paint_145 σ l0 l2 l3 l4 l6 8 256 a1)) else some ((-12 : Int32), σ)))))
set_option maxRecDepth 100000 in
theorem wX12_paint_102 {Γ : zG} (E : zE Γ cX12_paint RX12 8 { frames := 1, cells := 0, slots := 0, locals := 23 }) (σ : zS) (l0 : Nat) (l1 : Int32) (l2 : Int32) (l3 : Int32) (l4 : Int32) (l5 : Int32) (l6 : Int32) (s0 : Int32) {R : (Int32 × zS)} (h : fX12_paint_102 σ l0 l1 l2 l3 l4 l5 l6 s0 = some R) (K : zRet Γ cX12_paint 8 0 0 (some (.int R.1)) R.2) : zJ Γ 8 0 0 σ 102 [(0, .ref l0), (1, .int l1), (2, .int l2), (3, .int l3), (4, .int l4), (5, .int l5), (6, .int l6)] [.int s0] := by
  unfold fX12_paint_102 at h
  refine zj_istore (lv2 := [(7, .int s0), (0, .ref l0), (1, .int l1), (2, .int l2), (3, .int l3), (4, .int l4), (5, .int l5), (6, .int l6)]) E dX12_paint_102 (by decide) rfl ?_
  refine zj_iload_n E dX12_paint_104 rfl 3 rfl ?_
  refine zj_if_lt (tgt := 124) E dX12_paint_105 (by decide) h (fun h => ?_) (fun h => ?_)
  · refine zj_bipush (v := (-12 : Int32)) E dX12_paint_124 (by decide) ?_
    have e9 := Option.some.inj h
    subst e9
    exact (show zRet Γ cX12_paint 8 0 0 (some (.int (-12 : Int32))) σ from K) _ _ dX12_paint_126
  · refine zj_iload_n E dX12_paint_108 rfl 3 rfl ?_
    refine zj_iload E dX12_paint_109 7 rfl ?_
    refine zj_icmp_ge (tgt := 124) E dX12_paint_111 (by decide) h (fun h => ?_) (fun h => ?_)
    · refine zj_bipush (v := (-12 : Int32)) E dX12_paint_124 (by decide) ?_
      have e9 := Option.some.inj h
      subst e9
      exact (show zRet Γ cX12_paint 8 0 0 (some (.int (-12 : Int32))) σ from K) _ _ dX12_paint_126
    · refine zj_iload_n E dX12_paint_114 rfl 4 rfl ?_
      refine zj_if_lt (tgt := 124) E dX12_paint_115 (by decide) h (fun h => ?_) (fun h => ?_)
      · refine zj_bipush (v := (-12 : Int32)) E dX12_paint_124 (by decide) ?_
        have e9 := Option.some.inj h
        subst e9
        exact (show zRet Γ cX12_paint 8 0 0 (some (.int (-12 : Int32))) σ from K) _ _ dX12_paint_126
      · refine zj_iload_n E dX12_paint_118 rfl 4 rfl ?_
        refine zj_iload E dX12_paint_119 0 rfl ?_
        refine zj_icmp_lt (tgt := 127) E dX12_paint_121 (by decide) h (fun h => ?_) (fun h => ?_)
        · refine zj_aload_n E dX12_paint_127 rfl 1 rfl ?_
          refine zs_getR E zc11 6 (by decide) zw_6_7 rfl dX12_paint_128 h (fun a1 h => ?_)
          refine zj_sipush (v := 256) E dX12_paint_131 (by decide) ?_
          refine zj_iload E dX12_paint_134 6 rfl ?_
          refine zj_if_eq (tgt := 144) E dX12_paint_136 (by decide) h (fun h => ?_) (fun h => ?_)
          · refine zj_iload_n E dX12_paint_144 rfl 2 rfl ?_
            refine zj_lv [1, 3, 4, 5, 7] rfl ?_
            exact wX12_paint_145 E _ _ _ _ _ _ _ _ _ h K
          · refine zj_bipush (v := 8) E dX12_paint_139 (by decide) ?_
            refine zj_goto (tgt := 145) E dX12_paint_141 (by decide) ?_
            refine zj_lv [1, 3, 4, 5, 7] rfl ?_
            exact wX12_paint_145 E _ _ _ _ _ _ _ _ _ h K
        · refine zj_bipush (v := (-12 : Int32)) E dX12_paint_124 (by decide) ?_
          have e9 := Option.some.inj h
          subst e9
          exact (show zRet Γ cX12_paint 8 0 0 (some (.int (-12 : Int32))) σ from K) _ _ dX12_paint_126
def fX12_paint_79 (σ : zS) (l0 : Nat) (l1 : Int32) (l2 : Int32) (l3 : Int32) (l4 : Int32) (l5 : Int32) (s0 : Int32) : Option (Int32 × zS) := (if l5 = 0 then oA (zk σ l0 = 12) (oB (fX12_region σ l0 0 l1 1) (fun x2 => fX12_paint_102 σ l0 l1 l2 l3 l4 l5 s0 x2)) else oGR σ 12 l0 4 (fun a2 => oLd σ 21 a2 2 (fun x3 => fX12_paint_102 σ l0 l1 l2 l3 l4 l5 s0 x3)))
set_option maxRecDepth 100000 in
theorem wX12_paint_79 {Γ : zG} (E : zE Γ cX12_paint RX12 8 { frames := 1, cells := 0, slots := 0, locals := 23 }) (σ : zS) (l0 : Nat) (l1 : Int32) (l2 : Int32) (l3 : Int32) (l4 : Int32) (l5 : Int32) (s0 : Int32) {R : (Int32 × zS)} (h : fX12_paint_79 σ l0 l1 l2 l3 l4 l5 s0 = some R) (K : zRet Γ cX12_paint 8 0 0 (some (.int R.1)) R.2) : zJ Γ 8 0 0 σ 79 [(0, .ref l0), (1, .int l1), (2, .int l2), (3, .int l3), (4, .int l4), (5, .int l5)] [.int s0] := by
  unfold fX12_paint_79 at h
  refine zj_istore (lv2 := [(6, .int s0), (0, .ref l0), (1, .int l1), (2, .int l2), (3, .int l3), (4, .int l4), (5, .int l5)]) E dX12_paint_79 (by decide) rfl ?_
  refine zj_iload E dX12_paint_81 6 rfl ?_
  refine zj_if_eq (tgt := 95) E dX12_paint_83 (by decide) h (fun h => ?_) (fun h => ?_)
  · refine zj_aload_n E dX12_paint_95 rfl 1 rfl ?_
    refine zj_iconst (v := 0) E dX12_paint_96 (by decide) ?_
    refine zj_iload_n E dX12_paint_97 rfl 2 rfl ?_
    refine zj_iconst (v := 1) E dX12_paint_98 (by decide) ?_
    obtain ⟨hk, h⟩ := oA_some h
    obtain ⟨x2, hc, h⟩ := oB_some h
    refine zs_callV (As := [.int 0, .int l1, .int 1]) (rest := []) E zc11 zyX12_region zw_22_1 (kX12_region _ _ _ _ _ hc) rfl rfl hk rfl ⟨by decide, by decide⟩ ⟨by decide, by decide⟩ (Nat.le_of_ble_eq_true rfl) dX12_paint_99 rfl (show zJ Γ 8 0 0 σ 102 [(6, .int s0), (0, .ref l0), (1, .int l1), (2, .int l2), (3, .int l3), (4, .int l4), (5, .int l5)] [.int x2] from ?_)
    refine zj_lv [1, 2, 3, 4, 5, 6, 0] rfl ?_
    exact wX12_paint_102 E _ _ _ _ _ _ _ _ _ h K
  · refine zj_aload_n E dX12_paint_86 rfl 1 rfl ?_
    refine zs_getR E zc11 4 (by decide) zw_6_5 rfl dX12_paint_87 h (fun a2 h => ?_)
    refine zj_iconst (v := 2) E dX12_paint_90 (by decide) ?_
    refine zs_iald E dX12_paint_91 h (fun x3 h => ?_)
    refine zj_goto (tgt := 102) E dX12_paint_92 (by decide) ?_
    refine zj_lv [1, 2, 3, 4, 5, 6, 0] rfl ?_
    exact wX12_paint_102 E _ _ _ _ _ _ _ _ _ h K
def fX12_paint_58 (σ : zS) (l0 : Nat) (l1 : Int32) (l2 : Int32) (l3 : Int32) (l4 : Int32) (l5 : Int32) : Option (Int32 × zS) := (if l5 = 0 then oA (zk σ l0 = 12) (oB (fX12_region σ l0 0 l1 0) (fun x1 => fX12_paint_79 σ l0 l1 l2 l3 l4 l5 x1)) else oGR σ 12 l0 4 (fun a3 => oLd σ 21 a3 1 (fun x4 => fX12_paint_79 σ l0 l1 l2 l3 l4 l5 x4)))
set_option maxRecDepth 100000 in
theorem wX12_paint_58 {Γ : zG} (E : zE Γ cX12_paint RX12 8 { frames := 1, cells := 0, slots := 0, locals := 23 }) (σ : zS) (l0 : Nat) (l1 : Int32) (l2 : Int32) (l3 : Int32) (l4 : Int32) (l5 : Int32) {R : (Int32 × zS)} (h : fX12_paint_58 σ l0 l1 l2 l3 l4 l5 = some R) (K : zRet Γ cX12_paint 8 0 0 (some (.int R.1)) R.2) : zJ Γ 8 0 0 σ 58 [(0, .ref l0), (1, .int l1), (2, .int l2), (3, .int l3), (4, .int l4), (5, .int l5)] [] := by
  unfold fX12_paint_58 at h
  refine zj_iload E dX12_paint_58 5 rfl ?_
  refine zj_if_eq (tgt := 72) E dX12_paint_60 (by decide) h (fun h => ?_) (fun h => ?_)
  · refine zj_aload_n E dX12_paint_72 rfl 0 rfl ?_
    refine zj_iconst (v := 0) E dX12_paint_73 (by decide) ?_
    refine zj_iload_n E dX12_paint_74 rfl 1 rfl ?_
    refine zj_iconst (v := 0) E dX12_paint_75 (by decide) ?_
    obtain ⟨hk, h⟩ := oA_some h
    obtain ⟨x1, hc, h⟩ := oB_some h
    refine zs_callV (As := [.int 0, .int l1, .int 0]) (rest := []) E zc11 zyX12_region zw_22_1 (kX12_region _ _ _ _ _ hc) rfl rfl hk rfl ⟨by decide, by decide⟩ ⟨by decide, by decide⟩ (Nat.le_of_ble_eq_true rfl) dX12_paint_76 rfl (show zJ Γ 8 0 0 σ 79 [(0, .ref l0), (1, .int l1), (2, .int l2), (3, .int l3), (4, .int l4), (5, .int l5)] [.int x1] from ?_)
    refine zj_lv [0, 1, 2, 3, 4, 5] rfl ?_
    exact wX12_paint_79 E _ _ _ _ _ _ _ _ h K
  · refine zj_aload_n E dX12_paint_63 rfl 0 rfl ?_
    refine zs_getR E zc11 4 (by decide) zw_6_5 rfl dX12_paint_64 h (fun a3 h => ?_)
    refine zj_iconst (v := 1) E dX12_paint_67 (by decide) ?_
    refine zs_iald E dX12_paint_68 h (fun x4 h => ?_)
    refine zj_goto (tgt := 79) E dX12_paint_69 (by decide) ?_
    refine zj_lv [0, 1, 2, 3, 4, 5] rfl ?_
    exact wX12_paint_79 E _ _ _ _ _ _ _ _ h K
def fX12_paint_34 (σ : zS) (l0 : Nat) (l1 : Int32) (l2 : Int32) (l3 : Int32) (l4 : Int32) (s0 : Int32) : Option (Int32 × zS) := (if s0 = 0 then (if l1 < 0 then some ((-11 : Int32), σ) else oGR σ 12 l0 4 (fun a4 => oLd σ 21 a4 4 (fun x5 => (if l1 < x5 then fX12_paint_58 σ l0 l1 l2 l3 l4 s0 else some ((-11 : Int32), σ))))) else fX12_paint_58 σ l0 l1 l2 l3 l4 s0)
set_option maxRecDepth 100000 in
theorem wX12_paint_34 {Γ : zG} (E : zE Γ cX12_paint RX12 8 { frames := 1, cells := 0, slots := 0, locals := 23 }) (σ : zS) (l0 : Nat) (l1 : Int32) (l2 : Int32) (l3 : Int32) (l4 : Int32) (s0 : Int32) {R : (Int32 × zS)} (h : fX12_paint_34 σ l0 l1 l2 l3 l4 s0 = some R) (K : zRet Γ cX12_paint 8 0 0 (some (.int R.1)) R.2) : zJ Γ 8 0 0 σ 34 [(0, .ref l0), (1, .int l1), (2, .int l2), (3, .int l3), (4, .int l4)] [.int s0] := by
  unfold fX12_paint_34 at h
  refine zj_istore (lv2 := [(5, .int s0), (0, .ref l0), (1, .int l1), (2, .int l2), (3, .int l3), (4, .int l4)]) E dX12_paint_34 (by decide) rfl ?_
  refine zj_iload E dX12_paint_36 0 rfl ?_
  refine zj_if_ne (tgt := 58) E dX12_paint_38 (by decide) h (fun h => ?_) (fun h => ?_)
  · refine zj_lv [1, 2, 3, 4, 5, 0] rfl ?_
    exact wX12_paint_58 E _ _ _ _ _ _ _ h K
  · refine zj_iload_n E dX12_paint_41 rfl 2 rfl ?_
    refine zj_if_lt (tgt := 55) E dX12_paint_42 (by decide) h (fun h => ?_) (fun h => ?_)
    · refine zj_bipush (v := (-11 : Int32)) E dX12_paint_55 (by decide) ?_
      have e9 := Option.some.inj h
      subst e9
      exact (show zRet Γ cX12_paint 8 0 0 (some (.int (-11 : Int32))) σ from K) _ _ dX12_paint_57
    · refine zj_iload_n E dX12_paint_45 rfl 2 rfl ?_
      refine zj_aload_n E dX12_paint_46 rfl 1 rfl ?_
      refine zs_getR E zc11 4 (by decide) zw_6_5 rfl dX12_paint_47 h (fun a4 h => ?_)
      refine zj_iconst (v := 4) E dX12_paint_50 (by decide) ?_
      refine zs_iald E dX12_paint_51 h (fun x5 h => ?_)
      refine zj_icmp_lt (tgt := 58) E dX12_paint_52 (by decide) h (fun h => ?_) (fun h => ?_)
      · refine zj_lv [1, 2, 3, 4, 5, 0] rfl ?_
        exact wX12_paint_58 E _ _ _ _ _ _ _ h K
      · refine zj_bipush (v := (-11 : Int32)) E dX12_paint_55 (by decide) ?_
        have e9 := Option.some.inj h
        subst e9
        exact (show zRet Γ cX12_paint 8 0 0 (some (.int (-11 : Int32))) σ from K) _ _ dX12_paint_57
def fX12_paint_33 (σ : zS) (l0 : Nat) (l1 : Int32) (l2 : Int32) (l3 : Int32) (l4 : Int32) : Option (Int32 × zS) := fX12_paint_34 σ l0 l1 l2 l3 l4 0
set_option maxRecDepth 100000 in
theorem wX12_paint_33 {Γ : zG} (E : zE Γ cX12_paint RX12 8 { frames := 1, cells := 0, slots := 0, locals := 23 }) (σ : zS) (l0 : Nat) (l1 : Int32) (l2 : Int32) (l3 : Int32) (l4 : Int32) {R : (Int32 × zS)} (h : fX12_paint_33 σ l0 l1 l2 l3 l4 = some R) (K : zRet Γ cX12_paint 8 0 0 (some (.int R.1)) R.2) : zJ Γ 8 0 0 σ 33 [(0, .ref l0), (1, .int l1), (2, .int l2), (3, .int l3), (4, .int l4)] [] := by
  unfold fX12_paint_33 at h
  refine zj_iconst (v := 0) E dX12_paint_33 (by decide) ?_
  refine zj_lv [0, 1, 2, 3, 4] rfl ?_
  exact wX12_paint_34 E _ _ _ _ _ _ _ h K
def fX12_paint (σ : zS) (p0 : Nat) (p1 : Int32) (p2 : Int32) (p3 : Int32) (p4 : Int32) : Option (Int32 × zS) := oPI σ 12 p0 0 0 (fun σ1 => (if p1 = (-1 : Int32) then oGR σ1 12 p0 4 (fun a5 => oLd σ1 21 a5 0 (fun x6 => (if x6 = (1 : Int32) then oGR σ1 12 p0 4 (fun a6 => oLd σ1 21 a6 5 (fun x7 => (if x7 = 0 then fX12_paint_34 σ1 p0 p1 p2 p3 p4 1 else fX12_paint_33 σ1 p0 p1 p2 p3 p4))) else fX12_paint_33 σ1 p0 p1 p2 p3 p4))) else fX12_paint_33 σ1 p0 p1 p2 p3 p4))
set_option maxRecDepth 100000 in
theorem wX12_paint {Γ : zG} (E : zE Γ cX12_paint RX12 8 { frames := 1, cells := 0, slots := 0, locals := 23 }) (σ : zS) (p0 : Nat) (p1 : Int32) (p2 : Int32) (p3 : Int32) (p4 : Int32) {R : (Int32 × zS)} (h : fX12_paint σ p0 p1 p2 p3 p4 = some R) (K : zRet Γ cX12_paint 8 0 0 (some (.int R.1)) R.2) : zJ Γ 8 0 0 σ 0 [(0, .ref p0), (1, .int p1), (2, .int p2), (3, .int p3), (4, .int p4)] [] := by
  unfold fX12_paint at h
  refine zj_aload_n E dX12_paint_0 rfl 0 rfl ?_
  refine zj_iconst (v := 0) E dX12_paint_1 (by decide) ?_
  refine zs_putI E zc11 0 (by decide) zw_7_9 rfl rfl dX12_paint_2 h (fun σ1 h => ?_)
  refine zj_iload_n E dX12_paint_5 rfl 1 rfl ?_
  refine zj_iconst (v := (-1 : Int32)) E dX12_paint_6 (by decide) ?_
  refine zj_icmp_ne (tgt := 33) E dX12_paint_7 (by decide) h (fun h => ?_) (fun h => ?_)
  · refine zj_lv [0, 1, 2, 3, 4] rfl ?_
    exact wX12_paint_33 E _ _ _ _ _ _ h K
  · refine zj_aload_n E dX12_paint_10 rfl 0 rfl ?_
    refine zs_getR E zc11 4 (by decide) zw_6_5 rfl dX12_paint_11 h (fun a5 h => ?_)
    refine zj_iconst (v := 0) E dX12_paint_14 (by decide) ?_
    refine zs_iald E dX12_paint_15 h (fun x6 h => ?_)
    refine zj_iconst (v := 1) E dX12_paint_16 (by decide) ?_
    refine zj_icmp_ne (tgt := 33) E dX12_paint_17 (by decide) h (fun h => ?_) (fun h => ?_)
    · refine zj_lv [0, 1, 2, 3, 4] rfl ?_
      exact wX12_paint_33 E _ _ _ _ _ _ h K
    · refine zj_aload_n E dX12_paint_20 rfl 0 rfl ?_
      refine zs_getR E zc11 4 (by decide) zw_6_5 rfl dX12_paint_21 h (fun a6 h => ?_)
      refine zj_iconst (v := 5) E dX12_paint_24 (by decide) ?_
      refine zs_iald E dX12_paint_25 h (fun x7 h => ?_)
      refine zj_if_ne (tgt := 33) E dX12_paint_26 (by decide) h (fun h => ?_) (fun h => ?_)
      · refine zj_lv [0, 1, 2, 3, 4] rfl ?_
        exact wX12_paint_33 E _ _ _ _ _ _ h K
      · refine zj_iconst (v := 1) E dX12_paint_29 (by decide) ?_
        refine zj_goto (tgt := 34) E dX12_paint_30 (by decide) ?_
        refine zj_lv [0, 1, 2, 3, 4] rfl ?_
        exact wX12_paint_34 E _ _ _ _ _ _ _ h K
set_option maxRecDepth 100000 in
theorem kX12_paint (l : Launch) (D : va_G) (cs : zCs) (z0 : Nat) (σ : zS) {p0 : Nat} {p1 : Int32} {p2 : Int32} {p3 : Int32} {p4 : Int32} {r : Int32} {σ' : zS} (h : fX12_paint σ p0 p1 p2 p3 p4 = some (r, σ')) : zM l D cs z0 yX12_paint cX12_paint 8 (some .int) { frames := 1, cells := 0, slots := 0, locals := 23 } [.ref p0, .int p1, .int p2, .int p3, .int p4] σ (some (.int r)) σ' 0 0 := by
  exact zM_of (by decide) rfl (Or.inl rfl) (Nat.le_of_ble_eq_true rfl) rfl (fun Γ e1 e2 e3 e4 E hN K => wX12_paint E σ _ _ _ _ _ h K)
/-! X12_first -/
def fX12_first_97 (σ : zS) (l0 : Nat) (s0 : Int32) (s1 : Int32) (s2 : Nat) : Option (Int32 × zS) := oSt σ 21 s2 s1 s0 (fun σ2 => oA (zk σ2 l0 = 12) (oB (fX12_wipe σ2 l0 8) (fun σ3 => oPZ σ3 12 l0 7 0 (fun σ4 => some (1, σ4)))))
set_option maxRecDepth 100000 in
theorem wX12_first_97 {Γ : zG} (E : zE Γ cX12_first RX12 2 { frames := 1, cells := 0, slots := 0, locals := 23 }) (σ : zS) (l0 : Nat) (s0 : Int32) (s1 : Int32) (s2 : Nat) {R : (Int32 × zS)} (h : fX12_first_97 σ l0 s0 s1 s2 = some R) (K : zRet Γ cX12_first 2 0 0 (some (.int R.1)) R.2) : zJ Γ 2 0 0 σ 97 [(0, .ref l0)] [.int s0, .int s1, .ref s2] := by
  unfold fX12_first_97 at h
  refine zs_iast E dX12_first_97 h (fun σ2 h => ?_)
  refine zj_aload_n E dX12_first_98 rfl 0 rfl ?_
  refine zj_bipush (v := 8) E dX12_first_99 (by decide) ?_
  obtain ⟨hk, h⟩ := oA_some h
  obtain ⟨σ3, hc, h⟩ := oB_some h
  refine zs_callV (As := [.int 8]) (rest := []) E zc11 zyX12_wipe zw_24_17 (kX12_wipe _ _ _ _ _ hc) rfl rfl hk rfl ⟨by decide, by decide⟩ ⟨by decide, by decide⟩ (Nat.le_of_ble_eq_true rfl) dX12_first_101 rfl (show zJ Γ 2 0 0 σ3 104 [(0, .ref l0)] [] from ?_)
  refine zj_aload_n E dX12_first_104 rfl 0 rfl ?_
  refine zj_iconst (v := 0) E dX12_first_105 (by decide) ?_
  refine zs_putZ E zc11 7 (by decide) zw_17_18 rfl rfl dX12_first_106 h (fun σ4 h => ?_)
  refine zj_iconst (v := 1) E dX12_first_109 (by decide) ?_
  have e9 := Option.some.inj h
  subst e9
  exact (show zRet Γ cX12_first 2 0 0 (some (.int 1)) σ4 from K) _ _ dX12_first_110
def fX12_first_77 (σ : zS) (l0 : Nat) (l1 : Int32) (s0 : Int32) : Option (Int32 × zS) := (if s0 = l1 then some (0, σ) else oGR σ 12 l0 4 (fun a3 => (if l1 = 0 then fX12_first_97 σ l0 0 5 a3 else fX12_first_97 σ l0 1 5 a3)))
set_option maxRecDepth 100000 in
theorem wX12_first_77 {Γ : zG} (E : zE Γ cX12_first RX12 2 { frames := 1, cells := 0, slots := 0, locals := 23 }) (σ : zS) (l0 : Nat) (l1 : Int32) (s0 : Int32) {R : (Int32 × zS)} (h : fX12_first_77 σ l0 l1 s0 = some R) (K : zRet Γ cX12_first 2 0 0 (some (.int R.1)) R.2) : zJ Γ 2 0 0 σ 77 [(0, .ref l0), (1, .int l1)] [.int s0] := by
  unfold fX12_first_77 at h
  refine zj_iload_n E dX12_first_77 rfl 1 rfl ?_
  refine zj_icmp_ne (tgt := 83) E dX12_first_78 (by decide) h (fun h => ?_) (fun h => ?_)
  · refine zj_aload_n E dX12_first_83 rfl 0 rfl ?_
    refine zs_getR E zc11 4 (by decide) zw_6_5 rfl dX12_first_84 h (fun a3 h => ?_)
    refine zj_iconst (v := 5) E dX12_first_87 (by decide) ?_
    refine zj_iload_n E dX12_first_88 rfl 1 rfl ?_
    refine zj_if_eq (tgt := 96) E dX12_first_89 (by decide) h (fun h => ?_) (fun h => ?_)
    · refine zj_iconst (v := 0) E dX12_first_96 (by decide) ?_
      refine zj_lv [0] rfl ?_
      exact wX12_first_97 E _ _ _ _ _ h K
    · refine zj_iconst (v := 1) E dX12_first_92 (by decide) ?_
      refine zj_goto (tgt := 97) E dX12_first_93 (by decide) ?_
      refine zj_lv [0] rfl ?_
      exact wX12_first_97 E _ _ _ _ _ h K
  · refine zj_iconst (v := 0) E dX12_first_81 (by decide) ?_
    have e9 := Option.some.inj h
    subst e9
    exact (show zRet Γ cX12_first 2 0 0 (some (.int 0)) σ from K) _ _ dX12_first_82
def fX12_first_62 (σ : zS) (l0 : Nat) (l1 : Int32) : Option (Int32 × zS) := oGR σ 12 l0 4 (fun a2 => oLd σ 21 a2 5 (fun x2 => (if x2 = (1 : Int32) then fX12_first_77 σ l0 l1 1 else fX12_first_77 σ l0 l1 0)))
set_option maxRecDepth 100000 in
theorem wX12_first_62 {Γ : zG} (E : zE Γ cX12_first RX12 2 { frames := 1, cells := 0, slots := 0, locals := 23 }) (σ : zS) (l0 : Nat) (l1 : Int32) {R : (Int32 × zS)} (h : fX12_first_62 σ l0 l1 = some R) (K : zRet Γ cX12_first 2 0 0 (some (.int R.1)) R.2) : zJ Γ 2 0 0 σ 62 [(0, .ref l0), (1, .int l1)] [] := by
  unfold fX12_first_62 at h
  refine zj_aload_n E dX12_first_62 rfl 0 rfl ?_
  refine zs_getR E zc11 4 (by decide) zw_6_5 rfl dX12_first_63 h (fun a2 h => ?_)
  refine zj_iconst (v := 5) E dX12_first_66 (by decide) ?_
  refine zs_iald E dX12_first_67 h (fun x2 h => ?_)
  refine zj_iconst (v := 1) E dX12_first_68 (by decide) ?_
  refine zj_icmp_ne (tgt := 76) E dX12_first_69 (by decide) h (fun h => ?_) (fun h => ?_)
  · refine zj_iconst (v := 0) E dX12_first_76 (by decide) ?_
    refine zj_lv [0, 1] rfl ?_
    exact wX12_first_77 E _ _ _ _ h K
  · refine zj_iconst (v := 1) E dX12_first_72 (by decide) ?_
    refine zj_goto (tgt := 77) E dX12_first_73 (by decide) ?_
    refine zj_lv [0, 1] rfl ?_
    exact wX12_first_77 E _ _ _ _ h K
def fX12_first (σ : zS) (p0 : Nat) (p1 : Int32) : Option (Int32 × zS) := oPI σ 12 p0 0 0 (fun σ1 => oGR σ1 12 p0 4 (fun a1 => oLd σ1 21 a1 0 (fun x1 => (if x1 = 0 then some ((-13 : Int32), σ1) else (if p1 = 0 then fX12_first_62 σ1 p0 p1 else oGR σ1 12 p0 4 (fun a4 => oLd σ1 21 a4 4 (fun x3 => (if x3 = 0 then some ((-13 : Int32), σ1) else oA (zk σ1 p0 = 12) (oB (fX12_region σ1 p0 0 0 0) (fun x4 => oGR σ1 12 p0 4 (fun a5 => oLd σ1 21 a5 1 (fun x5 => (if x4 = x5 then oA (zk σ1 p0 = 12) (oB (fX12_region σ1 p0 0 0 1) (fun x6 => oGR σ1 12 p0 4 (fun a6 => oLd σ1 21 a6 2 (fun x7 => (if x6 = x7 then fX12_first_62 σ1 p0 p1 else some ((-13 : Int32), σ1)))))) else some ((-13 : Int32), σ1))))))))))))))
set_option maxRecDepth 100000 in
theorem wX12_first {Γ : zG} (E : zE Γ cX12_first RX12 2 { frames := 1, cells := 0, slots := 0, locals := 23 }) (σ : zS) (p0 : Nat) (p1 : Int32) {R : (Int32 × zS)} (h : fX12_first σ p0 p1 = some R) (K : zRet Γ cX12_first 2 0 0 (some (.int R.1)) R.2) : zJ Γ 2 0 0 σ 0 [(0, .ref p0), (1, .int p1)] [] := by
  unfold fX12_first at h
  refine zj_aload_n E dX12_first_0 rfl 0 rfl ?_
  refine zj_iconst (v := 0) E dX12_first_1 (by decide) ?_
  refine zs_putI E zc11 0 (by decide) zw_7_9 rfl rfl dX12_first_2 h (fun σ1 h => ?_)
  refine zj_aload_n E dX12_first_5 rfl 0 rfl ?_
  refine zs_getR E zc11 4 (by decide) zw_6_5 rfl dX12_first_6 h (fun a1 h => ?_)
  refine zj_iconst (v := 0) E dX12_first_9 (by decide) ?_
  refine zs_iald E dX12_first_10 h (fun x1 h => ?_)
  refine zj_if_eq (tgt := 59) E dX12_first_11 (by decide) h (fun h => ?_) (fun h => ?_)
  · refine zj_bipush (v := (-13 : Int32)) E dX12_first_59 (by decide) ?_
    have e9 := Option.some.inj h
    subst e9
    exact (show zRet Γ cX12_first 2 0 0 (some (.int (-13 : Int32))) σ1 from K) _ _ dX12_first_61
  · refine zj_iload_n E dX12_first_14 rfl 1 rfl ?_
    refine zj_if_eq (tgt := 62) E dX12_first_15 (by decide) h (fun h => ?_) (fun h => ?_)
    · refine zj_lv [0, 1] rfl ?_
      exact wX12_first_62 E _ _ _ h K
    · refine zj_aload_n E dX12_first_18 rfl 0 rfl ?_
      refine zs_getR E zc11 4 (by decide) zw_6_5 rfl dX12_first_19 h (fun a4 h => ?_)
      refine zj_iconst (v := 4) E dX12_first_22 (by decide) ?_
      refine zs_iald E dX12_first_23 h (fun x3 h => ?_)
      refine zj_if_eq (tgt := 59) E dX12_first_24 (by decide) h (fun h => ?_) (fun h => ?_)
      · refine zj_bipush (v := (-13 : Int32)) E dX12_first_59 (by decide) ?_
        have e9 := Option.some.inj h
        subst e9
        exact (show zRet Γ cX12_first 2 0 0 (some (.int (-13 : Int32))) σ1 from K) _ _ dX12_first_61
      · refine zj_aload_n E dX12_first_27 rfl 0 rfl ?_
        refine zj_iconst (v := 0) E dX12_first_28 (by decide) ?_
        refine zj_iconst (v := 0) E dX12_first_29 (by decide) ?_
        refine zj_iconst (v := 0) E dX12_first_30 (by decide) ?_
        obtain ⟨hk, h⟩ := oA_some h
        obtain ⟨x4, hc, h⟩ := oB_some h
        refine zs_callV (As := [.int 0, .int 0, .int 0]) (rest := []) E zc11 zyX12_region zw_22_1 (kX12_region _ _ _ _ _ hc) rfl rfl hk rfl ⟨by decide, by decide⟩ ⟨by decide, by decide⟩ (Nat.le_of_ble_eq_true rfl) dX12_first_31 rfl (show zJ Γ 2 0 0 σ1 34 [(0, .ref p0), (1, .int p1)] [.int x4] from ?_)
        refine zj_aload_n E dX12_first_34 rfl 0 rfl ?_
        refine zs_getR E zc11 4 (by decide) zw_6_5 rfl dX12_first_35 h (fun a5 h => ?_)
        refine zj_iconst (v := 1) E dX12_first_38 (by decide) ?_
        refine zs_iald E dX12_first_39 h (fun x5 h => ?_)
        refine zj_icmp_ne (tgt := 59) E dX12_first_40 (by decide) h (fun h => ?_) (fun h => ?_)
        · refine zj_bipush (v := (-13 : Int32)) E dX12_first_59 (by decide) ?_
          have e9 := Option.some.inj h
          subst e9
          exact (show zRet Γ cX12_first 2 0 0 (some (.int (-13 : Int32))) σ1 from K) _ _ dX12_first_61
        · refine zj_aload_n E dX12_first_43 rfl 0 rfl ?_
          refine zj_iconst (v := 0) E dX12_first_44 (by decide) ?_
          refine zj_iconst (v := 0) E dX12_first_45 (by decide) ?_
          refine zj_iconst (v := 1) E dX12_first_46 (by decide) ?_
          obtain ⟨hk, h⟩ := oA_some h
          obtain ⟨x6, hc, h⟩ := oB_some h
          refine zs_callV (As := [.int 0, .int 0, .int 1]) (rest := []) E zc11 zyX12_region zw_22_1 (kX12_region _ _ _ _ _ hc) rfl rfl hk rfl ⟨by decide, by decide⟩ ⟨by decide, by decide⟩ (Nat.le_of_ble_eq_true rfl) dX12_first_47 rfl (show zJ Γ 2 0 0 σ1 50 [(0, .ref p0), (1, .int p1)] [.int x6] from ?_)
          refine zj_aload_n E dX12_first_50 rfl 0 rfl ?_
          refine zs_getR E zc11 4 (by decide) zw_6_5 rfl dX12_first_51 h (fun a6 h => ?_)
          refine zj_iconst (v := 2) E dX12_first_54 (by decide) ?_
          refine zs_iald E dX12_first_55 h (fun x7 h => ?_)
          refine zj_icmp_eq (tgt := 62) E dX12_first_56 (by decide) h (fun h => ?_) (fun h => ?_)
          · refine zj_lv [0, 1] rfl ?_
            exact wX12_first_62 E _ _ _ h K
          · refine zj_bipush (v := (-13 : Int32)) E dX12_first_59 (by decide) ?_
            have e9 := Option.some.inj h
            subst e9
            exact (show zRet Γ cX12_first 2 0 0 (some (.int (-13 : Int32))) σ1 from K) _ _ dX12_first_61
set_option maxRecDepth 100000 in
theorem kX12_first (l : Launch) (D : va_G) (cs : zCs) (z0 : Nat) (σ : zS) {p0 : Nat} {p1 : Int32} {r : Int32} {σ' : zS} (h : fX12_first σ p0 p1 = some (r, σ')) : zM l D cs z0 yX12_first cX12_first 2 (some .int) { frames := 1, cells := 0, slots := 0, locals := 23 } [.ref p0, .int p1] σ (some (.int r)) σ' 0 0 := by
  exact zM_of (by decide) rfl (Or.inl rfl) (Nat.le_of_ble_eq_true rfl) rfl (fun Γ e1 e2 e3 e4 E hN K => wX12_first E σ _ _ h K)
/-! X12_about -/
def fX12_about_111 (σ : zS) : Option (Int32 × zS) := some ((-11 : Int32), σ)
set_option maxRecDepth 100000 in
theorem wX12_about_111 {Γ : zG} (E : zE Γ cX12_about RX12 3 { frames := 1, cells := 0, slots := 0, locals := 23 }) (σ : zS) {R : (Int32 × zS)} (h : fX12_about_111 σ = some R) (K : zRet Γ cX12_about 3 0 0 (some (.int R.1)) R.2) : zJ Γ 3 0 0 σ 111 [] [] := by
  unfold fX12_about_111 at h
  refine zj_bipush (v := (-11 : Int32)) E dX12_about_111 (by decide) ?_
  refine zj_goto (tgt := 125) E dX12_about_113 (by decide) ?_
  have e9 := Option.some.inj h
  subst e9
  exact (show zRet Γ cX12_about 3 0 0 (some (.int (-11 : Int32))) σ from K) _ _ dX12_about_125
def fX12_about (σ : zS) (p0 : Nat) (p1 : Int32) (p2 : Int32) : Option (Int32 × zS) := oPI σ 12 p0 0 0 (fun σ1 => oGR σ1 12 p0 4 (fun a1 => oLd σ1 21 a1 0 (fun x1 => (if x1 = 0 then some ((-11 : Int32), σ1) else (if p1 < 0 then some ((-12 : Int32), σ1) else (if p1 ≤ (10 : Int32) then (if (5 : Int32) ≤ p1 then (if p2 < 0 then fX12_about_111 σ1 else oGR σ1 12 p0 4 (fun a2 => oLd σ1 21 a2 4 (fun x2 => (if p2 < x2 then oA (zk σ1 p0 = 12) (oB (fX12_region σ1 p0 0 p2 (p1 - (5 : Int32))) (fun x3 => some (x3, σ1))) else fX12_about_111 σ1)))) else (if p1 = 0 then oGR σ1 12 p0 4 (fun a7 => oLd σ1 21 a7 1 (fun x8 => some (x8, σ1))) else (if p1 = (1 : Int32) then oGR σ1 12 p0 4 (fun a6 => oLd σ1 21 a6 2 (fun x7 => some (x7, σ1))) else (if p1 = (2 : Int32) then oGR σ1 12 p0 4 (fun a5 => oLd σ1 21 a5 4 (fun x6 => some (x6, σ1))) else (if p1 = (3 : Int32) then oGR σ1 12 p0 4 (fun a4 => oLd σ1 21 a4 3 (fun x5 => some (x5, σ1))) else oGR σ1 12 p0 4 (fun a3 => oLd σ1 21 a3 5 (fun x4 => some (x4, σ1)))))))) else some ((-12 : Int32), σ1)))))))
set_option maxRecDepth 100000 in
theorem wX12_about {Γ : zG} (E : zE Γ cX12_about RX12 3 { frames := 1, cells := 0, slots := 0, locals := 23 }) (σ : zS) (p0 : Nat) (p1 : Int32) (p2 : Int32) {R : (Int32 × zS)} (h : fX12_about σ p0 p1 p2 = some R) (K : zRet Γ cX12_about 3 0 0 (some (.int R.1)) R.2) : zJ Γ 3 0 0 σ 0 [(0, .ref p0), (1, .int p1), (2, .int p2)] [] := by
  unfold fX12_about at h
  refine zj_aload_n E dX12_about_0 rfl 0 rfl ?_
  refine zj_iconst (v := 0) E dX12_about_1 (by decide) ?_
  refine zs_putI E zc11 0 (by decide) zw_7_9 rfl rfl dX12_about_2 h (fun σ1 h => ?_)
  refine zj_aload_n E dX12_about_5 rfl 0 rfl ?_
  refine zs_getR E zc11 4 (by decide) zw_6_5 rfl dX12_about_6 h (fun a1 h => ?_)
  refine zj_iconst (v := 0) E dX12_about_9 (by decide) ?_
  refine zs_iald E dX12_about_10 h (fun x1 h => ?_)
  refine zj_if_ne (tgt := 17) E dX12_about_11 (by decide) h (fun h => ?_) (fun h => ?_)
  · refine zj_iload_n E dX12_about_17 rfl 1 rfl ?_
    refine zj_if_lt (tgt := 27) E dX12_about_18 (by decide) h (fun h => ?_) (fun h => ?_)
    · refine zj_bipush (v := (-12 : Int32)) E dX12_about_27 (by decide) ?_
      have e9 := Option.some.inj h
      subst e9
      exact (show zRet Γ cX12_about 3 0 0 (some (.int (-12 : Int32))) σ1 from K) _ _ dX12_about_29
    · refine zj_iload_n E dX12_about_21 rfl 1 rfl ?_
      refine zj_bipush (v := 10) E dX12_about_22 (by decide) ?_
      refine zj_icmp_le (tgt := 30) E dX12_about_24 (by decide) h (fun h => ?_) (fun h => ?_)
      · refine zj_iload_n E dX12_about_30 rfl 1 rfl ?_
        refine zj_iconst (v := 5) E dX12_about_31 (by decide) ?_
        refine zj_icmp_ge (tgt := 97) E dX12_about_32 (by decide) h (fun h => ?_) (fun h => ?_)
        · refine zj_iload_n E dX12_about_97 rfl 2 rfl ?_
          refine zj_if_lt (tgt := 111) E dX12_about_98 (by decide) h (fun h => ?_) (fun h => ?_)
          · refine zj_lv [] rfl ?_
            exact wX12_about_111 E _ h K
          · refine zj_iload_n E dX12_about_101 rfl 2 rfl ?_
            refine zj_aload_n E dX12_about_102 rfl 0 rfl ?_
            refine zs_getR E zc11 4 (by decide) zw_6_5 rfl dX12_about_103 h (fun a2 h => ?_)
            refine zj_iconst (v := 4) E dX12_about_106 (by decide) ?_
            refine zs_iald E dX12_about_107 h (fun x2 h => ?_)
            refine zj_icmp_lt (tgt := 116) E dX12_about_108 (by decide) h (fun h => ?_) (fun h => ?_)
            · refine zj_aload_n E dX12_about_116 rfl 0 rfl ?_
              refine zj_iconst (v := 0) E dX12_about_117 (by decide) ?_
              refine zj_iload_n E dX12_about_118 rfl 2 rfl ?_
              refine zj_iload_n E dX12_about_119 rfl 1 rfl ?_
              refine zj_iconst (v := 5) E dX12_about_120 (by decide) ?_
              refine zj_isub E dX12_about_121 ?_
              obtain ⟨hk, h⟩ := oA_some h
              obtain ⟨x3, hc, h⟩ := oB_some h
              refine zs_callV (As := [.int 0, .int p2, .int (p1 - (5 : Int32))]) (rest := []) E zc11 zyX12_region zw_22_1 (kX12_region _ _ _ _ _ hc) rfl rfl hk rfl ⟨by decide, by decide⟩ ⟨by decide, by decide⟩ (Nat.le_of_ble_eq_true rfl) dX12_about_122 rfl (show zJ Γ 3 0 0 σ1 125 [(0, .ref p0), (1, .int p1), (2, .int p2)] [.int x3] from ?_)
              have e9 := Option.some.inj h
              subst e9
              exact (show zRet Γ cX12_about 3 0 0 (some (.int x3)) σ1 from K) _ _ dX12_about_125
            · refine zj_lv [] rfl ?_
              exact wX12_about_111 E _ h K
        · refine zj_iload_n E dX12_about_35 rfl 1 rfl ?_
          refine zj_if_ne (tgt := 48) E dX12_about_36 (by decide) h (fun h => ?_) (fun h => ?_)
          · refine zj_iload_n E dX12_about_48 rfl 1 rfl ?_
            refine zj_iconst (v := 1) E dX12_about_49 (by decide) ?_
            refine zj_icmp_ne (tgt := 62) E dX12_about_50 (by decide) h (fun h => ?_) (fun h => ?_)
            · refine zj_iload_n E dX12_about_62 rfl 1 rfl ?_
              refine zj_iconst (v := 2) E dX12_about_63 (by decide) ?_
              refine zj_icmp_ne (tgt := 76) E dX12_about_64 (by decide) h (fun h => ?_) (fun h => ?_)
              · refine zj_iload_n E dX12_about_76 rfl 1 rfl ?_
                refine zj_iconst (v := 3) E dX12_about_77 (by decide) ?_
                refine zj_icmp_ne (tgt := 90) E dX12_about_78 (by decide) h (fun h => ?_) (fun h => ?_)
                · refine zj_aload_n E dX12_about_90 rfl 0 rfl ?_
                  refine zs_getR E zc11 4 (by decide) zw_6_5 rfl dX12_about_91 h (fun a3 h => ?_)
                  refine zj_iconst (v := 5) E dX12_about_94 (by decide) ?_
                  refine zs_iald E dX12_about_95 h (fun x4 h => ?_)
                  have e9 := Option.some.inj h
                  subst e9
                  exact (show zRet Γ cX12_about 3 0 0 (some (.int x4)) σ1 from K) _ _ dX12_about_96
                · refine zj_aload_n E dX12_about_81 rfl 0 rfl ?_
                  refine zs_getR E zc11 4 (by decide) zw_6_5 rfl dX12_about_82 h (fun a4 h => ?_)
                  refine zj_iconst (v := 3) E dX12_about_85 (by decide) ?_
                  refine zs_iald E dX12_about_86 h (fun x5 h => ?_)
                  refine zj_goto (tgt := 96) E dX12_about_87 (by decide) ?_
                  have e9 := Option.some.inj h
                  subst e9
                  exact (show zRet Γ cX12_about 3 0 0 (some (.int x5)) σ1 from K) _ _ dX12_about_96
              · refine zj_aload_n E dX12_about_67 rfl 0 rfl ?_
                refine zs_getR E zc11 4 (by decide) zw_6_5 rfl dX12_about_68 h (fun a5 h => ?_)
                refine zj_iconst (v := 4) E dX12_about_71 (by decide) ?_
                refine zs_iald E dX12_about_72 h (fun x6 h => ?_)
                refine zj_goto (tgt := 96) E dX12_about_73 (by decide) ?_
                have e9 := Option.some.inj h
                subst e9
                exact (show zRet Γ cX12_about 3 0 0 (some (.int x6)) σ1 from K) _ _ dX12_about_96
            · refine zj_aload_n E dX12_about_53 rfl 0 rfl ?_
              refine zs_getR E zc11 4 (by decide) zw_6_5 rfl dX12_about_54 h (fun a6 h => ?_)
              refine zj_iconst (v := 2) E dX12_about_57 (by decide) ?_
              refine zs_iald E dX12_about_58 h (fun x7 h => ?_)
              refine zj_goto (tgt := 96) E dX12_about_59 (by decide) ?_
              have e9 := Option.some.inj h
              subst e9
              exact (show zRet Γ cX12_about 3 0 0 (some (.int x7)) σ1 from K) _ _ dX12_about_96
          · refine zj_aload_n E dX12_about_39 rfl 0 rfl ?_
            refine zs_getR E zc11 4 (by decide) zw_6_5 rfl dX12_about_40 h (fun a7 h => ?_)
            refine zj_iconst (v := 1) E dX12_about_43 (by decide) ?_
            refine zs_iald E dX12_about_44 h (fun x8 h => ?_)
            refine zj_goto (tgt := 96) E dX12_about_45 (by decide) ?_
            have e9 := Option.some.inj h
            subst e9
            exact (show zRet Γ cX12_about 3 0 0 (some (.int x8)) σ1 from K) _ _ dX12_about_96
      · refine zj_bipush (v := (-12 : Int32)) E dX12_about_27 (by decide) ?_
        have e9 := Option.some.inj h
        subst e9
        exact (show zRet Γ cX12_about 3 0 0 (some (.int (-12 : Int32))) σ1 from K) _ _ dX12_about_29
  · refine zj_bipush (v := (-11 : Int32)) E dX12_about_14 (by decide) ?_
    have e9 := Option.some.inj h
    subst e9
    exact (show zRet Γ cX12_about 3 0 0 (some (.int (-11 : Int32))) σ1 from K) _ _ dX12_about_16
set_option maxRecDepth 100000 in
theorem kX12_about (l : Launch) (D : va_G) (cs : zCs) (z0 : Nat) (σ : zS) {p0 : Nat} {p1 : Int32} {p2 : Int32} {r : Int32} {σ' : zS} (h : fX12_about σ p0 p1 p2 = some (r, σ')) : zM l D cs z0 yX12_about cX12_about 3 (some .int) { frames := 1, cells := 0, slots := 0, locals := 23 } [.ref p0, .int p1, .int p2] σ (some (.int r)) σ' 0 0 := by
  exact zM_of (by decide) rfl (Or.inl rfl) (Nat.le_of_ble_eq_true rfl) rfl (fun Γ e1 e2 e3 e4 E hN K => wX12_about E σ _ _ _ h K)
/-! X12_over -/
def jX12_over_54 (Γ : zG) (σ : zS) (l0 : Int32) (l1 : Int32) (l2 : Int32) (l3 : Int32) (l4 : Int32) : (Int32 × Int32) → Prop := fun x => zJ Γ 8 0 0 σ 54 [(0, .int l0), (1, .int l1), (2, .int l2), (3, .int l3), (4, .int l4), (5, .int x.1), (6, .int x.2)] []
def eX12_over_54 (Γ : zG) (σ : zS) (l0 : Int32) (l1 : Int32) (l2 : Int32) (l3 : Int32) (l4 : Int32) : Int32 → Prop := fun b => zJ Γ 8 0 0 σ 113 [(5, .int b)] []
def bX12_over_54 (σ : zS) (l0 : Int32) (l1 : Int32) (l2 : Int32) (l3 : Int32) (l4 : Int32) (l5 : Int32) (l6 : Int32) : Option ((Int32 × Int32) ⊕ Int32) := (if (32 : Int32) ≤ l6 then some (.inr l5) else oA (¬ l4 = 0) (oL (((((((l0.toUInt32 >>> (l6.toUInt32 &&& Int32.toUInt32 31)).toInt32) &&& (255 : Int32)) * l2) * (255 : Int32)) + (((((l1.toUInt32 >>> (l6.toUInt32 &&& Int32.toUInt32 31)).toInt32) &&& (255 : Int32)) * l3) * ((255 : Int32) - l2))) / l4) (fun v5 => oL (l5 ||| (v5 <<< (l6 &&& 31))) (fun v6 => oL (l6 + 8) (fun v7 => some (.inl (v6, v7)))))))
set_option maxRecDepth 100000 in
theorem wX12_over_L54 {Γ : zG} (E : zE Γ cX12_over RX12 8 { frames := 0, cells := 0, slots := 0, locals := 0 }) (σ : zS) (l0 : Int32) (l1 : Int32) (l2 : Int32) (l3 : Int32) (l4 : Int32) : ∀ x R, (fun x => bX12_over_54 σ l0 l1 l2 l3 l4 x.1 x.2) x = some R → Sum.elim (jX12_over_54 Γ σ l0 l1 l2 l3 l4) (eX12_over_54 Γ σ l0 l1 l2 l3 l4) R → jX12_over_54 Γ σ l0 l1 l2 l3 l4 x := by
  intro x R h K
  obtain ⟨l5, l6⟩ := x
  have h : bX12_over_54 σ l0 l1 l2 l3 l4 l5 l6 = some R := h
  show zJ Γ 8 0 0 σ 54 [(0, .int l0), (1, .int l1), (2, .int l2), (3, .int l3), (4, .int l4), (5, .int l5), (6, .int l6)] []
  unfold bX12_over_54 at h
  refine zj_iload E dX12_over_54 6 rfl ?_
  refine zj_bipush (v := 32) E dX12_over_56 (by decide) ?_
  refine zj_icmp_ge (tgt := 113) E dX12_over_58 (by decide) h (fun h => ?_) (fun h => ?_)
  · have e9 := Option.some.inj h
    subst e9
    refine zj_lv [5] rfl ?_
    exact K
  · refine zj_iload_n E dX12_over_61 rfl 0 rfl ?_
    refine zj_iload E dX12_over_62 6 rfl ?_
    refine zj_iushr E dX12_over_64 ?_
    refine zj_sipush (v := 255) E dX12_over_65 (by decide) ?_
    refine zj_iand E dX12_over_68 ?_
    refine zj_iload_n E dX12_over_69 rfl 2 rfl ?_
    refine zj_imul E dX12_over_70 ?_
    refine zj_sipush (v := 255) E dX12_over_71 (by decide) ?_
    refine zj_imul E dX12_over_74 ?_
    refine zj_iload_n E dX12_over_75 rfl 1 rfl ?_
    refine zj_iload E dX12_over_76 6 rfl ?_
    refine zj_iushr E dX12_over_78 ?_
    refine zj_sipush (v := 255) E dX12_over_79 (by decide) ?_
    refine zj_iand E dX12_over_82 ?_
    refine zj_iload_n E dX12_over_83 rfl 3 rfl ?_
    refine zj_imul E dX12_over_84 ?_
    refine zj_sipush (v := 255) E dX12_over_85 (by decide) ?_
    refine zj_iload_n E dX12_over_88 rfl 2 rfl ?_
    refine zj_isub E dX12_over_89 ?_
    refine zj_imul E dX12_over_90 ?_
    refine zj_iadd E dX12_over_91 ?_
    refine zj_iload E dX12_over_92 4 rfl ?_
    obtain ⟨hne, h⟩ := oA_some h
    refine zj_idiv E dX12_over_94 hne ?_
    refine zs_istore (lv2 := fun v5 => [(7, .int v5), (0, .int l0), (1, .int l1), (2, .int l2), (3, .int l3), (4, .int l4), (5, .int l5), (6, .int l6)]) E dX12_over_95 (by decide) (fun _ => rfl) h (fun v5 h => ?_)
    refine zj_iload E dX12_over_97 6 rfl ?_
    refine zj_iload E dX12_over_99 0 rfl ?_
    refine zj_iload E dX12_over_101 7 rfl ?_
    refine zj_ishl E dX12_over_103 ?_
    refine zj_ior E dX12_over_104 ?_
    refine zs_istore (lv2 := fun v6 => [(5, .int v6), (7, .int v5), (0, .int l0), (1, .int l1), (2, .int l2), (3, .int l3), (4, .int l4), (6, .int l6)]) E dX12_over_105 (by decide) (fun _ => rfl) h (fun v6 h => ?_)
    refine zs_iinc (lv2 := fun v7 => [(6, .int v7), (5, .int v6), (7, .int v5), (0, .int l0), (1, .int l1), (2, .int l2), (3, .int l3), (4, .int l4)]) E dX12_over_107 7 rfl (by decide) (by decide) (fun _ => rfl) h (fun v7 h => ?_)
    refine zj_goto (tgt := 54) E dX12_over_110 (by decide) ?_
    have e9 := Option.some.inj h
    subst e9
    refine zj_lv [3, 4, 5, 6, 7, 1, 0] rfl ?_
    exact K
def fX12_over (σ : zS) (p0 : Int32) (p1 : Int32) : Option Int32 := oL (p0 &&& (255 : Int32)) (fun v1 => (if v1 = 0 then some p1 else (if v1 = (255 : Int32) then some p0 else oL (p1 &&& (255 : Int32)) (fun v2 => oL ((v1 * (255 : Int32)) + (((255 : Int32) - v1) * v2)) (fun v3 => oL (v3 / (255 : Int32)) (fun v4 => oB (zloop zF (fun x => bX12_over_54 σ p0 p1 v1 v2 v3 x.1 x.2) (v4, 8)) (fun b1 => (fun v8 => some v8) b1)))))))
set_option maxRecDepth 100000 in
theorem wX12_over {Γ : zG} (E : zE Γ cX12_over RX12 8 { frames := 0, cells := 0, slots := 0, locals := 0 }) (σ : zS) (p0 : Int32) (p1 : Int32) {R : Int32} (h : fX12_over σ p0 p1 = some R) (K : zRet Γ cX12_over 8 0 0 (some (.int R)) σ) : zJ Γ 8 0 0 σ 0 [(0, .int p0), (1, .int p1)] [] := by
  unfold fX12_over at h
  refine zj_iload_n E dX12_over_0 rfl 0 rfl ?_
  refine zj_sipush (v := 255) E dX12_over_1 (by decide) ?_
  refine zj_iand E dX12_over_4 ?_
  refine zs_istore_n (lv2 := fun v1 => [(2, .int v1), (0, .int p0), (1, .int p1)]) E dX12_over_5 rfl (by decide) (fun _ => rfl) h (fun v1 h => ?_)
  refine zj_iload_n E dX12_over_6 rfl 0 rfl ?_
  refine zj_if_ne (tgt := 12) E dX12_over_7 (by decide) h (fun h => ?_) (fun h => ?_)
  · refine zj_iload_n E dX12_over_12 rfl 0 rfl ?_
    refine zj_sipush (v := 255) E dX12_over_13 (by decide) ?_
    refine zj_icmp_ne (tgt := 21) E dX12_over_16 (by decide) h (fun h => ?_) (fun h => ?_)
    · refine zj_iload_n E dX12_over_21 rfl 2 rfl ?_
      refine zj_sipush (v := 255) E dX12_over_22 (by decide) ?_
      refine zj_iand E dX12_over_25 ?_
      refine zs_istore_n (lv2 := fun v2 => [(3, .int v2), (2, .int v1), (0, .int p0), (1, .int p1)]) E dX12_over_26 rfl (by decide) (fun _ => rfl) h (fun v2 h => ?_)
      refine zj_iload_n E dX12_over_27 rfl 1 rfl ?_
      refine zj_sipush (v := 255) E dX12_over_28 (by decide) ?_
      refine zj_imul E dX12_over_31 ?_
      refine zj_sipush (v := 255) E dX12_over_32 (by decide) ?_
      refine zj_iload_n E dX12_over_35 rfl 1 rfl ?_
      refine zj_isub E dX12_over_36 ?_
      refine zj_iload_n E dX12_over_37 rfl 0 rfl ?_
      refine zj_imul E dX12_over_38 ?_
      refine zj_iadd E dX12_over_39 ?_
      refine zs_istore (lv2 := fun v3 => [(4, .int v3), (3, .int v2), (2, .int v1), (0, .int p0), (1, .int p1)]) E dX12_over_40 (by decide) (fun _ => rfl) h (fun v3 h => ?_)
      refine zj_iload E dX12_over_42 0 rfl ?_
      refine zj_sipush (v := 255) E dX12_over_44 (by decide) ?_
      refine zj_idiv E dX12_over_47 (by decide) ?_
      refine zs_istore (lv2 := fun v4 => [(5, .int v4), (4, .int v3), (3, .int v2), (2, .int v1), (0, .int p0), (1, .int p1)]) E dX12_over_48 (by decide) (fun _ => rfl) h (fun v4 h => ?_)
      refine zj_bipush (v := 8) E dX12_over_50 (by decide) ?_
      refine zj_istore (lv2 := [(6, .int 8), (5, .int v4), (4, .int v3), (3, .int v2), (2, .int v1), (0, .int p0), (1, .int p1)]) E dX12_over_52 (by decide) rfl ?_
      obtain ⟨b1, hb1, h⟩ := oB_some h
      refine zj_lv [5, 6, 4, 3, 2, 1, 0] rfl ?_
      refine zj_loop (wX12_over_L54 E σ p0 p1 v1 v2 v3) zF (v4, 8) b1 hb1 ?_
      obtain ⟨v8, rfl⟩ : ∃ z, z = b1 := ⟨_, rfl⟩
      try dsimp only at h
      show zJ Γ 8 0 0 σ 113 [(5, .int v8)] []
      refine zj_iload E dX12_over_113 0 rfl ?_
      have e9 := Option.some.inj h
      subst e9
      exact (show zRet Γ cX12_over 8 0 0 (some (.int v8)) σ from K) _ _ dX12_over_115
    · refine zj_iload_n E dX12_over_19 rfl 1 rfl ?_
      have e9 := Option.some.inj h
      subst e9
      exact (show zRet Γ cX12_over 8 0 0 (some (.int p0)) σ from K) _ _ dX12_over_20
  · refine zj_iload_n E dX12_over_10 rfl 2 rfl ?_
    have e9 := Option.some.inj h
    subst e9
    exact (show zRet Γ cX12_over 8 0 0 (some (.int p1)) σ from K) _ _ dX12_over_11
set_option maxRecDepth 100000 in
theorem kX12_over (l : Launch) (D : va_G) (cs : zCs) (z0 : Nat) (σ : zS) {p0 : Int32} {p1 : Int32} {r : Int32} (h : fX12_over σ p0 p1 = some r) : zM l D cs z0 yX12_over cX12_over 8 (some .int) { frames := 0, cells := 0, slots := 0, locals := 0 } [.int p0, .int p1] σ (some (.int r)) σ 0 0 := by
  exact zM_of (by decide) rfl (Or.inl rfl) (Nat.le_of_ble_eq_true rfl) rfl (fun Γ e1 e2 e3 e4 E hN K => wX12_over E σ _ _ h K)
