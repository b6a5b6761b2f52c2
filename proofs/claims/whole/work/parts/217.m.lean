/-! X12_putControl -/
def jX12_putControl_21 (Γ : zG) (l0 : Nat) (l1 : Int32) (l3 : Int32) : (Int32 × zS) → Prop := fun x => zJ Γ 5 0 0 x.2 21 [(0, .ref l0), (1, .int l1), (3, .int l3), (4, .int x.1)] []
def eX12_putControl_21 (Γ : zG) (l0 : Nat) (l1 : Int32) (l3 : Int32) : zS → Prop := fun b => zJ Γ 5 0 0 b 45 [(0, .ref l0), (1, .int l1), (3, .int l3)] []
def bX12_putControl_21 (l0 : Nat) (l1 : Int32) (l3 : Int32) (l4 : Int32) (σ : zS) : Option ((Int32 × zS) ⊕ zS) := (if (4 : Int32) ≤ l4 then some (.inr σ) else oA (zk σ l0 = 12) (oB (fX12_region σ l0 0 l1 l4) (fun x2 => oA (zk σ l0 = 12) (oB (fX12_putNumber σ l0 x2) (fun σ3 => oL (l4 + 1) (fun v1 => some (.inl (v1, σ3))))))))
set_option maxRecDepth 100000 in
theorem wX12_putControl_L21 {Γ : zG} (E : zE Γ cX12_putControl RX12 5 { frames := 3, cells := 0, slots := 0, locals := 67 }) (l0 : Nat) (l1 : Int32) (l3 : Int32) : ∀ x R, (fun x => bX12_putControl_21 l0 l1 l3 x.1 x.2) x = some R → Sum.elim (jX12_putControl_21 Γ l0 l1 l3) (eX12_putControl_21 Γ l0 l1 l3) R → jX12_putControl_21 Γ l0 l1 l3 x := by
  intro x R h K
  obtain ⟨l4, σ⟩ := x
  have h : bX12_putControl_21 l0 l1 l3 l4 σ = some R := h
  show zJ Γ 5 0 0 σ 21 [(0, .ref l0), (1, .int l1), (3, .int l3), (4, .int l4)] []
  unfold bX12_putControl_21 at h
  refine zj_iload E dX12_putControl_21 3 rfl ?_
  refine zj_iconst (v := 4) E dX12_putControl_23 (by decide) ?_
  refine zj_icmp_ge (tgt := 45) E dX12_putControl_24 (by decide) h (fun h => ?_) (fun h => ?_)
  · have e9 := Option.some.inj h
    subst e9
    refine zj_lv [0, 1, 2] rfl ?_
    exact K
  · refine zj_aload_n E dX12_putControl_27 rfl 0 rfl ?_
    refine zj_aload_n E dX12_putControl_28 rfl 0 rfl ?_
    refine zj_iconst (v := 0) E dX12_putControl_29 (by decide) ?_
    refine zj_iload_n E dX12_putControl_30 rfl 1 rfl ?_
    refine zj_iload E dX12_putControl_31 3 rfl ?_
    obtain ⟨hk, h⟩ := oA_some h
    obtain ⟨x2, hc, h⟩ := oB_some h
    refine zs_callV (As := [.int 0, .int l1, .int l4]) (rest := [.ref l0]) E zc11 zyX12_region zw_22_1 (kX12_region _ _ _ _ _ hc) rfl rfl hk rfl ⟨by decide, by decide⟩ ⟨by decide, by decide⟩ (Nat.le_of_ble_eq_true rfl) dX12_putControl_33 rfl (show zJ Γ 5 0 0 σ 36 [(0, .ref l0), (1, .int l1), (3, .int l3), (4, .int l4)] [.int x2, .ref l0] from ?_)
    obtain ⟨hk, h⟩ := oA_some h
    obtain ⟨σ3, hc, h⟩ := oB_some h
    refine zs_callV (As := [.int x2]) (rest := []) E zc11 zyX12_putNumber zw_33_6 (kX12_putNumber _ _ _ _ _ hc) rfl rfl hk rfl ⟨by decide, by decide⟩ ⟨by decide, by decide⟩ (Nat.le_of_ble_eq_true rfl) dX12_putControl_36 rfl (show zJ Γ 5 0 0 σ3 39 [(0, .ref l0), (1, .int l1), (3, .int l3), (4, .int l4)] [] from ?_)
    refine zs_iinc (lv2 := fun v1 => [(4, .int v1), (0, .ref l0), (1, .int l1), (3, .int l3)]) E dX12_putControl_39 3 rfl (by decide) (by decide) (fun _ => rfl) h (fun v1 h => ?_)
    refine zj_goto (tgt := 21) E dX12_putControl_42 (by decide) ?_
    have e9 := Option.some.inj h
    subst e9
    refine zj_lv [1, 2, 3, 0] rfl ?_
    exact K
def fX12_putControl (σ : zS) (p0 : Nat) (p1 : Int32) (p2 : Int32) : Option zS := oA (zk σ p0 = 12) (oC (fX12_beginChunk σ p0 102 99 84 76) (fun x1 σ1 => oA (zk σ1 p0 = 12) (oB (fX12_putNumber σ1 p0 p2) (fun σ2 => oB (zloop zF (fun x => bX12_putControl_21 p0 p1 x1 x.1 x.2) (0, σ2)) (fun b1 => (fun σ4 => oA (zk σ4 p0 = 12) (oB (fX12_put σ4 p0 0) (fun σ5 => oA (zk σ5 p0 = 12) (oB (fX12_put σ5 p0 1) (fun σ6 => oA (zk σ6 p0 = 12) (oB (fX12_put σ6 p0 0) (fun σ7 => oA (zk σ7 p0 = 12) (oB (fX12_put σ7 p0 10) (fun σ8 => oA (zk σ8 p0 = 12) (oB (fX12_region σ8 p0 0 p1 4) (fun x3 => oA (zk σ8 p0 = 12) (oB (fX12_put σ8 p0 x3) (fun σ9 => oA (zk σ9 p0 = 12) (oB (fX12_region σ9 p0 0 p1 5) (fun x4 => oA (zk σ9 p0 = 12) (oB (fX12_put σ9 p0 x4) (fun σ10 => oA (zk σ10 p0 = 12) (oB (fX12_endChunk σ10 p0 x1) (fun σ11 => some σ11))))))))))))))))))) b1)))))
set_option maxRecDepth 100000 in
theorem wX12_putControl {Γ : zG} (E : zE Γ cX12_putControl RX12 5 { frames := 3, cells := 0, slots := 0, locals := 67 }) (σ : zS) (p0 : Nat) (p1 : Int32) (p2 : Int32) {R : zS} (h : fX12_putControl σ p0 p1 p2 = some R) (K : zRet Γ cX12_putControl 5 0 0 (none) R) : zJ Γ 5 0 0 σ 0 [(0, .ref p0), (1, .int p1), (2, .int p2)] [] := by
  unfold fX12_putControl at h
  refine zj_aload_n E dX12_putControl_0 rfl 0 rfl ?_
  refine zj_bipush (v := 102) E dX12_putControl_1 (by decide) ?_
  refine zj_bipush (v := 99) E dX12_putControl_3 (by decide) ?_
  refine zj_bipush (v := 84) E dX12_putControl_5 (by decide) ?_
  refine zj_bipush (v := 76) E dX12_putControl_7 (by decide) ?_
  obtain ⟨hk, h⟩ := oA_some h
  obtain ⟨x1, σ1, hc, h⟩ := oC_some h
  refine zs_callV (As := [.int 102, .int 99, .int 84, .int 76]) (rest := []) E zc11 zyX12_beginChunk zw_33_2 (kX12_beginChunk _ _ _ _ _ hc) rfl rfl hk rfl ⟨by decide, by decide⟩ ⟨by decide, by decide⟩ (Nat.le_of_ble_eq_true rfl) dX12_putControl_9 rfl (show zJ Γ 5 0 0 σ1 12 [(0, .ref p0), (1, .int p1), (2, .int p2)] [.int x1] from ?_)
  refine zj_istore_n (lv2 := [(3, .int x1), (0, .ref p0), (1, .int p1), (2, .int p2)]) E dX12_putControl_12 rfl (by decide) rfl ?_
  refine zj_aload_n E dX12_putControl_13 rfl 1 rfl ?_
  refine zj_iload_n E dX12_putControl_14 rfl 3 rfl ?_
  obtain ⟨hk, h⟩ := oA_some h
  obtain ⟨σ2, hc, h⟩ := oB_some h
  refine zs_callV (As := [.int p2]) (rest := []) E zc11 zyX12_putNumber zw_33_6 (kX12_putNumber _ _ _ _ _ hc) rfl rfl hk rfl ⟨by decide, by decide⟩ ⟨by decide, by decide⟩ (Nat.le_of_ble_eq_true rfl) dX12_putControl_15 rfl (show zJ Γ 5 0 0 σ2 18 [(3, .int x1), (0, .ref p0), (1, .int p1), (2, .int p2)] [] from ?_)
  refine zj_iconst (v := 0) E dX12_putControl_18 (by decide) ?_
  refine zj_istore (lv2 := [(4, .int 0), (3, .int x1), (0, .ref p0), (1, .int p1), (2, .int p2)]) E dX12_putControl_19 (by decide) rfl ?_
  obtain ⟨b1, hb1, h⟩ := oB_some h
  refine zj_lv [2, 3, 1, 0] rfl ?_
  refine zj_loop (wX12_putControl_L21 E p0 p1 x1) zF (0, σ2) b1 hb1 ?_
  obtain ⟨σ4, rfl⟩ : ∃ z, z = b1 := ⟨_, rfl⟩
  try dsimp only at h
  show zJ Γ 5 0 0 σ4 45 [(0, .ref p0), (1, .int p1), (3, .int x1)] []
  refine zj_aload_n E dX12_putControl_45 rfl 0 rfl ?_
  refine zj_iconst (v := 0) E dX12_putControl_46 (by decide) ?_
  obtain ⟨hk, h⟩ := oA_some h
  obtain ⟨σ5, hc, h⟩ := oB_some h
  refine zs_callV (As := [.int 0]) (rest := []) E zc11 zyX12_put zw_32_22 (kX12_put _ _ _ _ _ hc) rfl rfl hk rfl ⟨by decide, by decide⟩ ⟨by decide, by decide⟩ (Nat.le_of_ble_eq_true rfl) dX12_putControl_47 rfl (show zJ Γ 5 0 0 σ5 50 [(0, .ref p0), (1, .int p1), (3, .int x1)] [] from ?_)
  refine zj_aload_n E dX12_putControl_50 rfl 0 rfl ?_
  refine zj_iconst (v := 1) E dX12_putControl_51 (by decide) ?_
  obtain ⟨hk, h⟩ := oA_some h
  obtain ⟨σ6, hc, h⟩ := oB_some h
  refine zs_callV (As := [.int 1]) (rest := []) E zc11 zyX12_put zw_32_22 (kX12_put _ _ _ _ _ hc) rfl rfl hk rfl ⟨by decide, by decide⟩ ⟨by decide, by decide⟩ (Nat.le_of_ble_eq_true rfl) dX12_putControl_52 rfl (show zJ Γ 5 0 0 σ6 55 [(0, .ref p0), (1, .int p1), (3, .int x1)] [] from ?_)
  refine zj_aload_n E dX12_putControl_55 rfl 0 rfl ?_
  refine zj_iconst (v := 0) E dX12_putControl_56 (by decide) ?_
  obtain ⟨hk, h⟩ := oA_some h
  obtain ⟨σ7, hc, h⟩ := oB_some h
  refine zs_callV (As := [.int 0]) (rest := []) E zc11 zyX12_put zw_32_22 (kX12_put _ _ _ _ _ hc) rfl rfl hk rfl ⟨by decide, by decide⟩ ⟨by decide, by decide⟩ (Nat.le_of_ble_eq_true rfl) dX12_putControl_57 rfl (show zJ Γ 5 0 0 σ7 60 [(0, .ref p0), (1, .int p1), (3, .int x1)] [] from ?_)
  refine zj_aload_n E dX12_putControl_60 rfl 0 rfl ?_
  refine zj_bipush (v := 10) E dX12_putControl_61 (by decide) ?_
  obtain ⟨hk, h⟩ := oA_some h
  obtain ⟨σ8, hc, h⟩ := oB_some h
  refine zs_callV (As := [.int 10]) (rest := []) E zc11 zyX12_put zw_32_22 (kX12_put _ _ _ _ _ hc) rfl rfl hk rfl ⟨by decide, by decide⟩ ⟨by decide, by decide⟩ (Nat.le_of_ble_eq_true rfl) dX12_putControl_63 rfl (show zJ Γ 5 0 0 σ8 66 [(0, .ref p0), (1, .int p1), (3, .int x1)] [] from ?_)
  refine zj_aload_n E dX12_putControl_66 rfl 0 rfl ?_
  refine zj_aload_n E dX12_putControl_67 rfl 0 rfl ?_
  refine zj_iconst (v := 0) E dX12_putControl_68 (by decide) ?_
  refine zj_iload_n E dX12_putControl_69 rfl 1 rfl ?_
  refine zj_iconst (v := 4) E dX12_putControl_70 (by decide) ?_
  obtain ⟨hk, h⟩ := oA_some h
  obtain ⟨x3, hc, h⟩ := oB_some h
  refine zs_callV (As := [.int 0, .int p1, .int 4]) (rest := [.ref p0]) E zc11 zyX12_region zw_22_1 (kX12_region _ _ _ _ _ hc) rfl rfl hk rfl ⟨by decide, by decide⟩ ⟨by decide, by decide⟩ (Nat.le_of_ble_eq_true rfl) dX12_putControl_71 rfl (show zJ Γ 5 0 0 σ8 74 [(0, .ref p0), (1, .int p1), (3, .int x1)] [.int x3, .ref p0] from ?_)
  obtain ⟨hk, h⟩ := oA_some h
  obtain ⟨σ9, hc, h⟩ := oB_some h
  refine zs_callV (As := [.int x3]) (rest := []) E zc11 zyX12_put zw_32_22 (kX12_put _ _ _ _ _ hc) rfl rfl hk rfl ⟨by decide, by decide⟩ ⟨by decide, by decide⟩ (Nat.le_of_ble_eq_true rfl) dX12_putControl_74 rfl (show zJ Γ 5 0 0 σ9 77 [(0, .ref p0), (1, .int p1), (3, .int x1)] [] from ?_)
  refine zj_aload_n E dX12_putControl_77 rfl 0 rfl ?_
  refine zj_aload_n E dX12_putControl_78 rfl 0 rfl ?_
  refine zj_iconst (v := 0) E dX12_putControl_79 (by decide) ?_
  refine zj_iload_n E dX12_putControl_80 rfl 1 rfl ?_
  refine zj_iconst (v := 5) E dX12_putControl_81 (by decide) ?_
  obtain ⟨hk, h⟩ := oA_some h
  obtain ⟨x4, hc, h⟩ := oB_some h
  refine zs_callV (As := [.int 0, .int p1, .int 5]) (rest := [.ref p0]) E zc11 zyX12_region zw_22_1 (kX12_region _ _ _ _ _ hc) rfl rfl hk rfl ⟨by decide, by decide⟩ ⟨by decide, by decide⟩ (Nat.le_of_ble_eq_true rfl) dX12_putControl_82 rfl (show zJ Γ 5 0 0 σ9 85 [(0, .ref p0), (1, .int p1), (3, .int x1)] [.int x4, .ref p0] from ?_)
  obtain ⟨hk, h⟩ := oA_some h
  obtain ⟨σ10, hc, h⟩ := oB_some h
  refine zs_callV (As := [.int x4]) (rest := []) E zc11 zyX12_put zw_32_22 (kX12_put _ _ _ _ _ hc) rfl rfl hk rfl ⟨by decide, by decide⟩ ⟨by decide, by decide⟩ (Nat.le_of_ble_eq_true rfl) dX12_putControl_85 rfl (show zJ Γ 5 0 0 σ10 88 [(0, .ref p0), (1, .int p1), (3, .int x1)] [] from ?_)
  refine zj_aload_n E dX12_putControl_88 rfl 0 rfl ?_
  refine zj_iload_n E dX12_putControl_89 rfl 2 rfl ?_
  obtain ⟨hk, h⟩ := oA_some h
  obtain ⟨σ11, hc, h⟩ := oB_some h
  refine zs_callV (As := [.int x1]) (rest := []) E zc11 zyX12_endChunk zw_33_10 (kX12_endChunk _ _ _ _ _ hc) rfl rfl hk rfl ⟨by decide, by decide⟩ ⟨by decide, by decide⟩ (Nat.le_of_ble_eq_true rfl) dX12_putControl_90 rfl (show zJ Γ 5 0 0 σ11 93 [(0, .ref p0), (1, .int p1), (3, .int x1)] [] from ?_)
  have e9 := Option.some.inj h
  subst e9
  exact (show zRet Γ cX12_putControl 5 0 0 (none) σ11 from K) _ _ dX12_putControl_93
set_option maxRecDepth 100000 in
theorem kX12_putControl (l : Launch) (D : va_G) (cs : zCs) (z0 : Nat) (σ : zS) {p0 : Nat} {p1 : Int32} {p2 : Int32}  {σ' : zS} (h : fX12_putControl σ p0 p1 p2 = some σ') : zM l D cs z0 yX12_putControl cX12_putControl 5 none { frames := 3, cells := 0, slots := 0, locals := 67 } [.ref p0, .int p1, .int p2] σ none σ' 0 0 := by
  exact zM_of (by decide) rfl rfl (Nat.le_of_ble_eq_true rfl) rfl (fun Γ e1 e2 e3 e4 E hN K => wX12_putControl E σ _ _ _ h K)
/-! X12_putPicture -/
def jX12_putPicture_68 (Γ : zG) (l0 : Nat) (l1 : Int32) (l2 : Int32) (l3 : Int32) (l5 : Int32) : (Int32 × zS) → Prop := fun x => zJ Γ 9 0 0 x.2 68 [(0, .ref l0), (1, .int l1), (2, .int l2), (3, .int l3), (5, .int l5), (6, .int x.1)] []
def eX12_putPicture_68 (Γ : zG) (l0 : Nat) (l1 : Int32) (l2 : Int32) (l3 : Int32) (l5 : Int32) : zS → Prop := fun b => zJ Γ 9 0 0 b 122 [(0, .ref l0), (5, .int l5)] []
def jX12_putPicture_82 (Γ : zG) (l0 : Nat) (l1 : Int32) (l2 : Int32) (l3 : Int32) (l5 : Int32) (l6 : Int32) : (Int32 × zS) → Prop := fun x => zJ Γ 9 0 0 x.2 82 [(0, .ref l0), (1, .int l1), (2, .int l2), (3, .int l3), (5, .int l5), (6, .int l6), (7, .int x.1)] []
def eX12_putPicture_82 (Γ : zG) (l0 : Nat) (l1 : Int32) (l2 : Int32) (l3 : Int32) (l5 : Int32) (l6 : Int32) : zS → Prop := fun b => zJ Γ 9 0 0 b 116 [(0, .ref l0), (1, .int l1), (2, .int l2), (3, .int l3), (5, .int l5), (6, .int l6)] []
def bX12_putPicture_82 (l0 : Nat) (l1 : Int32) (l2 : Int32) (l3 : Int32) (l5 : Int32) (l6 : Int32) (l7 : Int32) (σ : zS) : Option ((Int32 × zS) ⊕ zS) := (if l2 ≤ l7 then some (.inr σ) else oGR σ 12 l0 6 (fun a1 => oLd σ 21 a1 ((((256 : Int32) * l1) + (l2 * l6)) + l7) (fun x2 => oA (zk σ l0 = 12) (oB (fX12_putNumber σ l0 x2) (fun σ9 => oL (l7 + 1) (fun v2 => some (.inl (v2, σ9))))))))
set_option maxRecDepth 100000 in
theorem wX12_putPicture_L82 {Γ : zG} (E : zE Γ cX12_putPicture RX12 9 { frames := 2, cells := 0, slots := 0, locals := 42 }) (l0 : Nat) (l1 : Int32) (l2 : Int32) (l3 : Int32) (l5 : Int32) (l6 : Int32) : ∀ x R, (fun x => bX12_putPicture_82 l0 l1 l2 l3 l5 l6 x.1 x.2) x = some R → Sum.elim (jX12_putPicture_82 Γ l0 l1 l2 l3 l5 l6) (eX12_putPicture_82 Γ l0 l1 l2 l3 l5 l6) R → jX12_putPicture_82 Γ l0 l1 l2 l3 l5 l6 x := by
  intro x R h K
  obtain ⟨l7, σ⟩ := x
  have h : bX12_putPicture_82 l0 l1 l2 l3 l5 l6 l7 σ = some R := h
  show zJ Γ 9 0 0 σ 82 [(0, .ref l0), (1, .int l1), (2, .int l2), (3, .int l3), (5, .int l5), (6, .int l6), (7, .int l7)] []
  unfold bX12_putPicture_82 at h
  refine zj_iload E dX12_putPicture_82 6 rfl ?_
  refine zj_iload_n E dX12_putPicture_84 rfl 2 rfl ?_
  refine zj_icmp_ge (tgt := 116) E dX12_putPicture_85 (by decide) h (fun h => ?_) (fun h => ?_)
  · have e9 := Option.some.inj h
    subst e9
    refine zj_lv [0, 1, 2, 3, 4, 5] rfl ?_
    exact K
  · refine zj_aload_n E dX12_putPicture_88 rfl 0 rfl ?_
    refine zj_aload_n E dX12_putPicture_89 rfl 0 rfl ?_
    refine zs_getR E zc11 6 (by decide) zw_6_7 rfl dX12_putPicture_90 h (fun a1 h => ?_)
    refine zj_sipush (v := 256) E dX12_putPicture_93 (by decide) ?_
    refine zj_iload_n E dX12_putPicture_96 rfl 1 rfl ?_
    refine zj_imul E dX12_putPicture_97 ?_
    refine zj_iload_n E dX12_putPicture_98 rfl 2 rfl ?_
    refine zj_iload E dX12_putPicture_99 5 rfl ?_
    refine zj_imul E dX12_putPicture_101 ?_
    refine zj_iadd E dX12_putPicture_102 ?_
    refine zj_iload E dX12_putPicture_103 6 rfl ?_
    refine zj_iadd E dX12_putPicture_105 ?_
    refine zs_iald E dX12_putPicture_106 h (fun x2 h => ?_)
    obtain ⟨hk, h⟩ := oA_some h
    obtain ⟨σ9, hc, h⟩ := oB_some h
    refine zs_callV (As := [.int x2]) (rest := []) E zc11 zyX12_putNumber zw_33_6 (kX12_putNumber _ _ _ _ _ hc) rfl rfl hk rfl ⟨by decide, by decide⟩ ⟨by decide, by decide⟩ (Nat.le_of_ble_eq_true rfl) dX12_putPicture_107 rfl (show zJ Γ 9 0 0 σ9 110 [(0, .ref l0), (1, .int l1), (2, .int l2), (3, .int l3), (5, .int l5), (6, .int l6), (7, .int l7)] [] from ?_)
    refine zs_iinc (lv2 := fun v2 => [(7, .int v2), (0, .ref l0), (1, .int l1), (2, .int l2), (3, .int l3), (5, .int l5), (6, .int l6)]) E dX12_putPicture_110 6 rfl (by decide) (by decide) (fun _ => rfl) h (fun v2 h => ?_)
    refine zj_goto (tgt := 82) E dX12_putPicture_113 (by decide) ?_
    have e9 := Option.some.inj h
    subst e9
    refine zj_lv [1, 2, 3, 4, 5, 6, 0] rfl ?_
    exact K
def bX12_putPicture_68 (l0 : Nat) (l1 : Int32) (l2 : Int32) (l3 : Int32) (l5 : Int32) (l6 : Int32) (σ : zS) : Option ((Int32 × zS) ⊕ zS) := (if l3 ≤ l6 then some (.inr σ) else oA (zk σ l0 = 12) (oB (fX12_put σ l0 0) (fun σ8 => oB (zloop zF (fun x => bX12_putPicture_82 l0 l1 l2 l3 l5 l6 x.1 x.2) (0, σ8)) (fun b1 => (fun σ10 => oL (l6 + 1) (fun v3 => some (.inl (v3, σ10)))) b1))))
set_option maxRecDepth 100000 in
theorem wX12_putPicture_L68 {Γ : zG} (E : zE Γ cX12_putPicture RX12 9 { frames := 2, cells := 0, slots := 0, locals := 42 }) (l0 : Nat) (l1 : Int32) (l2 : Int32) (l3 : Int32) (l5 : Int32) : ∀ x R, (fun x => bX12_putPicture_68 l0 l1 l2 l3 l5 x.1 x.2) x = some R → Sum.elim (jX12_putPicture_68 Γ l0 l1 l2 l3 l5) (eX12_putPicture_68 Γ l0 l1 l2 l3 l5) R → jX12_putPicture_68 Γ l0 l1 l2 l3 l5 x := by
  intro x R h K
  obtain ⟨l6, σ⟩ := x
  have h : bX12_putPicture_68 l0 l1 l2 l3 l5 l6 σ = some R := h
  show zJ Γ 9 0 0 σ 68 [(0, .ref l0), (1, .int l1), (2, .int l2), (3, .int l3), (5, .int l5), (6, .int l6)] []
  unfold bX12_putPicture_68 at h
  refine zj_iload E dX12_putPicture_68 5 rfl ?_
  refine zj_iload_n E dX12_putPicture_70 rfl 3 rfl ?_
  refine zj_icmp_ge (tgt := 122) E dX12_putPicture_71 (by decide) h (fun h => ?_) (fun h => ?_)
  · have e9 := Option.some.inj h
    subst e9
    refine zj_lv [0, 4] rfl ?_
    exact K
  · refine zj_aload_n E dX12_putPicture_74 rfl 0 rfl ?_
    refine zj_iconst (v := 0) E dX12_putPicture_75 (by decide) ?_
    obtain ⟨hk, h⟩ := oA_some h
    obtain ⟨σ8, hc, h⟩ := oB_some h
    refine zs_callV (As := [.int 0]) (rest := []) E zc11 zyX12_put zw_32_22 (kX12_put _ _ _ _ _ hc) rfl rfl hk rfl ⟨by decide, by decide⟩ ⟨by decide, by decide⟩ (Nat.le_of_ble_eq_true rfl) dX12_putPicture_76 rfl (show zJ Γ 9 0 0 σ8 79 [(0, .ref l0), (1, .int l1), (2, .int l2), (3, .int l3), (5, .int l5), (6, .int l6)] [] from ?_)
    refine zj_iconst (v := 0) E dX12_putPicture_79 (by decide) ?_
    refine zj_istore (lv2 := [(7, .int 0), (0, .ref l0), (1, .int l1), (2, .int l2), (3, .int l3), (5, .int l5), (6, .int l6)]) E dX12_putPicture_80 (by decide) rfl ?_
    obtain ⟨b1, hb1, h⟩ := oB_some h
    refine zj_lv [1, 2, 3, 4, 5, 6, 0] rfl ?_
    refine zj_loop (wX12_putPicture_L82 E l0 l1 l2 l3 l5 l6) zF (0, σ8) b1 hb1 ?_
    obtain ⟨σ10, rfl⟩ : ∃ z, z = b1 := ⟨_, rfl⟩
    try dsimp only at h
    show zJ Γ 9 0 0 σ10 116 [(0, .ref l0), (1, .int l1), (2, .int l2), (3, .int l3), (5, .int l5), (6, .int l6)] []
    refine zs_iinc (lv2 := fun v3 => [(6, .int v3), (0, .ref l0), (1, .int l1), (2, .int l2), (3, .int l3), (5, .int l5)]) E dX12_putPicture_116 5 rfl (by decide) (by decide) (fun _ => rfl) h (fun v3 h => ?_)
    refine zj_goto (tgt := 68) E dX12_putPicture_119 (by decide) ?_
    have e9 := Option.some.inj h
    subst e9
    refine zj_lv [1, 2, 3, 4, 5, 0] rfl ?_
    exact K
def jX12_putPicture_132 (Γ : zG) (σ : zS) (l0 : Nat) : (Int32 × Int32 × Int32) → Prop := fun x => zJ Γ 9 0 0 σ 132 [(0, .ref l0), (6, .int x.1), (7, .int x.2.1), (8, .int x.2.2)] []
def eX12_putPicture_132 (Γ : zG) (σ : zS) (l0 : Nat) : (Int32 × Int32) → Prop := fun b => zJ Γ 9 0 0 σ 176 [(0, .ref l0), (6, .int b.1), (7, .int b.2)] []
def bX12_putPicture_132 (σ : zS) (l0 : Nat) (l6 : Int32) (l7 : Int32) (l8 : Int32) : Option ((Int32 × Int32 × Int32) ⊕ (Int32 × Int32)) := oGI σ 12 l0 12 (fun x3 => (if x3 ≤ l8 then some (.inr (l6, l7)) else oGR σ 12 l0 13 (fun a2 => oLd σ 20 a2 l8 (fun x4 => oL ((l6 + (x4 &&& (255 : Int32))) - (l6 + (x4 &&& (255 : Int32))) / (65521 : Int32) * (65521 : Int32)) (fun v4 => oL ((l7 + v4) - (l7 + v4) / (65521 : Int32) * (65521 : Int32)) (fun v5 => oL (l8 + 1) (fun v6 => some (.inl (v4, v5, v6)))))))))
set_option maxRecDepth 100000 in
theorem wX12_putPicture_L132 {Γ : zG} (E : zE Γ cX12_putPicture RX12 9 { frames := 2, cells := 0, slots := 0, locals := 42 }) (σ : zS) (l0 : Nat) : ∀ x R, (fun x => bX12_putPicture_132 σ l0 x.1 x.2.1 x.2.2) x = some R → Sum.elim (jX12_putPicture_132 Γ σ l0) (eX12_putPicture_132 Γ σ l0) R → jX12_putPicture_132 Γ σ l0 x := by
  intro x R h K
  obtain ⟨l6, l7, l8⟩ := x
  have h : bX12_putPicture_132 σ l0 l6 l7 l8 = some R := h
  show zJ Γ 9 0 0 σ 132 [(0, .ref l0), (6, .int l6), (7, .int l7), (8, .int l8)] []
  unfold bX12_putPicture_132 at h
  refine zj_iload E dX12_putPicture_132 3 rfl ?_
  refine zj_aload_n E dX12_putPicture_134 rfl 0 rfl ?_
  refine zs_getI E zc11 12 (by decide) zw_32_21 rfl dX12_putPicture_135 h (fun x3 h => ?_)
  refine zj_icmp_ge (tgt := 176) E dX12_putPicture_138 (by decide) h (fun h => ?_) (fun h => ?_)
  · have e9 := Option.some.inj h
    subst e9
    refine zj_lv [0, 1, 2] rfl ?_
    exact K
  · refine zj_iload E dX12_putPicture_141 1 rfl ?_
    refine zj_aload_n E dX12_putPicture_143 rfl 0 rfl ?_
    refine zs_getR E zc11 13 (by decide) zw_6_10 rfl dX12_putPicture_144 h (fun a2 h => ?_)
    refine zj_iload E dX12_putPicture_147 3 rfl ?_
    refine zs_bald E dX12_putPicture_149 h (fun x4 h => ?_)
    refine zj_sipush (v := 255) E dX12_putPicture_150 (by decide) ?_
    refine zj_iand E dX12_putPicture_153 ?_
    refine zj_iadd E dX12_putPicture_154 ?_
    refine zj_ldc (v := 65521) E zw_19_15 dX12_putPicture_155 ?_
    refine zj_irem E dX12_putPicture_157 (by decide) ?_
    refine zs_istore (lv2 := fun v4 => [(6, .int v4), (0, .ref l0), (7, .int l7), (8, .int l8)]) E dX12_putPicture_158 (by decide) (fun _ => rfl) h (fun v4 h => ?_)
    refine zj_iload E dX12_putPicture_160 2 rfl ?_
    refine zj_iload E dX12_putPicture_162 0 rfl ?_
    refine zj_iadd E dX12_putPicture_164 ?_
    refine zj_ldc (v := 65521) E zw_19_15 dX12_putPicture_165 ?_
    refine zj_irem E dX12_putPicture_167 (by decide) ?_
    refine zs_istore (lv2 := fun v5 => [(7, .int v5), (6, .int v4), (0, .ref l0), (8, .int l8)]) E dX12_putPicture_168 (by decide) (fun _ => rfl) h (fun v5 h => ?_)
    refine zs_iinc (lv2 := fun v6 => [(8, .int v6), (7, .int v5), (6, .int v4), (0, .ref l0)]) E dX12_putPicture_170 3 rfl (by decide) (by decide) (fun _ => rfl) h (fun v6 h => ?_)
    refine zj_goto (tgt := 132) E dX12_putPicture_173 (by decide) ?_
    have e9 := Option.some.inj h
    subst e9
    refine zj_lv [3, 2, 1, 0] rfl ?_
    exact K
def fX12_putPicture (σ : zS) (p0 : Nat) (p1 : Int32) (p2 : Int32) (p3 : Int32) : Option zS := oL (p3 * ((1 : Int32) + ((4 : Int32) * p2))) (fun v1 => oA (zk σ p0 = 12) (oB (fX12_put σ p0 120) (fun σ1 => oA (zk σ1 p0 = 12) (oB (fX12_put σ1 p0 1) (fun σ2 => oA (zk σ2 p0 = 12) (oB (fX12_put σ2 p0 1) (fun σ3 => oA (zk σ3 p0 = 12) (oB (fX12_put σ3 p0 v1) (fun σ4 => oA (zk σ4 p0 = 12) (oB (fX12_put σ4 p0 (v1 >>> ((8 : Int32) &&& 31))) (fun σ5 => oA (zk σ5 p0 = 12) (oB (fX12_put σ5 p0 (v1 ^^^ (-1 : Int32))) (fun σ6 => oA (zk σ6 p0 = 12) (oB (fX12_put σ6 p0 ((v1 ^^^ (-1 : Int32)) >>> ((8 : Int32) &&& 31))) (fun σ7 => oGI σ7 12 p0 12 (fun x1 => oB (zloop zF (fun x => bX12_putPicture_68 p0 p1 p2 p3 x1 x.1 x.2) (0, σ7)) (fun b2 => (fun σ11 => oB (zloop zF (fun x => bX12_putPicture_132 σ11 p0 x.1 x.2.1 x.2.2) (1, 0, x1)) (fun b3 => (fun v7 v8 => oA (zk σ11 p0 = 12) (oB (fX12_putNumber σ11 p0 ((v8 <<< ((16 : Int32) &&& 31)) ||| v7)) (fun σ12 => some σ12))) b3.1 b3.2)) b2)))))))))))))))))
set_option maxRecDepth 100000 in
theorem wX12_putPicture {Γ : zG} (E : zE Γ cX12_putPicture RX12 9 { frames := 2, cells := 0, slots := 0, locals := 42 }) (σ : zS) (p0 : Nat) (p1 : Int32) (p2 : Int32) (p3 : Int32) {R : zS} (h : fX12_putPicture σ p0 p1 p2 p3 = some R) (K : zRet Γ cX12_putPicture 9 0 0 (none) R) : zJ Γ 9 0 0 σ 0 [(0, .ref p0), (1, .int p1), (2, .int p2), (3, .int p3)] [] := by
  unfold fX12_putPicture at h
  refine zj_iload_n E dX12_putPicture_0 rfl 3 rfl ?_
  refine zj_iconst (v := 1) E dX12_putPicture_1 (by decide) ?_
  refine zj_iconst (v := 4) E dX12_putPicture_2 (by decide) ?_
  refine zj_iload_n E dX12_putPicture_3 rfl 2 rfl ?_
  refine zj_imul E dX12_putPicture_4 ?_
  refine zj_iadd E dX12_putPicture_5 ?_
  refine zj_imul E dX12_putPicture_6 ?_
  refine zs_istore (lv2 := fun v1 => [(4, .int v1), (0, .ref p0), (1, .int p1), (2, .int p2), (3, .int p3)]) E dX12_putPicture_7 (by decide) (fun _ => rfl) h (fun v1 h => ?_)
  refine zj_aload_n E dX12_putPicture_9 rfl 1 rfl ?_
  refine zj_bipush (v := 120) E dX12_putPicture_10 (by decide) ?_
  obtain ⟨hk, h⟩ := oA_some h
  obtain ⟨σ1, hc, h⟩ := oB_some h
  refine zs_callV (As := [.int 120]) (rest := []) E zc11 zyX12_put zw_32_22 (kX12_put _ _ _ _ _ hc) rfl rfl hk rfl ⟨by decide, by decide⟩ ⟨by decide, by decide⟩ (Nat.le_of_ble_eq_true rfl) dX12_putPicture_12 rfl (show zJ Γ 9 0 0 σ1 15 [(4, .int v1), (0, .ref p0), (1, .int p1), (2, .int p2), (3, .int p3)] [] from ?_)
  refine zj_aload_n E dX12_putPicture_15 rfl 1 rfl ?_
  refine zj_iconst (v := 1) E dX12_putPicture_16 (by decide) ?_
  obtain ⟨hk, h⟩ := oA_some h
  obtain ⟨σ2, hc, h⟩ := oB_some h
  refine zs_callV (As := [.int 1]) (rest := []) E zc11 zyX12_put zw_32_22 (kX12_put _ _ _ _ _ hc) rfl rfl hk rfl ⟨by decide, by decide⟩ ⟨by decide, by decide⟩ (Nat.le_of_ble_eq_true rfl) dX12_putPicture_17 rfl (show zJ Γ 9 0 0 σ2 20 [(4, .int v1), (0, .ref p0), (1, .int p1), (2, .int p2), (3, .int p3)] [] from ?_)
  refine zj_aload_n E dX12_putPicture_20 rfl 1 rfl ?_
  refine zj_iconst (v := 1) E dX12_putPicture_21 (by decide) ?_
  obtain ⟨hk, h⟩ := oA_some h
  obtain ⟨σ3, hc, h⟩ := oB_some h
  refine zs_callV (As := [.int 1]) (rest := []) E zc11 zyX12_put zw_32_22 (kX12_put _ _ _ _ _ hc) rfl rfl hk rfl ⟨by decide, by decide⟩ ⟨by decide, by decide⟩ (Nat.le_of_ble_eq_true rfl) dX12_putPicture_22 rfl (show zJ Γ 9 0 0 σ3 25 [(4, .int v1), (0, .ref p0), (1, .int p1), (2, .int p2), (3, .int p3)] [] from ?_)
  refine zj_aload_n E dX12_putPicture_25 rfl 1 rfl ?_
  refine zj_iload E dX12_putPicture_26 0 rfl ?_
  obtain ⟨hk, h⟩ := oA_some h
  obtain ⟨σ4, hc, h⟩ := oB_some h
  refine zs_callV (As := [.int v1]) (rest := []) E zc11 zyX12_put zw_32_22 (kX12_put _ _ _ _ _ hc) rfl rfl hk rfl ⟨by decide, by decide⟩ ⟨by decide, by decide⟩ (Nat.le_of_ble_eq_true rfl) dX12_putPicture_28 rfl (show zJ Γ 9 0 0 σ4 31 [(4, .int v1), (0, .ref p0), (1, .int p1), (2, .int p2), (3, .int p3)] [] from ?_)
  refine zj_aload_n E dX12_putPicture_31 rfl 1 rfl ?_
  refine zj_iload E dX12_putPicture_32 0 rfl ?_
  refine zj_bipush (v := 8) E dX12_putPicture_34 (by decide) ?_
  refine zj_ishr E dX12_putPicture_36 ?_
  obtain ⟨hk, h⟩ := oA_some h
  obtain ⟨σ5, hc, h⟩ := oB_some h
  refine zs_callV (As := [.int (v1 >>> ((8 : Int32) &&& 31))]) (rest := []) E zc11 zyX12_put zw_32_22 (kX12_put _ _ _ _ _ hc) rfl rfl hk rfl ⟨by decide, by decide⟩ ⟨by decide, by decide⟩ (Nat.le_of_ble_eq_true rfl) dX12_putPicture_37 rfl (show zJ Γ 9 0 0 σ5 40 [(4, .int v1), (0, .ref p0), (1, .int p1), (2, .int p2), (3, .int p3)] [] from ?_)
  refine zj_aload_n E dX12_putPicture_40 rfl 1 rfl ?_
  refine zj_iload E dX12_putPicture_41 0 rfl ?_
  refine zj_iconst (v := (-1 : Int32)) E dX12_putPicture_43 (by decide) ?_
  refine zj_ixor E dX12_putPicture_44 ?_
  obtain ⟨hk, h⟩ := oA_some h
  obtain ⟨σ6, hc, h⟩ := oB_some h
  refine zs_callV (As := [.int (v1 ^^^ (-1 : Int32))]) (rest := []) E zc11 zyX12_put zw_32_22 (kX12_put _ _ _ _ _ hc) rfl rfl hk rfl ⟨by decide, by decide⟩ ⟨by decide, by decide⟩ (Nat.le_of_ble_eq_true rfl) dX12_putPicture_45 rfl (show zJ Γ 9 0 0 σ6 48 [(4, .int v1), (0, .ref p0), (1, .int p1), (2, .int p2), (3, .int p3)] [] from ?_)
  refine zj_aload_n E dX12_putPicture_48 rfl 1 rfl ?_
  refine zj_iload E dX12_putPicture_49 0 rfl ?_
  refine zj_iconst (v := (-1 : Int32)) E dX12_putPicture_51 (by decide) ?_
  refine zj_ixor E dX12_putPicture_52 ?_
  refine zj_bipush (v := 8) E dX12_putPicture_53 (by decide) ?_
  refine zj_ishr E dX12_putPicture_55 ?_
  obtain ⟨hk, h⟩ := oA_some h
  obtain ⟨σ7, hc, h⟩ := oB_some h
  refine zs_callV (As := [.int ((v1 ^^^ (-1 : Int32)) >>> ((8 : Int32) &&& 31))]) (rest := []) E zc11 zyX12_put zw_32_22 (kX12_put _ _ _ _ _ hc) rfl rfl hk rfl ⟨by decide, by decide⟩ ⟨by decide, by decide⟩ (Nat.le_of_ble_eq_true rfl) dX12_putPicture_56 rfl (show zJ Γ 9 0 0 σ7 59 [(4, .int v1), (0, .ref p0), (1, .int p1), (2, .int p2), (3, .int p3)] [] from ?_)
  refine zj_aload_n E dX12_putPicture_59 rfl 1 rfl ?_
  refine zs_getI E zc11 12 (by decide) zw_32_21 rfl dX12_putPicture_60 h (fun x1 h => ?_)
  refine zj_istore (lv2 := [(5, .int x1), (4, .int v1), (0, .ref p0), (1, .int p1), (2, .int p2), (3, .int p3)]) E dX12_putPicture_63 (by decide) rfl ?_
  refine zj_iconst (v := 0) E dX12_putPicture_65 (by decide) ?_
  refine zj_istore (lv2 := [(6, .int 0), (5, .int x1), (4, .int v1), (0, .ref p0), (1, .int p1), (2, .int p2), (3, .int p3)]) E dX12_putPicture_66 (by decide) rfl ?_
  obtain ⟨b2, hb2, h⟩ := oB_some h
  refine zj_lv [3, 4, 5, 6, 1, 0] rfl ?_
  refine zj_loop (wX12_putPicture_L68 E p0 p1 p2 p3 x1) zF (0, σ7) b2 hb2 ?_
  obtain ⟨σ11, rfl⟩ : ∃ z, z = b2 := ⟨_, rfl⟩
  try dsimp only at h
  show zJ Γ 9 0 0 σ11 122 [(0, .ref p0), (5, .int x1)] []
  refine zj_iconst (v := 1) E dX12_putPicture_122 (by decide) ?_
  refine zj_istore (lv2 := [(6, .int 1), (0, .ref p0), (5, .int x1)]) E dX12_putPicture_123 (by decide) rfl ?_
  refine zj_iconst (v := 0) E dX12_putPicture_125 (by decide) ?_
  refine zj_istore (lv2 := [(7, .int 0), (6, .int 1), (0, .ref p0), (5, .int x1)]) E dX12_putPicture_126 (by decide) rfl ?_
  refine zj_iload E dX12_putPicture_128 3 rfl ?_
  refine zj_istore (lv2 := [(8, .int x1), (7, .int 0), (6, .int 1), (0, .ref p0), (5, .int x1)]) E dX12_putPicture_130 (by decide) rfl ?_
  obtain ⟨b3, hb3, h⟩ := oB_some h
  refine zj_lv [3, 2, 1, 0] rfl ?_
  refine zj_loop (wX12_putPicture_L132 E σ11 p0) zF (1, 0, x1) b3 hb3 ?_
  obtain ⟨v7, v8⟩ := b3
  try dsimp only at h
  show zJ Γ 9 0 0 σ11 176 [(0, .ref p0), (6, .int v7), (7, .int v8)] []
  refine zj_aload_n E dX12_putPicture_176 rfl 0 rfl ?_
  refine zj_iload E dX12_putPicture_177 2 rfl ?_
  refine zj_bipush (v := 16) E dX12_putPicture_179 (by decide) ?_
  refine zj_ishl E dX12_putPicture_181 ?_
  refine zj_iload E dX12_putPicture_182 1 rfl ?_
  refine zj_ior E dX12_putPicture_184 ?_
  obtain ⟨hk, h⟩ := oA_some h
  obtain ⟨σ12, hc, h⟩ := oB_some h
  refine zs_callV (As := [.int ((v8 <<< ((16 : Int32) &&& 31)) ||| v7)]) (rest := []) E zc11 zyX12_putNumber zw_33_6 (kX12_putNumber _ _ _ _ _ hc) rfl rfl hk rfl ⟨by decide, by decide⟩ ⟨by decide, by decide⟩ (Nat.le_of_ble_eq_true rfl) dX12_putPicture_185 rfl (show zJ Γ 9 0 0 σ12 188 [(0, .ref p0), (6, .int v7), (7, .int v8)] [] from ?_)
  have e9 := Option.some.inj h
  subst e9
  exact (show zRet Γ cX12_putPicture 9 0 0 (none) σ12 from K) _ _ dX12_putPicture_188
set_option maxRecDepth 100000 in
theorem kX12_putPicture (l : Launch) (D : va_G) (cs : zCs) (z0 : Nat) (σ : zS) {p0 : Nat} {p1 : Int32} {p2 : Int32} {p3 : Int32}  {σ' : zS} (h : fX12_putPicture σ p0 p1 p2 p3 = some σ') : zM l D cs z0 yX12_putPicture cX12_putPicture 9 none { frames := 2, cells := 0, slots := 0, locals := 42 } [.ref p0, .int p1, .int p2, .int p3] σ none σ' 0 0 := by
  exact zM_of (by decide) rfl rfl (Nat.le_of_ble_eq_true rfl) rfl (fun Γ e1 e2 e3 e4 E hN K => wX12_putPicture E σ _ _ _ _ h K)
/-! X12_write -/
def jX12_write_33 (Γ : zG) (l0 : Nat) : (Int32 × zS) → Prop := fun x => zJ Γ 4 0 0 x.2 33 [(0, .ref l0), (1, .int x.1)] []
def eX12_write_33 (Γ : zG) (l0 : Nat) : zS → Prop := fun b => zJ Γ 4 0 0 b 53 [(0, .ref l0)] []
def bX12_write_33 (l0 : Nat) (l1 : Int32) (σ : zS) : Option ((Int32 × zS) ⊕ zS) := (if (8 : Int32) ≤ l1 then some (.inr σ) else oB (fX12_mark σ l1) (fun x3 => oA (zk σ l0 = 12) (oB (fX12_put σ l0 x3) (fun σ3 => oL (l1 + 1) (fun v1 => some (.inl (v1, σ3)))))))
set_option maxRecDepth 100000 in
theorem wX12_write_L33 {Γ : zG} (E : zE Γ cX12_write RX12 4 { frames := 4, cells := 0, slots := 0, locals := 91 }) (l0 : Nat) : ∀ x R, (fun x => bX12_write_33 l0 x.1 x.2) x = some R → Sum.elim (jX12_write_33 Γ l0) (eX12_write_33 Γ l0) R → jX12_write_33 Γ l0 x := by
  intro x R h K
  obtain ⟨l1, σ⟩ := x
  have h : bX12_write_33 l0 l1 σ = some R := h
  show zJ Γ 4 0 0 σ 33 [(0, .ref l0), (1, .int l1)] []
  unfold bX12_write_33 at h
  refine zj_iload_n E dX12_write_33 rfl 1 rfl ?_
  refine zj_bipush (v := 8) E dX12_write_34 (by decide) ?_
  refine zj_icmp_ge (tgt := 53) E dX12_write_36 (by decide) h (fun h => ?_) (fun h => ?_)
  · have e9 := Option.some.inj h
    subst e9
    refine zj_lv [0] rfl ?_
    exact K
  · refine zj_aload_n E dX12_write_39 rfl 0 rfl ?_
    refine zj_iload_n E dX12_write_40 rfl 1 rfl ?_
    obtain ⟨x3, hc, h⟩ := oB_some h
    refine zs_callS (As := [.int l1]) (rest := [.ref l0]) E zyX12_mark zw_18_11 (kX12_mark _ _ _ _ _ hc) rfl rfl rfl ⟨by decide, by decide⟩ ⟨by decide, by decide⟩ (Nat.le_of_ble_eq_true rfl) dX12_write_41 rfl (show zJ Γ 4 0 0 σ 44 [(0, .ref l0), (1, .int l1)] [.int x3, .ref l0] from ?_)
    obtain ⟨hk, h⟩ := oA_some h
    obtain ⟨σ3, hc, h⟩ := oB_some h
    refine zs_callV (As := [.int x3]) (rest := []) E zc11 zyX12_put zw_32_22 (kX12_put _ _ _ _ _ hc) rfl rfl hk rfl ⟨by decide, by decide⟩ ⟨by decide, by decide⟩ (Nat.le_of_ble_eq_true rfl) dX12_write_44 rfl (show zJ Γ 4 0 0 σ3 47 [(0, .ref l0), (1, .int l1)] [] from ?_)
    refine zs_iinc (lv2 := fun v1 => [(1, .int v1), (0, .ref l0)]) E dX12_write_47 1 rfl (by decide) (by decide) (fun _ => rfl) h (fun v1 h => ?_)
    refine zj_goto (tgt := 33) E dX12_write_50 (by decide) ?_
    have e9 := Option.some.inj h
    subst e9
    refine zj_lv [1, 0] rfl ?_
    exact K
def jX12_write_234 (Γ : zG) (l0 : Nat) : (Int32 × Int32 × zS) → Prop := fun x => zJ Γ 4 0 0 x.2.2 234 [(0, .ref l0), (2, .int x.1), (3, .int x.2.1)] []
def eX12_write_234 (Γ : zG) (l0 : Nat) : zS → Prop := fun b => zJ Γ 4 0 0 b 304 [(0, .ref l0)] []
def bX12_write_234 (l0 : Nat) (l2 : Int32) (l3 : Int32) (σ : zS) : Option ((Int32 × Int32 × zS) ⊕ zS) := oGR σ 12 l0 4 (fun a12 => oLd σ 21 a12 4 (fun x16 => (if x16 ≤ l3 then some (.inr σ) else oA (zk σ l0 = 12) (oB (fX12_putControl σ l0 l3 l2) (fun σ21 => oA (zk σ21 l0 = 12) (oC (fX12_beginChunk σ21 l0 102 100 65 84) (fun x17 σ22 => oA (zk σ22 l0 = 12) (oB (fX12_putNumber σ22 l0 (l2 + (1 : Int32))) (fun σ23 => oL (l2 + (2 : Int32)) (fun v2 => oA (zk σ23 l0 = 12) (oB (fX12_region σ23 l0 0 l3 0) (fun x18 => oA (zk σ23 l0 = 12) (oB (fX12_region σ23 l0 0 l3 1) (fun x19 => oA (zk σ23 l0 = 12) (oB (fX12_putPicture σ23 l0 l3 x18 x19) (fun σ24 => oA (zk σ24 l0 = 12) (oB (fX12_endChunk σ24 l0 x17) (fun σ25 => oL (l3 + 1) (fun v3 => some (.inl (v2, v3, σ25)))))))))))))))))))))
set_option maxRecDepth 100000 in
theorem wX12_write_L234 {Γ : zG} (E : zE Γ cX12_write RX12 4 { frames := 4, cells := 0, slots := 0, locals := 91 }) (l0 : Nat) : ∀ x R, (fun x => bX12_write_234 l0 x.1 x.2.1 x.2.2) x = some R → Sum.elim (jX12_write_234 Γ l0) (eX12_write_234 Γ l0) R → jX12_write_234 Γ l0 x := by
  intro x R h K
  obtain ⟨l2, l3, σ⟩ := x
  have h : bX12_write_234 l0 l2 l3 σ = some R := h
  show zJ Γ 4 0 0 σ 234 [(0, .ref l0), (2, .int l2), (3, .int l3)] []
  unfold bX12_write_234 at h
  refine zj_iload_n E dX12_write_234 rfl 2 rfl ?_
  refine zj_aload_n E dX12_write_235 rfl 0 rfl ?_
  refine zs_getR E zc11 4 (by decide) zw_6_5 rfl dX12_write_236 h (fun a12 h => ?_)
  refine zj_iconst (v := 4) E dX12_write_239 (by decide) ?_
  refine zs_iald E dX12_write_240 h (fun x16 h => ?_)
  refine zj_icmp_ge (tgt := 304) E dX12_write_241 (by decide) h (fun h => ?_) (fun h => ?_)
  · have e9 := Option.some.inj h
    subst e9
    refine zj_lv [0] rfl ?_
    exact K
  · refine zj_aload_n E dX12_write_244 rfl 0 rfl ?_
    refine zj_iload_n E dX12_write_245 rfl 2 rfl ?_
    refine zj_iload_n E dX12_write_246 rfl 1 rfl ?_
    obtain ⟨hk, h⟩ := oA_some h
    obtain ⟨σ21, hc, h⟩ := oB_some h
    refine zs_callV (As := [.int l3, .int l2]) (rest := []) E zc11 zyX12_putControl zw_33_14 (kX12_putControl _ _ _ _ _ hc) rfl rfl hk rfl ⟨by decide, by decide⟩ ⟨by decide, by decide⟩ (Nat.le_of_ble_eq_true rfl) dX12_write_247 rfl (show zJ Γ 4 0 0 σ21 250 [(0, .ref l0), (2, .int l2), (3, .int l3)] [] from ?_)
    refine zj_aload_n E dX12_write_250 rfl 0 rfl ?_
    refine zj_bipush (v := 102) E dX12_write_251 (by decide) ?_
    refine zj_bipush (v := 100) E dX12_write_253 (by decide) ?_
    refine zj_bipush (v := 65) E dX12_write_255 (by decide) ?_
    refine zj_bipush (v := 84) E dX12_write_257 (by decide) ?_
    obtain ⟨hk, h⟩ := oA_some h
    obtain ⟨x17, σ22, hc, h⟩ := oC_some h
    refine zs_callV (As := [.int 102, .int 100, .int 65, .int 84]) (rest := []) E zc11 zyX12_beginChunk zw_33_2 (kX12_beginChunk _ _ _ _ _ hc) rfl rfl hk rfl ⟨by decide, by decide⟩ ⟨by decide, by decide⟩ (Nat.le_of_ble_eq_true rfl) dX12_write_259 rfl (show zJ Γ 4 0 0 σ22 262 [(0, .ref l0), (2, .int l2), (3, .int l3)] [.int x17] from ?_)
    refine zj_istore_n (lv2 := [(1, .int x17), (0, .ref l0), (2, .int l2), (3, .int l3)]) E dX12_write_262 rfl (by decide) rfl ?_
    refine zj_aload_n E dX12_write_263 rfl 1 rfl ?_
    refine zj_iload_n E dX12_write_264 rfl 2 rfl ?_
    refine zj_iconst (v := 1) E dX12_write_265 (by decide) ?_
    refine zj_iadd E dX12_write_266 ?_
    obtain ⟨hk, h⟩ := oA_some h
    obtain ⟨σ23, hc, h⟩ := oB_some h
    refine zs_callV (As := [.int (l2 + (1 : Int32))]) (rest := []) E zc11 zyX12_putNumber zw_33_6 (kX12_putNumber _ _ _ _ _ hc) rfl rfl hk rfl ⟨by decide, by decide⟩ ⟨by decide, by decide⟩ (Nat.le_of_ble_eq_true rfl) dX12_write_267 rfl (show zJ Γ 4 0 0 σ23 270 [(1, .int x17), (0, .ref l0), (2, .int l2), (3, .int l3)] [] from ?_)
    refine zj_iload_n E dX12_write_270 rfl 2 rfl ?_
    refine zj_iconst (v := 2) E dX12_write_271 (by decide) ?_
    refine zj_iadd E dX12_write_272 ?_
    refine zs_istore_n (lv2 := fun v2 => [(2, .int v2), (1, .int x17), (0, .ref l0), (3, .int l3)]) E dX12_write_273 rfl (by decide) (fun _ => rfl) h (fun v2 h => ?_)
    refine zj_aload_n E dX12_write_274 rfl 2 rfl ?_
    refine zj_iload_n E dX12_write_275 rfl 3 rfl ?_
    refine zj_aload_n E dX12_write_276 rfl 2 rfl ?_
    refine zj_iconst (v := 0) E dX12_write_277 (by decide) ?_
    refine zj_iload_n E dX12_write_278 rfl 3 rfl ?_
    refine zj_iconst (v := 0) E dX12_write_279 (by decide) ?_
    obtain ⟨hk, h⟩ := oA_some h
    obtain ⟨x18, hc, h⟩ := oB_some h
    refine zs_callV (As := [.int 0, .int l3, .int 0]) (rest := [.int l3, .ref l0]) E zc11 zyX12_region zw_22_1 (kX12_region _ _ _ _ _ hc) rfl rfl hk rfl ⟨by decide, by decide⟩ ⟨by decide, by decide⟩ (Nat.le_of_ble_eq_true rfl) dX12_write_280 rfl (show zJ Γ 4 0 0 σ23 283 [(2, .int v2), (1, .int x17), (0, .ref l0), (3, .int l3)] [.int x18, .int l3, .ref l0] from ?_)
    refine zj_aload_n E dX12_write_283 rfl 2 rfl ?_
    refine zj_iconst (v := 0) E dX12_write_284 (by decide) ?_
    refine zj_iload_n E dX12_write_285 rfl 3 rfl ?_
    refine zj_iconst (v := 1) E dX12_write_286 (by decide) ?_
    obtain ⟨hk, h⟩ := oA_some h
    obtain ⟨x19, hc, h⟩ := oB_some h
    refine zs_callV (As := [.int 0, .int l3, .int 1]) (rest := [.int x18, .int l3, .ref l0]) E zc11 zyX12_region zw_22_1 (kX12_region _ _ _ _ _ hc) rfl rfl hk rfl ⟨by decide, by decide⟩ ⟨by decide, by decide⟩ (Nat.le_of_ble_eq_true rfl) dX12_write_287 rfl (show zJ Γ 4 0 0 σ23 290 [(2, .int v2), (1, .int x17), (0, .ref l0), (3, .int l3)] [.int x19, .int x18, .int l3, .ref l0] from ?_)
    obtain ⟨hk, h⟩ := oA_some h
    obtain ⟨σ24, hc, h⟩ := oB_some h
    refine zs_callV (As := [.int l3, .int x18, .int x19]) (rest := []) E zc11 zyX12_putPicture zw_33_18 (kX12_putPicture _ _ _ _ _ hc) rfl rfl hk rfl ⟨by decide, by decide⟩ ⟨by decide, by decide⟩ (Nat.le_of_ble_eq_true rfl) dX12_write_290 rfl (show zJ Γ 4 0 0 σ24 293 [(2, .int v2), (1, .int x17), (0, .ref l0), (3, .int l3)] [] from ?_)
    refine zj_aload_n E dX12_write_293 rfl 2 rfl ?_
    refine zj_iload_n E dX12_write_294 rfl 1 rfl ?_
    obtain ⟨hk, h⟩ := oA_some h
    obtain ⟨σ25, hc, h⟩ := oB_some h
    refine zs_callV (As := [.int x17]) (rest := []) E zc11 zyX12_endChunk zw_33_10 (kX12_endChunk _ _ _ _ _ hc) rfl rfl hk rfl ⟨by decide, by decide⟩ ⟨by decide, by decide⟩ (Nat.le_of_ble_eq_true rfl) dX12_write_295 rfl (show zJ Γ 4 0 0 σ25 298 [(2, .int v2), (1, .int x17), (0, .ref l0), (3, .int l3)] [] from ?_)
    refine zs_iinc (lv2 := fun v3 => [(3, .int v3), (2, .int v2), (1, .int x17), (0, .ref l0)]) E dX12_write_298 3 rfl (by decide) (by decide) (fun _ => rfl) h (fun v3 h => ?_)
    refine zj_goto (tgt := 234) E dX12_write_301 (by decide) ?_
    have e9 := Option.some.inj h
    subst e9
    refine zj_lv [3, 1, 0] rfl ?_
    exact K
def fX12_write_207 (σ : zS) (l0 : Nat) (l1 : Int32) (l2 : Int32) (s0 : Int32) (s1 : Nat) : Option (Int32 × zS) := oGR σ 12 l0 4 (fun a9 => oLd σ 21 a9 1 (fun x13 => oGR σ 12 l0 4 (fun a10 => oLd σ 21 a10 2 (fun x14 => oA (zk σ s1 = 12) (oB (fX12_putPicture σ s1 s0 x13 x14) (fun σ19 => oA (zk σ19 l0 = 12) (oB (fX12_endChunk σ19 l0 l1) (fun σ20 => oGR σ20 12 l0 4 (fun a11 => oLd σ20 21 a11 5 (fun x15 => oB (zloop zF (fun x => bX12_write_234 l0 x.1 x.2.1 x.2.2) (l2, x15, σ20)) (fun b2 => (fun σ26 => oA (zk σ26 l0 = 12) (oC (fX12_beginChunk σ26 l0 73 69 78 68) (fun x20 σ27 => oA (zk σ27 l0 = 12) (oB (fX12_endChunk σ27 l0 x20) (fun σ28 => oGI σ28 12 l0 12 (fun x21 => some (x21, σ28))))))) b2)))))))))))
set_option maxRecDepth 100000 in
theorem wX12_write_207 {Γ : zG} (E : zE Γ cX12_write RX12 4 { frames := 4, cells := 0, slots := 0, locals := 91 }) (σ : zS) (l0 : Nat) (l1 : Int32) (l2 : Int32) (s0 : Int32) (s1 : Nat) {R : (Int32 × zS)} (h : fX12_write_207 σ l0 l1 l2 s0 s1 = some R) (K : zRet Γ cX12_write 4 0 0 (some (.int R.1)) R.2) : zJ Γ 4 0 0 σ 207 [(0, .ref l0), (1, .int l1), (2, .int l2)] [.int s0, .ref s1] := by
  unfold fX12_write_207 at h
  refine zj_aload_n E dX12_write_207 rfl 0 rfl ?_
  refine zs_getR E zc11 4 (by decide) zw_6_5 rfl dX12_write_208 h (fun a9 h => ?_)
  refine zj_iconst (v := 1) E dX12_write_211 (by decide) ?_
  refine zs_iald E dX12_write_212 h (fun x13 h => ?_)
  refine zj_aload_n E dX12_write_213 rfl 0 rfl ?_
  refine zs_getR E zc11 4 (by decide) zw_6_5 rfl dX12_write_214 h (fun a10 h => ?_)
  refine zj_iconst (v := 2) E dX12_write_217 (by decide) ?_
  refine zs_iald E dX12_write_218 h (fun x14 h => ?_)
  obtain ⟨hk, h⟩ := oA_some h
  obtain ⟨σ19, hc, h⟩ := oB_some h
  refine zs_callV (As := [.int s0, .int x13, .int x14]) (rest := []) E zc11 zyX12_putPicture zw_33_18 (kX12_putPicture _ _ _ _ _ hc) rfl rfl hk rfl ⟨by decide, by decide⟩ ⟨by decide, by decide⟩ (Nat.le_of_ble_eq_true rfl) dX12_write_219 rfl (show zJ Γ 4 0 0 σ19 222 [(0, .ref l0), (1, .int l1), (2, .int l2)] [] from ?_)
  refine zj_aload_n E dX12_write_222 rfl 0 rfl ?_
  refine zj_iload_n E dX12_write_223 rfl 1 rfl ?_
  obtain ⟨hk, h⟩ := oA_some h
  obtain ⟨σ20, hc, h⟩ := oB_some h
  refine zs_callV (As := [.int l1]) (rest := []) E zc11 zyX12_endChunk zw_33_10 (kX12_endChunk _ _ _ _ _ hc) rfl rfl hk rfl ⟨by decide, by decide⟩ ⟨by decide, by decide⟩ (Nat.le_of_ble_eq_true rfl) dX12_write_224 rfl (show zJ Γ 4 0 0 σ20 227 [(0, .ref l0), (1, .int l1), (2, .int l2)] [] from ?_)
  refine zj_aload_n E dX12_write_227 rfl 0 rfl ?_
  refine zs_getR E zc11 4 (by decide) zw_6_5 rfl dX12_write_228 h (fun a11 h => ?_)
  refine zj_iconst (v := 5) E dX12_write_231 (by decide) ?_
  refine zs_iald E dX12_write_232 h (fun x15 h => ?_)
  refine zj_istore_n (lv2 := [(3, .int x15), (0, .ref l0), (1, .int l1), (2, .int l2)]) E dX12_write_233 rfl (by decide) rfl ?_
  obtain ⟨b2, hb2, h⟩ := oB_some h
  refine zj_lv [1, 3, 0] rfl ?_
  refine zj_loop (wX12_write_L234 E l0) zF (l2, x15, σ20) b2 hb2 ?_
  obtain ⟨σ26, rfl⟩ : ∃ z, z = b2 := ⟨_, rfl⟩
  try dsimp only at h
  show zJ Γ 4 0 0 σ26 304 [(0, .ref l0)] []
  refine zj_aload_n E dX12_write_304 rfl 0 rfl ?_
  refine zj_aload_n E dX12_write_305 rfl 0 rfl ?_
  refine zj_bipush (v := 73) E dX12_write_306 (by decide) ?_
  refine zj_bipush (v := 69) E dX12_write_308 (by decide) ?_
  refine zj_bipush (v := 78) E dX12_write_310 (by decide) ?_
  refine zj_bipush (v := 68) E dX12_write_312 (by decide) ?_
  obtain ⟨hk, h⟩ := oA_some h
  obtain ⟨x20, σ27, hc, h⟩ := oC_some h
  refine zs_callV (As := [.int 73, .int 69, .int 78, .int 68]) (rest := [.ref l0]) E zc11 zyX12_beginChunk zw_33_2 (kX12_beginChunk _ _ _ _ _ hc) rfl rfl hk rfl ⟨by decide, by decide⟩ ⟨by decide, by decide⟩ (Nat.le_of_ble_eq_true rfl) dX12_write_314 rfl (show zJ Γ 4 0 0 σ27 317 [(0, .ref l0)] [.int x20, .ref l0] from ?_)
  obtain ⟨hk, h⟩ := oA_some h
  obtain ⟨σ28, hc, h⟩ := oB_some h
  refine zs_callV (As := [.int x20]) (rest := []) E zc11 zyX12_endChunk zw_33_10 (kX12_endChunk _ _ _ _ _ hc) rfl rfl hk rfl ⟨by decide, by decide⟩ ⟨by decide, by decide⟩ (Nat.le_of_ble_eq_true rfl) dX12_write_317 rfl (show zJ Γ 4 0 0 σ28 320 [(0, .ref l0)] [] from ?_)
  refine zj_aload_n E dX12_write_320 rfl 0 rfl ?_
  refine zs_getI E zc11 12 (by decide) zw_32_21 rfl dX12_write_321 h (fun x21 h => ?_)
  have e9 := Option.some.inj h
  subst e9
  exact (show zRet Γ cX12_write 4 0 0 (some (.int x21)) σ28 from K) _ _ dX12_write_324
def fX12_write_177 (σ : zS) (l0 : Nat) (l2 : Int32) : Option (Int32 × zS) := oA (zk σ l0 = 12) (oC (fX12_beginChunk σ l0 73 68 65 84) (fun x11 σ18 => oGR σ18 12 l0 4 (fun a8 => oLd σ18 21 a8 5 (fun x12 => (if x12 = (1 : Int32) then fX12_write_207 σ18 l0 x11 l2 0 l0 else fX12_write_207 σ18 l0 x11 l2 8 l0)))))
set_option maxRecDepth 100000 in
theorem wX12_write_177 {Γ : zG} (E : zE Γ cX12_write RX12 4 { frames := 4, cells := 0, slots := 0, locals := 91 }) (σ : zS) (l0 : Nat) (l2 : Int32) {R : (Int32 × zS)} (h : fX12_write_177 σ l0 l2 = some R) (K : zRet Γ cX12_write 4 0 0 (some (.int R.1)) R.2) : zJ Γ 4 0 0 σ 177 [(0, .ref l0), (2, .int l2)] [] := by
  unfold fX12_write_177 at h
  refine zj_aload_n E dX12_write_177 rfl 0 rfl ?_
  refine zj_bipush (v := 73) E dX12_write_178 (by decide) ?_
  refine zj_bipush (v := 68) E dX12_write_180 (by decide) ?_
  refine zj_bipush (v := 65) E dX12_write_182 (by decide) ?_
  refine zj_bipush (v := 84) E dX12_write_184 (by decide) ?_
  obtain ⟨hk, h⟩ := oA_some h
  obtain ⟨x11, σ18, hc, h⟩ := oC_some h
  refine zs_callV (As := [.int 73, .int 68, .int 65, .int 84]) (rest := []) E zc11 zyX12_beginChunk zw_33_2 (kX12_beginChunk _ _ _ _ _ hc) rfl rfl hk rfl ⟨by decide, by decide⟩ ⟨by decide, by decide⟩ (Nat.le_of_ble_eq_true rfl) dX12_write_186 rfl (show zJ Γ 4 0 0 σ18 189 [(0, .ref l0), (2, .int l2)] [.int x11] from ?_)
  refine zj_istore_n (lv2 := [(1, .int x11), (0, .ref l0), (2, .int l2)]) E dX12_write_189 rfl (by decide) rfl ?_
  refine zj_aload_n E dX12_write_190 rfl 1 rfl ?_
  refine zj_aload_n E dX12_write_191 rfl 1 rfl ?_
  refine zs_getR E zc11 4 (by decide) zw_6_5 rfl dX12_write_192 h (fun a8 h => ?_)
  refine zj_iconst (v := 5) E dX12_write_195 (by decide) ?_
  refine zs_iald E dX12_write_196 h (fun x12 h => ?_)
  refine zj_iconst (v := 1) E dX12_write_197 (by decide) ?_
  refine zj_icmp_ne (tgt := 205) E dX12_write_198 (by decide) h (fun h => ?_) (fun h => ?_)
  · refine zj_bipush (v := 8) E dX12_write_205 (by decide) ?_
    refine zj_lv [1, 0, 2] rfl ?_
    exact wX12_write_207 E _ _ _ _ _ _ h K
  · refine zj_iconst (v := 0) E dX12_write_201 (by decide) ?_
    refine zj_goto (tgt := 207) E dX12_write_202 (by decide) ?_
    refine zj_lv [1, 0, 2] rfl ?_
    exact wX12_write_207 E _ _ _ _ _ _ h K
def fX12_write (σ : zS) (p0 : Nat) : Option (Int32 × zS) := oPI σ 12 p0 0 0 (fun σ1 => oGR σ1 12 p0 4 (fun a1 => oLd σ1 21 a1 0 (fun x1 => (if x1 = 0 then some ((-13 : Int32), σ1) else oGR σ1 12 p0 4 (fun a2 => oLd σ1 21 a2 4 (fun x2 => (if x2 = 0 then some ((-13 : Int32), σ1) else oPI σ1 12 p0 12 0 (fun σ2 => oB (zloop zF (fun x => bX12_write_33 p0 x.1 x.2) (0, σ2)) (fun b1 => (fun σ4 => oA (zk σ4 p0 = 12) (oC (fX12_beginChunk σ4 p0 73 72 68 82) (fun x4 σ5 => oGR σ5 12 p0 4 (fun a3 => oLd σ5 21 a3 1 (fun x5 => oA (zk σ5 p0 = 12) (oB (fX12_putNumber σ5 p0 x5) (fun σ6 => oGR σ6 12 p0 4 (fun a4 => oLd σ6 21 a4 2 (fun x6 => oA (zk σ6 p0 = 12) (oB (fX12_putNumber σ6 p0 x6) (fun σ7 => oA (zk σ7 p0 = 12) (oB (fX12_put σ7 p0 8) (fun σ8 => oA (zk σ8 p0 = 12) (oB (fX12_put σ8 p0 6) (fun σ9 => oA (zk σ9 p0 = 12) (oB (fX12_put σ9 p0 0) (fun σ10 => oA (zk σ10 p0 = 12) (oB (fX12_put σ10 p0 0) (fun σ11 => oA (zk σ11 p0 = 12) (oB (fX12_put σ11 p0 0) (fun σ12 => oA (zk σ12 p0 = 12) (oB (fX12_endChunk σ12 p0 x4) (fun σ13 => oA (zk σ13 p0 = 12) (oC (fX12_beginChunk σ13 p0 97 99 84 76) (fun x7 σ14 => oGR σ14 12 p0 4 (fun a5 => oLd σ14 21 a5 4 (fun x8 => oA (zk σ14 p0 = 12) (oB (fX12_putNumber σ14 p0 x8) (fun σ15 => oGR σ15 12 p0 4 (fun a6 => oLd σ15 21 a6 3 (fun x9 => oA (zk σ15 p0 = 12) (oB (fX12_putNumber σ15 p0 x9) (fun σ16 => oA (zk σ16 p0 = 12) (oB (fX12_endChunk σ16 p0 x7) (fun σ17 => oGR σ17 12 p0 4 (fun a7 => oLd σ17 21 a7 5 (fun x10 => (if x10 = (1 : Int32) then oA (zk σ17 p0 = 12) (oB (fX12_putControl σ17 p0 0 0) (fun σ29 => oL (0 + 1) (fun v4 => fX12_write_177 σ29 p0 v4))) else fX12_write_177 σ17 p0 0)))))))))))))))))))))))))))))))))))))) b1)))))))))
set_option maxRecDepth 100000 in
theorem wX12_write {Γ : zG} (E : zE Γ cX12_write RX12 4 { frames := 4, cells := 0, slots := 0, locals := 91 }) (σ : zS) (p0 : Nat) {R : (Int32 × zS)} (h : fX12_write σ p0 = some R) (K : zRet Γ cX12_write 4 0 0 (some (.int R.1)) R.2) : zJ Γ 4 0 0 σ 0 [(0, .ref p0)] [] := by
  unfold fX12_write at h
  refine zj_aload_n E dX12_write_0 rfl 0 rfl ?_
  refine zj_iconst (v := 0) E dX12_write_1 (by decide) ?_
  refine zs_putI E zc11 0 (by decide) zw_7_9 rfl rfl dX12_write_2 h (fun σ1 h => ?_)
  refine zj_aload_n E dX12_write_5 rfl 0 rfl ?_
  refine zs_getR E zc11 4 (by decide) zw_6_5 rfl dX12_write_6 h (fun a1 h => ?_)
  refine zj_iconst (v := 0) E dX12_write_9 (by decide) ?_
  refine zs_iald E dX12_write_10 h (fun x1 h => ?_)
  refine zj_if_eq (tgt := 23) E dX12_write_11 (by decide) h (fun h => ?_) (fun h => ?_)
  · refine zj_bipush (v := (-13 : Int32)) E dX12_write_23 (by decide) ?_
    have e9 := Option.some.inj h
    subst e9
    exact (show zRet Γ cX12_write 4 0 0 (some (.int (-13 : Int32))) σ1 from K) _ _ dX12_write_25
  · refine zj_aload_n E dX12_write_14 rfl 0 rfl ?_
    refine zs_getR E zc11 4 (by decide) zw_6_5 rfl dX12_write_15 h (fun a2 h => ?_)
    refine zj_iconst (v := 4) E dX12_write_18 (by decide) ?_
    refine zs_iald E dX12_write_19 h (fun x2 h => ?_)
    refine zj_if_ne (tgt := 26) E dX12_write_20 (by decide) h (fun h => ?_) (fun h => ?_)
    · refine zj_aload_n E dX12_write_26 rfl 0 rfl ?_
      refine zj_iconst (v := 0) E dX12_write_27 (by decide) ?_
      refine zs_putI E zc11 12 (by decide) zw_32_21 rfl rfl dX12_write_28 h (fun σ2 h => ?_)
      refine zj_iconst (v := 0) E dX12_write_31 (by decide) ?_
      refine zj_istore_n (lv2 := [(1, .int 0), (0, .ref p0)]) E dX12_write_32 rfl (by decide) rfl ?_
      obtain ⟨b1, hb1, h⟩ := oB_some h
      refine zj_lv [1, 0] rfl ?_
      refine zj_loop (wX12_write_L33 E p0) zF (0, σ2) b1 hb1 ?_
      obtain ⟨σ4, rfl⟩ : ∃ z, z = b1 := ⟨_, rfl⟩
      try dsimp only at h
      show zJ Γ 4 0 0 σ4 53 [(0, .ref p0)] []
      refine zj_aload_n E dX12_write_53 rfl 0 rfl ?_
      refine zj_bipush (v := 73) E dX12_write_54 (by decide) ?_
      refine zj_bipush (v := 72) E dX12_write_56 (by decide) ?_
      refine zj_bipush (v := 68) E dX12_write_58 (by decide) ?_
      refine zj_bipush (v := 82) E dX12_write_60 (by decide) ?_
      obtain ⟨hk, h⟩ := oA_some h
      obtain ⟨x4, σ5, hc, h⟩ := oC_some h
      refine zs_callV (As := [.int 73, .int 72, .int 68, .int 82]) (rest := []) E zc11 zyX12_beginChunk zw_33_2 (kX12_beginChunk _ _ _ _ _ hc) rfl rfl hk rfl ⟨by decide, by decide⟩ ⟨by decide, by decide⟩ (Nat.le_of_ble_eq_true rfl) dX12_write_62 rfl (show zJ Γ 4 0 0 σ5 65 [(0, .ref p0)] [.int x4] from ?_)
      refine zj_istore_n (lv2 := [(1, .int x4), (0, .ref p0)]) E dX12_write_65 rfl (by decide) rfl ?_
      refine zj_aload_n E dX12_write_66 rfl 1 rfl ?_
      refine zj_aload_n E dX12_write_67 rfl 1 rfl ?_
      refine zs_getR E zc11 4 (by decide) zw_6_5 rfl dX12_write_68 h (fun a3 h => ?_)
      refine zj_iconst (v := 1) E dX12_write_71 (by decide) ?_
      refine zs_iald E dX12_write_72 h (fun x5 h => ?_)
      obtain ⟨hk, h⟩ := oA_some h
      obtain ⟨σ6, hc, h⟩ := oB_some h
      refine zs_callV (As := [.int x5]) (rest := []) E zc11 zyX12_putNumber zw_33_6 (kX12_putNumber _ _ _ _ _ hc) rfl rfl hk rfl ⟨by decide, by decide⟩ ⟨by decide, by decide⟩ (Nat.le_of_ble_eq_true rfl) dX12_write_73 rfl (show zJ Γ 4 0 0 σ6 76 [(1, .int x4), (0, .ref p0)] [] from ?_)
      refine zj_aload_n E dX12_write_76 rfl 1 rfl ?_
      refine zj_aload_n E dX12_write_77 rfl 1 rfl ?_
      refine zs_getR E zc11 4 (by decide) zw_6_5 rfl dX12_write_78 h (fun a4 h => ?_)
      refine zj_iconst (v := 2) E dX12_write_81 (by decide) ?_
      refine zs_iald E dX12_write_82 h (fun x6 h => ?_)
      obtain ⟨hk, h⟩ := oA_some h
      obtain ⟨σ7, hc, h⟩ := oB_some h
      refine zs_callV (As := [.int x6]) (rest := []) E zc11 zyX12_putNumber zw_33_6 (kX12_putNumber _ _ _ _ _ hc) rfl rfl hk rfl ⟨by decide, by decide⟩ ⟨by decide, by decide⟩ (Nat.le_of_ble_eq_true rfl) dX12_write_83 rfl (show zJ Γ 4 0 0 σ7 86 [(1, .int x4), (0, .ref p0)] [] from ?_)
      refine zj_aload_n E dX12_write_86 rfl 1 rfl ?_
      refine zj_bipush (v := 8) E dX12_write_87 (by decide) ?_
      obtain ⟨hk, h⟩ := oA_some h
      obtain ⟨σ8, hc, h⟩ := oB_some h
      refine zs_callV (As := [.int 8]) (rest := []) E zc11 zyX12_put zw_32_22 (kX12_put _ _ _ _ _ hc) rfl rfl hk rfl ⟨by decide, by decide⟩ ⟨by decide, by decide⟩ (Nat.le_of_ble_eq_true rfl) dX12_write_89 rfl (show zJ Γ 4 0 0 σ8 92 [(1, .int x4), (0, .ref p0)] [] from ?_)
      refine zj_aload_n E dX12_write_92 rfl 1 rfl ?_
      refine zj_bipush (v := 6) E dX12_write_93 (by decide) ?_
      obtain ⟨hk, h⟩ := oA_some h
      obtain ⟨σ9, hc, h⟩ := oB_some h
      refine zs_callV (As := [.int 6]) (rest := []) E zc11 zyX12_put zw_32_22 (kX12_put _ _ _ _ _ hc) rfl rfl hk rfl ⟨by decide, by decide⟩ ⟨by decide, by decide⟩ (Nat.le_of_ble_eq_true rfl) dX12_write_95 rfl (show zJ Γ 4 0 0 σ9 98 [(1, .int x4), (0, .ref p0)] [] from ?_)
      refine zj_aload_n E dX12_write_98 rfl 1 rfl ?_
      refine zj_iconst (v := 0) E dX12_write_99 (by decide) ?_
      obtain ⟨hk, h⟩ := oA_some h
      obtain ⟨σ10, hc, h⟩ := oB_some h
      refine zs_callV (As := [.int 0]) (rest := []) E zc11 zyX12_put zw_32_22 (kX12_put _ _ _ _ _ hc) rfl rfl hk rfl ⟨by decide, by decide⟩ ⟨by decide, by decide⟩ (Nat.le_of_ble_eq_true rfl) dX12_write_100 rfl (show zJ Γ 4 0 0 σ10 103 [(1, .int x4), (0, .ref p0)] [] from ?_)
      refine zj_aload_n E dX12_write_103 rfl 1 rfl ?_
      refine zj_iconst (v := 0) E dX12_write_104 (by decide) ?_
      obtain ⟨hk, h⟩ := oA_some h
      obtain ⟨σ11, hc, h⟩ := oB_some h
      refine zs_callV (As := [.int 0]) (rest := []) E zc11 zyX12_put zw_32_22 (kX12_put _ _ _ _ _ hc) rfl rfl hk rfl ⟨by decide, by decide⟩ ⟨by decide, by decide⟩ (Nat.le_of_ble_eq_true rfl) dX12_write_105 rfl (show zJ Γ 4 0 0 σ11 108 [(1, .int x4), (0, .ref p0)] [] from ?_)
      refine zj_aload_n E dX12_write_108 rfl 1 rfl ?_
      refine zj_iconst (v := 0) E dX12_write_109 (by decide) ?_
      obtain ⟨hk, h⟩ := oA_some h
      obtain ⟨σ12, hc, h⟩ := oB_some h
      refine zs_callV (As := [.int 0]) (rest := []) E zc11 zyX12_put zw_32_22 (kX12_put _ _ _ _ _ hc) rfl rfl hk rfl ⟨by decide, by decide⟩ ⟨by decide, by decide⟩ (Nat.le_of_ble_eq_true rfl) dX12_write_110 rfl (show zJ Γ 4 0 0 σ12 113 [(1, .int x4), (0, .ref p0)] [] from ?_)
      refine zj_aload_n E dX12_write_113 rfl 1 rfl ?_
      refine zj_iload_n E dX12_write_114 rfl 0 rfl ?_
      obtain ⟨hk, h⟩ := oA_some h
      obtain ⟨σ13, hc, h⟩ := oB_some h
      refine zs_callV (As := [.int x4]) (rest := []) E zc11 zyX12_endChunk zw_33_10 (kX12_endChunk _ _ _ _ _ hc) rfl rfl hk rfl ⟨by decide, by decide⟩ ⟨by decide, by decide⟩ (Nat.le_of_ble_eq_true rfl) dX12_write_115 rfl (show zJ Γ 4 0 0 σ13 118 [(1, .int x4), (0, .ref p0)] [] from ?_)
      refine zj_aload_n E dX12_write_118 rfl 1 rfl ?_
      refine zj_bipush (v := 97) E dX12_write_119 (by decide) ?_
      refine zj_bipush (v := 99) E dX12_write_121 (by decide) ?_
      refine zj_bipush (v := 84) E dX12_write_123 (by decide) ?_
      refine zj_bipush (v := 76) E dX12_write_125 (by decide) ?_
      obtain ⟨hk, h⟩ := oA_some h
      obtain ⟨x7, σ14, hc, h⟩ := oC_some h
      refine zs_callV (As := [.int 97, .int 99, .int 84, .int 76]) (rest := []) E zc11 zyX12_beginChunk zw_33_2 (kX12_beginChunk _ _ _ _ _ hc) rfl rfl hk rfl ⟨by decide, by decide⟩ ⟨by decide, by decide⟩ (Nat.le_of_ble_eq_true rfl) dX12_write_127 rfl (show zJ Γ 4 0 0 σ14 130 [(1, .int x4), (0, .ref p0)] [.int x7] from ?_)
      refine zj_istore_n (lv2 := [(1, .int x7), (0, .ref p0)]) E dX12_write_130 rfl (by decide) rfl ?_
      refine zj_aload_n E dX12_write_131 rfl 1 rfl ?_
      refine zj_aload_n E dX12_write_132 rfl 1 rfl ?_
      refine zs_getR E zc11 4 (by decide) zw_6_5 rfl dX12_write_133 h (fun a5 h => ?_)
      refine zj_iconst (v := 4) E dX12_write_136 (by decide) ?_
      refine zs_iald E dX12_write_137 h (fun x8 h => ?_)
      obtain ⟨hk, h⟩ := oA_some h
      obtain ⟨σ15, hc, h⟩ := oB_some h
      refine zs_callV (As := [.int x8]) (rest := []) E zc11 zyX12_putNumber zw_33_6 (kX12_putNumber _ _ _ _ _ hc) rfl rfl hk rfl ⟨by decide, by decide⟩ ⟨by decide, by decide⟩ (Nat.le_of_ble_eq_true rfl) dX12_write_138 rfl (show zJ Γ 4 0 0 σ15 141 [(1, .int x7), (0, .ref p0)] [] from ?_)
      refine zj_aload_n E dX12_write_141 rfl 1 rfl ?_
      refine zj_aload_n E dX12_write_142 rfl 1 rfl ?_
      refine zs_getR E zc11 4 (by decide) zw_6_5 rfl dX12_write_143 h (fun a6 h => ?_)
      refine zj_iconst (v := 3) E dX12_write_146 (by decide) ?_
      refine zs_iald E dX12_write_147 h (fun x9 h => ?_)
      obtain ⟨hk, h⟩ := oA_some h
      obtain ⟨σ16, hc, h⟩ := oB_some h
      refine zs_callV (As := [.int x9]) (rest := []) E zc11 zyX12_putNumber zw_33_6 (kX12_putNumber _ _ _ _ _ hc) rfl rfl hk rfl ⟨by decide, by decide⟩ ⟨by decide, by decide⟩ (Nat.le_of_ble_eq_true rfl) dX12_write_148 rfl (show zJ Γ 4 0 0 σ16 151 [(1, .int x7), (0, .ref p0)] [] from ?_)
      refine zj_aload_n E dX12_write_151 rfl 1 rfl ?_
      refine zj_iload_n E dX12_write_152 rfl 0 rfl ?_
      obtain ⟨hk, h⟩ := oA_some h
      obtain ⟨σ17, hc, h⟩ := oB_some h
      refine zs_callV (As := [.int x7]) (rest := []) E zc11 zyX12_endChunk zw_33_10 (kX12_endChunk _ _ _ _ _ hc) rfl rfl hk rfl ⟨by decide, by decide⟩ ⟨by decide, by decide⟩ (Nat.le_of_ble_eq_true rfl) dX12_write_153 rfl (show zJ Γ 4 0 0 σ17 156 [(1, .int x7), (0, .ref p0)] [] from ?_)
      refine zj_iconst (v := 0) E dX12_write_156 (by decide) ?_
      refine zj_istore_n (lv2 := [(2, .int 0), (1, .int x7), (0, .ref p0)]) E dX12_write_157 rfl (by decide) rfl ?_
      refine zj_aload_n E dX12_write_158 rfl 2 rfl ?_
      refine zs_getR E zc11 4 (by decide) zw_6_5 rfl dX12_write_159 h (fun a7 h => ?_)
      refine zj_iconst (v := 5) E dX12_write_162 (by decide) ?_
      refine zs_iald E dX12_write_163 h (fun x10 h => ?_)
      refine zj_iconst (v := 1) E dX12_write_164 (by decide) ?_
      refine zj_icmp_ne (tgt := 177) E dX12_write_165 (by decide) h (fun h => ?_) (fun h => ?_)
      · refine zj_lv [2, 0] rfl ?_
        exact wX12_write_177 E _ _ _ h K
      · refine zj_aload_n E dX12_write_168 rfl 2 rfl ?_
        refine zj_iconst (v := 0) E dX12_write_169 (by decide) ?_
        refine zj_iload_n E dX12_write_170 rfl 0 rfl ?_
        obtain ⟨hk, h⟩ := oA_some h
        obtain ⟨σ29, hc, h⟩ := oB_some h
        refine zs_callV (As := [.int 0, .int 0]) (rest := []) E zc11 zyX12_putControl zw_33_14 (kX12_putControl _ _ _ _ _ hc) rfl rfl hk rfl ⟨by decide, by decide⟩ ⟨by decide, by decide⟩ (Nat.le_of_ble_eq_true rfl) dX12_write_171 rfl (show zJ Γ 4 0 0 σ29 174 [(2, .int 0), (1, .int x7), (0, .ref p0)] [] from ?_)
        refine zs_iinc (lv2 := fun v4 => [(2, .int v4), (1, .int x7), (0, .ref p0)]) E dX12_write_174 0 rfl (by decide) (by decide) (fun _ => rfl) h (fun v4 h => ?_)
        refine zj_lv [2, 0] rfl ?_
        exact wX12_write_177 E _ _ _ h K
    · refine zj_bipush (v := (-13 : Int32)) E dX12_write_23 (by decide) ?_
      have e9 := Option.some.inj h
      subst e9
      exact (show zRet Γ cX12_write 4 0 0 (some (.int (-13 : Int32))) σ1 from K) _ _ dX12_write_25
set_option maxRecDepth 100000 in
theorem kX12_write (l : Launch) (D : va_G) (cs : zCs) (z0 : Nat) (σ : zS) {p0 : Nat} {r : Int32} {σ' : zS} (h : fX12_write σ p0 = some (r, σ')) : zM l D cs z0 yX12_write cX12_write 4 (some .int) { frames := 4, cells := 0, slots := 0, locals := 91 } [.ref p0] σ (some (.int r)) σ' 0 0 := by
  exact zM_of (by decide) rfl (Or.inl rfl) (Nat.le_of_ble_eq_true rfl) rfl (fun Γ e1 e2 e3 e4 E hN K => wX12_write E σ _ h K)
/-! X12_out -/
def fX12_out_17 (σ : zS) : Option (Int32 × zS) := some ((-1 : Int32), σ)
set_option maxRecDepth 100000 in
theorem wX12_out_17 {Γ : zG} (E : zE Γ cX12_out RX12 2 { frames := 0, cells := 0, slots := 0, locals := 0 }) (σ : zS) {R : (Int32 × zS)} (h : fX12_out_17 σ = some R) (K : zRet Γ cX12_out 2 0 0 (some (.int R.1)) R.2) : zJ Γ 2 0 0 σ 17 [] [] := by
  unfold fX12_out_17 at h
  refine zj_iconst (v := (-1 : Int32)) E dX12_out_17 (by decide) ?_
  refine zj_goto (tgt := 31) E dX12_out_18 (by decide) ?_
  have e9 := Option.some.inj h
  subst e9
  exact (show zRet Γ cX12_out 2 0 0 (some (.int (-1 : Int32))) σ from K) _ _ dX12_out_31
def fX12_out (σ : zS) (p0 : Nat) (p1 : Int32) : Option (Int32 × zS) := oPI σ 12 p0 0 0 (fun σ1 => (if p1 < 0 then fX12_out_17 σ1 else oGI σ1 12 p0 12 (fun x1 => (if p1 < x1 then oGR σ1 12 p0 13 (fun a1 => oLd σ1 20 a1 p1 (fun x2 => some ((x2 &&& (255 : Int32)), σ1))) else fX12_out_17 σ1))))
set_option maxRecDepth 100000 in
theorem wX12_out {Γ : zG} (E : zE Γ cX12_out RX12 2 { frames := 0, cells := 0, slots := 0, locals := 0 }) (σ : zS) (p0 : Nat) (p1 : Int32) {R : (Int32 × zS)} (h : fX12_out σ p0 p1 = some R) (K : zRet Γ cX12_out 2 0 0 (some (.int R.1)) R.2) : zJ Γ 2 0 0 σ 0 [(0, .ref p0), (1, .int p1)] [] := by
  unfold fX12_out at h
  refine zj_aload_n E dX12_out_0 rfl 0 rfl ?_
  refine zj_iconst (v := 0) E dX12_out_1 (by decide) ?_
  refine zs_putI E zc11 0 (by decide) zw_7_9 rfl rfl dX12_out_2 h (fun σ1 h => ?_)
  refine zj_iload_n E dX12_out_5 rfl 1 rfl ?_
  refine zj_if_lt (tgt := 17) E dX12_out_6 (by decide) h (fun h => ?_) (fun h => ?_)
  · refine zj_lv [] rfl ?_
    exact wX12_out_17 E _ h K
  · refine zj_iload_n E dX12_out_9 rfl 1 rfl ?_
    refine zj_aload_n E dX12_out_10 rfl 0 rfl ?_
    refine zs_getI E zc11 12 (by decide) zw_32_21 rfl dX12_out_11 h (fun x1 h => ?_)
    refine zj_icmp_lt (tgt := 21) E dX12_out_14 (by decide) h (fun h => ?_) (fun h => ?_)
    · refine zj_aload_n E dX12_out_21 rfl 0 rfl ?_
      refine zs_getR E zc11 13 (by decide) zw_6_10 rfl dX12_out_22 h (fun a1 h => ?_)
      refine zj_iload_n E dX12_out_25 rfl 1 rfl ?_
      refine zs_bald E dX12_out_26 h (fun x2 h => ?_)
      refine zj_sipush (v := 255) E dX12_out_27 (by decide) ?_
      refine zj_iand E dX12_out_30 ?_
      have e9 := Option.some.inj h
      subst e9
      exact (show zRet Γ cX12_out 2 0 0 (some (.int (x2 &&& (255 : Int32)))) σ1 from K) _ _ dX12_out_31
    · refine zj_lv [] rfl ?_
      exact wX12_out_17 E _ h K
set_option maxRecDepth 100000 in
theorem kX12_out (l : Launch) (D : va_G) (cs : zCs) (z0 : Nat) (σ : zS) {p0 : Nat} {p1 : Int32} {r : Int32} {σ' : zS} (h : fX12_out σ p0 p1 = some (r, σ')) : zM l D cs z0 yX12_out cX12_out 2 (some .int) { frames := 0, cells := 0, slots := 0, locals := 0 } [.ref p0, .int p1] σ (some (.int r)) σ' 0 0 := by
  exact zM_of (by decide) rfl (Or.inl rfl) (Nat.le_of_ble_eq_true rfl) rfl (fun Γ e1 e2 e3 e4 E hN K => wX12_out E σ _ _ h K)
