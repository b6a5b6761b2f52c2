/-! X7_draw -/
def jX7_draw_2 (Γ : zG) (l0 : Nat) (l1 : Nat) : (Int32 × zS) → Prop := fun x => zJ Γ 6 0 0 x.2 2 [(0, .ref l0), (1, .ref l1), (2, .int x.1)] []
def eX7_draw_2 (Γ : zG) (l0 : Nat) (l1 : Nat) : zS → Prop := fun b => zJ Γ 6 0 0 b 98 [] []
def jX7_draw_12 (Γ : zG) (l0 : Nat) (l1 : Nat) (l2 : Int32) : (Int32 × zS) → Prop := fun x => zJ Γ 6 0 0 x.2 12 [(0, .ref l0), (1, .ref l1), (2, .int l2), (3, .int x.1)] []
def eX7_draw_12 (Γ : zG) (l0 : Nat) (l1 : Nat) (l2 : Int32) : zS → Prop := fun b => zJ Γ 6 0 0 b 92 [(0, .ref l0), (1, .ref l1), (2, .int l2)] []
def fX7_draw_85 (σ : zS) (l0 : Nat) (l1 : Nat) (l2 : Int32) (l3 : Int32) (s0 : Int32) (s1 : Int32) (s2 : Nat) : Option ((Int32 × zS) ⊕ zS) := oSt σ 21 s2 s1 s0 (fun σ1 => oL (l3 + 1) (fun v2 => some (.inl (v2, σ1))))
set_option maxRecDepth 100000 in
theorem wX7_draw_85 {Γ : zG} (E : zE Γ cX7_draw RX7 6 { frames := 1, cells := 0, slots := 0, locals := 28 }) (σ : zS) (l0 : Nat) (l1 : Nat) (l2 : Int32) (l3 : Int32) (s0 : Int32) (s1 : Int32) (s2 : Nat) {R : ((Int32 × zS) ⊕ zS)} (h : fX7_draw_85 σ l0 l1 l2 l3 s0 s1 s2 = some R) (K : Sum.elim (jX7_draw_12 Γ l0 l1 l2) (eX7_draw_12 Γ l0 l1 l2) R) : zJ Γ 6 0 0 σ 85 [(0, .ref l0), (1, .ref l1), (2, .int l2), (3, .int l3)] [.int s0, .int s1, .ref s2] := by
  unfold fX7_draw_85 at h
  refine zs_iast E dX7_draw_85 h (fun σ1 h => ?_)
  refine zs_iinc (lv2 := fun v2 => [(3, .int v2), (0, .ref l0), (1, .ref l1), (2, .int l2)]) E dX7_draw_86 3 rfl (by decide) (by decide) (fun _ => rfl) h (fun v2 h => ?_)
  refine zj_goto (tgt := 12) E dX7_draw_89 (by decide) ?_
  have e9 := Option.some.inj h
  subst e9
  refine zj_lv [1, 2, 3, 0] rfl ?_
  exact K
def bX7_draw_12 (l0 : Nat) (l1 : Nat) (l2 : Int32) (l3 : Int32) (σ : zS) : Option ((Int32 × zS) ⊕ zS) := oGI σ 4 l1 1 (fun x2 => (if x2 ≤ l3 then some (.inr σ) else oGI σ 4 l1 4 (fun x3 => oGI σ 7 l0 2 (fun x4 => oGI σ 4 l1 3 (fun x5 => oL ((((x3 + l2) * x4) + x5) + l3) (fun v1 => oGR σ 4 l1 0 (fun a1 => oGI σ 4 l1 1 (fun x6 => oLd σ 21 a1 ((l2 * x6) + l3) (fun x7 => oGR σ 7 l0 0 (fun a2 => oGI σ 4 l1 6 (fun x8 => (if x8 = 0 then fX7_draw_85 σ l0 l1 l2 l3 x7 v1 a2 else oGR σ 7 l0 0 (fun a3 => oLd σ 21 a3 v1 (fun x9 => oB (fX7_blended σ x7 x9) (fun x10 => fX7_draw_85 σ l0 l1 l2 l3 x10 v1 a2)))))))))))))))
set_option maxRecDepth 100000 in
theorem wX7_draw_L12 {Γ : zG} (E : zE Γ cX7_draw RX7 6 { frames := 1, cells := 0, slots := 0, locals := 28 }) (l0 : Nat) (l1 : Nat) (l2 : Int32) : ∀ x R, (fun x => bX7_draw_12 l0 l1 l2 x.1 x.2) x = some R → Sum.elim (jX7_draw_12 Γ l0 l1 l2) (eX7_draw_12 Γ l0 l1 l2) R → jX7_draw_12 Γ l0 l1 l2 x := by
  intro x R h K
  obtain ⟨l3, σ⟩ := x
  have h : bX7_draw_12 l0 l1 l2 l3 σ = some R := h
  show zJ Γ 6 0 0 σ 12 [(0, .ref l0), (1, .ref l1), (2, .int l2), (3, .int l3)] []
  unfold bX7_draw_12 at h
  refine zj_iload_n E dX7_draw_12 rfl 3 rfl ?_
  refine zj_aload_n E dX7_draw_13 rfl 1 rfl ?_
  refine zs_getIN E zc3 1 (by decide) (znf_19) rfl dX7_draw_14 h (fun x2 h => ?_)
  refine zj_icmp_ge (tgt := 92) E dX7_draw_17 (by decide) h (fun h => ?_) (fun h => ?_)
  · have e9 := Option.some.inj h
    subst e9
    refine zj_lv [0, 1, 2] rfl ?_
    exact K
  · refine zj_aload_n E dX7_draw_20 rfl 1 rfl ?_
    refine zs_getIN E zc3 4 (by decide) (znf_31) rfl dX7_draw_21 h (fun x3 h => ?_)
    refine zj_iload_n E dX7_draw_24 rfl 2 rfl ?_
    refine zj_iadd E dX7_draw_25 ?_
    refine zj_aload_n E dX7_draw_26 rfl 0 rfl ?_
    refine zs_getI E zc6 2 (by decide) zw_17_11 rfl dX7_draw_27 h (fun x4 h => ?_)
    refine zj_imul E dX7_draw_30 ?_
    refine zj_aload_n E dX7_draw_31 rfl 1 rfl ?_
    refine zs_getIN E zc3 3 (by decide) (znf_28) rfl dX7_draw_32 h (fun x5 h => ?_)
    refine zj_iadd E dX7_draw_35 ?_
    refine zj_iload_n E dX7_draw_36 rfl 3 rfl ?_
    refine zj_iadd E dX7_draw_37 ?_
    refine zs_istore (lv2 := fun v1 => [(4, .int v1), (0, .ref l0), (1, .ref l1), (2, .int l2), (3, .int l3)]) E dX7_draw_38 (by decide) (fun _ => rfl) h (fun v1 h => ?_)
    refine zj_aload_n E dX7_draw_40 rfl 2 rfl ?_
    refine zs_getRN E zc3 0 (by decide) (znf_14) rfl dX7_draw_41 h (fun a1 h => ?_)
    refine zj_iload_n E dX7_draw_44 rfl 3 rfl ?_
    refine zj_aload_n E dX7_draw_45 rfl 2 rfl ?_
    refine zs_getIN E zc3 1 (by decide) (znf_19) rfl dX7_draw_46 h (fun x6 h => ?_)
    refine zj_imul E dX7_draw_49 ?_
    refine zj_iload_n E dX7_draw_50 rfl 4 rfl ?_
    refine zj_iadd E dX7_draw_51 ?_
    refine zs_iald E dX7_draw_52 h (fun x7 h => ?_)
    refine zj_istore (lv2 := [(5, .int x7), (4, .int v1), (0, .ref l0), (1, .ref l1), (2, .int l2), (3, .int l3)]) E dX7_draw_53 (by decide) rfl ?_
    refine zj_aload_n E dX7_draw_55 rfl 2 rfl ?_
    refine zs_getR E zc6 0 (by decide) zw_5_20 rfl dX7_draw_56 h (fun a2 h => ?_)
    refine zj_iload E dX7_draw_59 1 rfl ?_
    refine zj_aload_n E dX7_draw_61 rfl 3 rfl ?_
    refine zs_getIN E zc3 6 (by decide) (znf_37) rfl dX7_draw_62 h (fun x8 h => ?_)
    refine zj_if_ne (tgt := 73) E dX7_draw_65 (by decide) h (fun h => ?_) (fun h => ?_)
    · refine zj_iload E dX7_draw_73 0 rfl ?_
      refine zj_aload_n E dX7_draw_75 rfl 2 rfl ?_
      refine zs_getR E zc6 0 (by decide) zw_5_20 rfl dX7_draw_76 h (fun a3 h => ?_)
      refine zj_iload E dX7_draw_79 1 rfl ?_
      refine zs_iald E dX7_draw_81 h (fun x9 h => ?_)
      obtain ⟨x10, hc, h⟩ := oB_some h
      refine zs_callS (As := [.int x7, .int x9]) (rest := [.int v1, .ref a2]) E zyX7_blended zw_28_0 (kX7_blended _ _ _ _ _ hc) rfl rfl rfl ⟨by decide, by decide⟩ ⟨by decide, by decide⟩ (Nat.le_of_ble_eq_true rfl) dX7_draw_82 rfl (show zJ Γ 6 0 0 σ 85 [(5, .int x7), (4, .int v1), (0, .ref l0), (1, .ref l1), (2, .int l2), (3, .int l3)] [.int x10, .int v1, .ref a2] from ?_)
      refine zj_lv [2, 3, 4, 5] rfl ?_
      exact wX7_draw_85 E _ _ _ _ _ _ _ _ h K
    · refine zj_iload E dX7_draw_68 0 rfl ?_
      refine zj_goto (tgt := 85) E dX7_draw_70 (by decide) ?_
      refine zj_lv [2, 3, 4, 5] rfl ?_
      exact wX7_draw_85 E _ _ _ _ _ _ _ _ h K
def bX7_draw_2 (l0 : Nat) (l1 : Nat) (l2 : Int32) (σ : zS) : Option ((Int32 × zS) ⊕ zS) := oGI σ 4 l1 2 (fun x1 => (if x1 ≤ l2 then some (.inr σ) else oB (zloop zF (fun x => bX7_draw_12 l0 l1 l2 x.1 x.2) (0, σ)) (fun b1 => (fun σ2 => oL (l2 + 1) (fun v3 => some (.inl (v3, σ2)))) b1)))
set_option maxRecDepth 100000 in
theorem wX7_draw_L2 {Γ : zG} (E : zE Γ cX7_draw RX7 6 { frames := 1, cells := 0, slots := 0, locals := 28 }) (l0 : Nat) (l1 : Nat) : ∀ x R, (fun x => bX7_draw_2 l0 l1 x.1 x.2) x = some R → Sum.elim (jX7_draw_2 Γ l0 l1) (eX7_draw_2 Γ l0 l1) R → jX7_draw_2 Γ l0 l1 x := by
  intro x R h K
  obtain ⟨l2, σ⟩ := x
  have h : bX7_draw_2 l0 l1 l2 σ = some R := h
  show zJ Γ 6 0 0 σ 2 [(0, .ref l0), (1, .ref l1), (2, .int l2)] []
  unfold bX7_draw_2 at h
  refine zj_iload_n E dX7_draw_2 rfl 2 rfl ?_
  refine zj_aload_n E dX7_draw_3 rfl 1 rfl ?_
  refine zs_getIN E zc3 2 (by decide) (znf_24) rfl dX7_draw_4 h (fun x1 h => ?_)
  refine zj_icmp_ge (tgt := 98) E dX7_draw_7 (by decide) h (fun h => ?_) (fun h => ?_)
  · have e9 := Option.some.inj h
    subst e9
    refine zj_lv [] rfl ?_
    exact K
  · refine zj_iconst (v := 0) E dX7_draw_10 (by decide) ?_
    refine zj_istore_n (lv2 := [(3, .int 0), (0, .ref l0), (1, .ref l1), (2, .int l2)]) E dX7_draw_11 rfl (by decide) rfl ?_
    obtain ⟨b1, hb1, h⟩ := oB_some h
    refine zj_lv [1, 2, 3, 0] rfl ?_
    refine zj_loop (wX7_draw_L12 E l0 l1 l2) zF (0, σ) b1 hb1 ?_
    obtain ⟨σ2, rfl⟩ : ∃ z, z = b1 := ⟨_, rfl⟩
    try dsimp only at h
    show zJ Γ 6 0 0 σ2 92 [(0, .ref l0), (1, .ref l1), (2, .int l2)] []
    refine zs_iinc (lv2 := fun v3 => [(2, .int v3), (0, .ref l0), (1, .ref l1)]) E dX7_draw_92 2 rfl (by decide) (by decide) (fun _ => rfl) h (fun v3 h => ?_)
    refine zj_goto (tgt := 2) E dX7_draw_95 (by decide) ?_
    have e9 := Option.some.inj h
    subst e9
    refine zj_lv [1, 2, 0] rfl ?_
    exact K
def fX7_draw (σ : zS) (p0 : Nat) (p1 : Nat) : Option zS := oB (zloop zF (fun x => bX7_draw_2 p0 p1 x.1 x.2) (0, σ)) (fun b2 => (fun σ3 => some σ3) b2)
set_option maxRecDepth 100000 in
theorem wX7_draw {Γ : zG} (E : zE Γ cX7_draw RX7 6 { frames := 1, cells := 0, slots := 0, locals := 28 }) (σ : zS) (p0 : Nat) (p1 : Nat) {R : zS} (h : fX7_draw σ p0 p1 = some R) (K : zRet Γ cX7_draw 6 0 0 (none) R) : zJ Γ 6 0 0 σ 0 [(0, .ref p0), (1, .ref p1)] [] := by
  unfold fX7_draw at h
  refine zj_iconst (v := 0) E dX7_draw_0 (by decide) ?_
  refine zj_istore_n (lv2 := [(2, .int 0), (0, .ref p0), (1, .ref p1)]) E dX7_draw_1 rfl (by decide) rfl ?_
  obtain ⟨b2, hb2, h⟩ := oB_some h
  refine zj_lv [1, 2, 0] rfl ?_
  refine zj_loop (wX7_draw_L2 E p0 p1) zF (0, σ) b2 hb2 ?_
  obtain ⟨σ3, rfl⟩ : ∃ z, z = b2 := ⟨_, rfl⟩
  try dsimp only at h
  show zJ Γ 6 0 0 σ3 98 [] []
  have e9 := Option.some.inj h
  subst e9
  exact (show zRet Γ cX7_draw 6 0 0 (none) σ3 from K) _ _ dX7_draw_98
set_option maxRecDepth 100000 in
theorem kX7_draw (l : Launch) (D : va_G) (cs : zCs) (z0 : Nat) (σ : zS) {p0 : Nat} {p1 : Nat}  {σ' : zS} (h : fX7_draw σ p0 p1 = some σ') : zM l D cs z0 yX7_draw cX7_draw 6 none { frames := 1, cells := 0, slots := 0, locals := 28 } [.ref p0, .ref p1] σ none σ' 0 0 := by
  exact zM_of (by decide) rfl rfl (Nat.le_of_ble_eq_true rfl) rfl (fun Γ e1 e2 e3 e4 E _ K => wX7_draw E σ _ _ h K)
/-! X7_dispose -/
def jX7_dispose_37 (Γ : zG) (l0 : Nat) (l1 : Nat) : (Int32 × zS) → Prop := fun x => zJ Γ 5 0 0 x.2 37 [(0, .ref l0), (1, .ref l1), (2, .int x.1)] []
def eX7_dispose_37 (Γ : zG) (l0 : Nat) (l1 : Nat) : zS → Prop := fun b => zJ Γ 5 0 0 b 96 [] []
def jX7_dispose_65 (Γ : zG) (l0 : Nat) (l1 : Nat) (l2 : Int32) (l3 : Int32) : (Int32 × zS) → Prop := fun x => zJ Γ 5 0 0 x.2 65 [(0, .ref l0), (1, .ref l1), (2, .int l2), (3, .int l3), (4, .int x.1)] []
def eX7_dispose_65 (Γ : zG) (l0 : Nat) (l1 : Nat) (l2 : Int32) (l3 : Int32) : zS → Prop := fun b => zJ Γ 5 0 0 b 90 [(0, .ref l0), (1, .ref l1), (2, .int l2)] []
def bX7_dispose_65 (l0 : Nat) (l1 : Nat) (l2 : Int32) (l3 : Int32) (l4 : Int32) (σ : zS) : Option ((Int32 × zS) ⊕ zS) := oGI σ 4 l1 1 (fun x7 => (if x7 ≤ l4 then some (.inr σ) else oGR σ 7 l0 0 (fun a1 => oSt σ 21 a1 (l3 + l4) 0 (fun σ1 => oL (l4 + 1) (fun v2 => some (.inl (v2, σ1)))))))
set_option maxRecDepth 100000 in
theorem wX7_dispose_L65 {Γ : zG} (E : zE Γ cX7_dispose RX7 5 { frames := 1, cells := 0, slots := 0, locals := 40 }) (l0 : Nat) (l1 : Nat) (l2 : Int32) (l3 : Int32) : ∀ x R, (fun x => bX7_dispose_65 l0 l1 l2 l3 x.1 x.2) x = some R → Sum.elim (jX7_dispose_65 Γ l0 l1 l2 l3) (eX7_dispose_65 Γ l0 l1 l2 l3) R → jX7_dispose_65 Γ l0 l1 l2 l3 x := by
  intro x R h K
  obtain ⟨l4, σ⟩ := x
  have h : bX7_dispose_65 l0 l1 l2 l3 l4 σ = some R := h
  show zJ Γ 5 0 0 σ 65 [(0, .ref l0), (1, .ref l1), (2, .int l2), (3, .int l3), (4, .int l4)] []
  unfold bX7_dispose_65 at h
  refine zj_iload E dX7_dispose_65 4 rfl ?_
  refine zj_aload_n E dX7_dispose_67 rfl 1 rfl ?_
  refine zs_getIN E zc3 1 (by decide) (znf_19) rfl dX7_dispose_68 h (fun x7 h => ?_)
  refine zj_icmp_ge (tgt := 90) E dX7_dispose_71 (by decide) h (fun h => ?_) (fun h => ?_)
  · have e9 := Option.some.inj h
    subst e9
    refine zj_lv [0, 1, 2] rfl ?_
    exact K
  · refine zj_aload_n E dX7_dispose_74 rfl 0 rfl ?_
    refine zs_getR E zc6 0 (by decide) zw_5_20 rfl dX7_dispose_75 h (fun a1 h => ?_)
    refine zj_iload_n E dX7_dispose_78 rfl 3 rfl ?_
    refine zj_iload E dX7_dispose_79 4 rfl ?_
    refine zj_iadd E dX7_dispose_81 ?_
    refine zj_iconst (v := 0) E dX7_dispose_82 (by decide) ?_
    refine zs_iast E dX7_dispose_83 h (fun σ1 h => ?_)
    refine zs_iinc (lv2 := fun v2 => [(4, .int v2), (0, .ref l0), (1, .ref l1), (2, .int l2), (3, .int l3)]) E dX7_dispose_84 4 rfl (by decide) (by decide) (fun _ => rfl) h (fun v2 h => ?_)
    refine zj_goto (tgt := 65) E dX7_dispose_87 (by decide) ?_
    have e9 := Option.some.inj h
    subst e9
    refine zj_lv [1, 2, 3, 4, 0] rfl ?_
    exact K
def bX7_dispose_37 (l0 : Nat) (l1 : Nat) (l2 : Int32) (σ : zS) : Option ((Int32 × zS) ⊕ zS) := oGI σ 4 l1 2 (fun x3 => (if x3 ≤ l2 then some (.inr σ) else oGI σ 4 l1 4 (fun x4 => oGI σ 7 l0 2 (fun x5 => oGI σ 4 l1 3 (fun x6 => oL (((x4 + l2) * x5) + x6) (fun v1 => oB (zloop zF (fun x => bX7_dispose_65 l0 l1 l2 v1 x.1 x.2) (0, σ)) (fun b1 => (fun σ2 => oL (l2 + 1) (fun v3 => some (.inl (v3, σ2)))) b1)))))))
set_option maxRecDepth 100000 in
theorem wX7_dispose_L37 {Γ : zG} (E : zE Γ cX7_dispose RX7 5 { frames := 1, cells := 0, slots := 0, locals := 40 }) (l0 : Nat) (l1 : Nat) : ∀ x R, (fun x => bX7_dispose_37 l0 l1 x.1 x.2) x = some R → Sum.elim (jX7_dispose_37 Γ l0 l1) (eX7_dispose_37 Γ l0 l1) R → jX7_dispose_37 Γ l0 l1 x := by
  intro x R h K
  obtain ⟨l2, σ⟩ := x
  have h : bX7_dispose_37 l0 l1 l2 σ = some R := h
  show zJ Γ 5 0 0 σ 37 [(0, .ref l0), (1, .ref l1), (2, .int l2)] []
  unfold bX7_dispose_37 at h
  refine zj_iload_n E dX7_dispose_37 rfl 2 rfl ?_
  refine zj_aload_n E dX7_dispose_38 rfl 1 rfl ?_
  refine zs_getIN E zc3 2 (by decide) (znf_24) rfl dX7_dispose_39 h (fun x3 h => ?_)
  refine zj_icmp_ge (tgt := 96) E dX7_dispose_42 (by decide) h (fun h => ?_) (fun h => ?_)
  · have e9 := Option.some.inj h
    subst e9
    refine zj_lv [] rfl ?_
    exact K
  · refine zj_aload_n E dX7_dispose_45 rfl 1 rfl ?_
    refine zs_getIN E zc3 4 (by decide) (znf_31) rfl dX7_dispose_46 h (fun x4 h => ?_)
    refine zj_iload_n E dX7_dispose_49 rfl 2 rfl ?_
    refine zj_iadd E dX7_dispose_50 ?_
    refine zj_aload_n E dX7_dispose_51 rfl 0 rfl ?_
    refine zs_getI E zc6 2 (by decide) zw_17_11 rfl dX7_dispose_52 h (fun x5 h => ?_)
    refine zj_imul E dX7_dispose_55 ?_
    refine zj_aload_n E dX7_dispose_56 rfl 1 rfl ?_
    refine zs_getIN E zc3 3 (by decide) (znf_28) rfl dX7_dispose_57 h (fun x6 h => ?_)
    refine zj_iadd E dX7_dispose_60 ?_
    refine zs_istore_n (lv2 := fun v1 => [(3, .int v1), (0, .ref l0), (1, .ref l1), (2, .int l2)]) E dX7_dispose_61 rfl (by decide) (fun _ => rfl) h (fun v1 h => ?_)
    refine zj_iconst (v := 0) E dX7_dispose_62 (by decide) ?_
    refine zj_istore (lv2 := [(4, .int 0), (3, .int v1), (0, .ref l0), (1, .ref l1), (2, .int l2)]) E dX7_dispose_63 (by decide) rfl ?_
    obtain ⟨b1, hb1, h⟩ := oB_some h
    refine zj_lv [2, 3, 4, 1, 0] rfl ?_
    refine zj_loop (wX7_dispose_L65 E l0 l1 l2 v1) zF (0, σ) b1 hb1 ?_
    obtain ⟨σ2, rfl⟩ : ∃ z, z = b1 := ⟨_, rfl⟩
    try dsimp only at h
    show zJ Γ 5 0 0 σ2 90 [(0, .ref l0), (1, .ref l1), (2, .int l2)] []
    refine zs_iinc (lv2 := fun v3 => [(2, .int v3), (0, .ref l0), (1, .ref l1)]) E dX7_dispose_90 2 rfl (by decide) (by decide) (fun _ => rfl) h (fun v3 h => ?_)
    refine zj_goto (tgt := 37) E dX7_dispose_93 (by decide) ?_
    have e9 := Option.some.inj h
    subst e9
    refine zj_lv [1, 2, 0] rfl ?_
    exact K
def fX7_dispose (σ : zS) (p0 : Nat) (p1 : Nat) : Option zS := oGI σ 4 p1 5 (fun x1 => (if x1 = (2 : Int32) then oGR σ 7 p0 1 (fun a2 => oGR σ 7 p0 0 (fun a3 => oCp σ a2 0 a3 0 256 (fun σ4 => some σ4))) else oGI σ 4 p1 5 (fun x2 => (if x2 = (1 : Int32) then oB (zloop zF (fun x => bX7_dispose_37 p0 p1 x.1 x.2) (0, σ)) (fun b2 => (fun σ3 => some σ3) b2) else some σ))))
set_option maxRecDepth 100000 in
theorem wX7_dispose {Γ : zG} (E : zE Γ cX7_dispose RX7 5 { frames := 1, cells := 0, slots := 0, locals := 40 }) (σ : zS) (p0 : Nat) (p1 : Nat) {R : zS} (h : fX7_dispose σ p0 p1 = some R) (K : zRet Γ cX7_dispose 5 0 0 (none) R) : zJ Γ 5 0 0 σ 0 [(0, .ref p0), (1, .ref p1)] [] := by
  unfold fX7_dispose at h
  refine zj_aload_n E dX7_dispose_0 rfl 1 rfl ?_
  refine zs_getIN E zc3 5 (by decide) (znf_34) rfl dX7_dispose_1 h (fun x1 h => ?_)
  refine zj_iconst (v := 2) E dX7_dispose_4 (by decide) ?_
  refine zj_icmp_ne (tgt := 27) E dX7_dispose_5 (by decide) h (fun h => ?_) (fun h => ?_)
  · refine zj_aload_n E dX7_dispose_27 rfl 1 rfl ?_
    refine zs_getIN E zc3 5 (by decide) (znf_34) rfl dX7_dispose_28 h (fun x2 h => ?_)
    refine zj_iconst (v := 1) E dX7_dispose_31 (by decide) ?_
    refine zj_icmp_ne (tgt := 96) E dX7_dispose_32 (by decide) h (fun h => ?_) (fun h => ?_)
    · have e9 := Option.some.inj h
      subst e9
      exact (show zRet Γ cX7_dispose 5 0 0 (none) σ from K) _ _ dX7_dispose_96
    · refine zj_iconst (v := 0) E dX7_dispose_35 (by decide) ?_
      refine zj_istore_n (lv2 := [(2, .int 0), (0, .ref p0), (1, .ref p1)]) E dX7_dispose_36 rfl (by decide) rfl ?_
      obtain ⟨b2, hb2, h⟩ := oB_some h
      refine zj_lv [1, 2, 0] rfl ?_
      refine zj_loop (wX7_dispose_L37 E p0 p1) zF (0, σ) b2 hb2 ?_
      obtain ⟨σ3, rfl⟩ : ∃ z, z = b2 := ⟨_, rfl⟩
      try dsimp only at h
      show zJ Γ 5 0 0 σ3 96 [] []
      have e9 := Option.some.inj h
      subst e9
      exact (show zRet Γ cX7_dispose 5 0 0 (none) σ3 from K) _ _ dX7_dispose_96
  · refine zj_aload_n E dX7_dispose_8 rfl 0 rfl ?_
    refine zs_getR E zc6 1 (by decide) zw_5_21 rfl dX7_dispose_9 h (fun a2 h => ?_)
    refine zj_iconst (v := 0) E dX7_dispose_12 (by decide) ?_
    refine zj_aload_n E dX7_dispose_13 rfl 0 rfl ?_
    refine zs_getR E zc6 0 (by decide) zw_5_20 rfl dX7_dispose_14 h (fun a3 h => ?_)
    refine zj_iconst (v := 0) E dX7_dispose_17 (by decide) ?_
    refine zj_sipush (v := 256) E dX7_dispose_18 (by decide) ?_
    refine zs_copy E zw_27_15 zw_27_16 zw_27_17 zw_27_18 (by decide) (Nat.le_of_ble_eq_true rfl) dX7_dispose_21 h (fun σ4 h => ?_)
    refine zj_goto (tgt := 96) E dX7_dispose_24 (by decide) ?_
    have e9 := Option.some.inj h
    subst e9
    exact (show zRet Γ cX7_dispose 5 0 0 (none) σ4 from K) _ _ dX7_dispose_96
set_option maxRecDepth 100000 in
theorem kX7_dispose (l : Launch) (D : va_G) (cs : zCs) (z0 : Nat) (σ : zS) {p0 : Nat} {p1 : Nat}  {σ' : zS} (h : fX7_dispose σ p0 p1 = some σ') : zM l D cs z0 yX7_dispose cX7_dispose 5 none { frames := 1, cells := 0, slots := 0, locals := 40 } [.ref p0, .ref p1] σ none σ' 0 0 := by
  exact zM_of (by decide) rfl rfl (Nat.le_of_ble_eq_true rfl) rfl (fun Γ e1 e2 e3 e4 E _ K => wX7_dispose E σ _ _ h K)
/-! X7_compose -/
def jX7_compose_26 (Γ : zG) (l0 : Nat) (l1 : Nat) (l2 : Int32) : (Int32 × zS) → Prop := fun x => zJ Γ 5 0 0 x.2 26 [(0, .ref l0), (1, .ref l1), (2, .int l2), (3, .int x.1)] []
def eX7_compose_26 (Γ : zG) (l0 : Nat) (l1 : Nat) (l2 : Int32) : zS → Prop := fun b => zJ Γ 5 0 0 b 79 [(0, .ref l0), (1, .ref l1), (2, .int l2)] []
def bX7_compose_26 (l0 : Nat) (l1 : Nat) (l2 : Int32) (l3 : Int32) (σ : zS) : Option ((Int32 × zS) ⊕ zS) := (if l2 ≤ l3 then some (.inr σ) else (if (8 : Int32) ≤ l3 then some (.inr σ) else oGR σ 6 l1 0 (fun a2 => oLr σ a2 l3 (fun a3 => oGR σ 7 l0 0 (fun a4 => oGR σ 7 l0 1 (fun a5 => oCp σ a4 0 a5 0 256 (fun σ4 => oA (zk σ4 l0 = 7) (oB (fX7_draw σ4 l0 a3) (fun σ5 => oA (zk σ5 l0 = 7) (oB (fX7_dispose σ5 l0 a3) (fun σ6 => oL (l3 + 1) (fun v1 => some (.inl (v1, σ6))))))))))))))
set_option maxRecDepth 100000 in
theorem wX7_compose_L26 {Γ : zG} (E : zE Γ cX7_compose RX7 5 { frames := 2, cells := 0, slots := 0, locals := 64 }) (l0 : Nat) (l1 : Nat) (l2 : Int32) : ∀ x R, (fun x => bX7_compose_26 l0 l1 l2 x.1 x.2) x = some R → Sum.elim (jX7_compose_26 Γ l0 l1 l2) (eX7_compose_26 Γ l0 l1 l2) R → jX7_compose_26 Γ l0 l1 l2 x := by
  intro x R h K
  obtain ⟨l3, σ⟩ := x
  have h : bX7_compose_26 l0 l1 l2 l3 σ = some R := h
  show zJ Γ 5 0 0 σ 26 [(0, .ref l0), (1, .ref l1), (2, .int l2), (3, .int l3)] []
  unfold bX7_compose_26 at h
  refine zj_iload_n E dX7_compose_26 rfl 3 rfl ?_
  refine zj_iload_n E dX7_compose_27 rfl 2 rfl ?_
  refine zj_icmp_ge (tgt := 79) E dX7_compose_28 (by decide) h (fun h => ?_) (fun h => ?_)
  · have e9 := Option.some.inj h
    subst e9
    refine zj_lv [0, 1, 2] rfl ?_
    exact K
  · refine zj_iload_n E dX7_compose_31 rfl 3 rfl ?_
    refine zj_bipush (v := 8) E dX7_compose_32 (by decide) ?_
    refine zj_icmp_ge (tgt := 79) E dX7_compose_34 (by decide) h (fun h => ?_) (fun h => ?_)
    · have e9 := Option.some.inj h
      subst e9
      refine zj_lv [0, 1, 2] rfl ?_
      exact K
    · refine zj_aload_n E dX7_compose_37 rfl 1 rfl ?_
      refine zs_getRN E zc5 0 (by decide) (znf_40) rfl dX7_compose_38 h (fun a2 h => ?_)
      refine zj_iload_n E dX7_compose_41 rfl 3 rfl ?_
      refine zs_aald E dX7_compose_42 h (fun a3 h => ?_)
      refine zj_astore (lv2 := [(4, .ref a3), (0, .ref l0), (1, .ref l1), (2, .int l2), (3, .int l3)]) E dX7_compose_43 (by decide) rfl ?_
      refine zj_aload_n E dX7_compose_45 rfl 1 rfl ?_
      refine zs_getR E zc6 0 (by decide) zw_5_20 rfl dX7_compose_46 h (fun a4 h => ?_)
      refine zj_iconst (v := 0) E dX7_compose_49 (by decide) ?_
      refine zj_aload_n E dX7_compose_50 rfl 1 rfl ?_
      refine zs_getR E zc6 1 (by decide) zw_5_21 rfl dX7_compose_51 h (fun a5 h => ?_)
      refine zj_iconst (v := 0) E dX7_compose_54 (by decide) ?_
      refine zj_sipush (v := 256) E dX7_compose_55 (by decide) ?_
      refine zs_copy E zw_27_15 zw_27_16 zw_27_17 zw_27_18 (by decide) (Nat.le_of_ble_eq_true rfl) dX7_compose_58 h (fun σ4 h => ?_)
      refine zj_aload_n E dX7_compose_61 rfl 1 rfl ?_
      refine zj_aload E dX7_compose_62 0 rfl ?_
      obtain ⟨hk, h⟩ := oA_some h
      obtain ⟨σ5, hc, h⟩ := oB_some h
      refine zs_callV (As := [.ref a3]) (rest := []) E zc6 zyX7_draw zw_27_20 (kX7_draw _ _ _ _ _ hc) rfl rfl hk rfl ⟨by decide, by decide⟩ ⟨by decide, by decide⟩ (Nat.le_of_ble_eq_true rfl) dX7_compose_64 rfl (show zJ Γ 5 0 0 σ5 67 [(4, .ref a3), (0, .ref l0), (1, .ref l1), (2, .int l2), (3, .int l3)] [] from ?_)
      refine zj_aload_n E dX7_compose_67 rfl 1 rfl ?_
      refine zj_aload E dX7_compose_68 0 rfl ?_
      obtain ⟨hk, h⟩ := oA_some h
      obtain ⟨σ6, hc, h⟩ := oB_some h
      refine zs_callV (As := [.ref a3]) (rest := []) E zc6 zyX7_dispose zw_28_3 (kX7_dispose _ _ _ _ _ hc) rfl rfl hk rfl ⟨by decide, by decide⟩ ⟨by decide, by decide⟩ (Nat.le_of_ble_eq_true rfl) dX7_compose_70 rfl (show zJ Γ 5 0 0 σ6 73 [(4, .ref a3), (0, .ref l0), (1, .ref l1), (2, .int l2), (3, .int l3)] [] from ?_)
      refine zs_iinc (lv2 := fun v1 => [(3, .int v1), (4, .ref a3), (0, .ref l0), (1, .ref l1), (2, .int l2)]) E dX7_compose_73 4 rfl (by decide) (by decide) (fun _ => rfl) h (fun v1 h => ?_)
      refine zj_goto (tgt := 26) E dX7_compose_76 (by decide) ?_
      have e9 := Option.some.inj h
      subst e9
      refine zj_lv [2, 3, 4, 0] rfl ?_
      exact K
def fX7_compose (σ : zS) (p0 : Nat) (p1 : Nat) (p2 : Int32) : Option zS := oGI σ 6 p1 4 (fun x1 => oPI σ 7 p0 2 x1 (fun σ1 => oGI σ1 6 p1 5 (fun x2 => oPI σ1 7 p0 3 x2 (fun σ2 => oGR σ2 7 p0 0 (fun a1 => oB (fJ7_fill_53178 σ2 a1 0) (fun σ3 => oB (zloop zF (fun x => bX7_compose_26 p0 p1 p2 x.1 x.2) (0, σ3)) (fun b1 => (fun σ7 => oGR σ7 6 p1 0 (fun a6 => oLr σ7 a6 p2 (fun a7 => oA (zk σ7 p0 = 7) (oB (fX7_draw σ7 p0 a7) (fun σ8 => some σ8))))) b1)))))))
set_option maxRecDepth 100000 in
theorem wX7_compose {Γ : zG} (E : zE Γ cX7_compose RX7 5 { frames := 2, cells := 0, slots := 0, locals := 64 }) (σ : zS) (p0 : Nat) (p1 : Nat) (p2 : Int32) {R : zS} (h : fX7_compose σ p0 p1 p2 = some R) (K : zRet Γ cX7_compose 5 0 0 (none) R) : zJ Γ 5 0 0 σ 0 [(0, .ref p0), (1, .ref p1), (2, .int p2)] [] := by
  unfold fX7_compose at h
  refine zj_aload_n E dX7_compose_0 rfl 0 rfl ?_
  refine zj_aload_n E dX7_compose_1 rfl 1 rfl ?_
  refine zs_getIN E zc5 4 (by decide) (znf_49) rfl dX7_compose_2 h (fun x1 h => ?_)
  refine zs_putI E zc6 2 (by decide) zw_17_11 rfl rfl dX7_compose_5 h (fun σ1 h => ?_)
  refine zj_aload_n E dX7_compose_8 rfl 0 rfl ?_
  refine zj_aload_n E dX7_compose_9 rfl 1 rfl ?_
  refine zs_getIN E zc5 5 (by decide) (znf_51) rfl dX7_compose_10 h (fun x2 h => ?_)
  refine zs_putI E zc6 3 (by decide) zw_17_12 rfl rfl dX7_compose_13 h (fun σ2 h => ?_)
  refine zj_aload_n E dX7_compose_16 rfl 0 rfl ?_
  refine zs_getR E zc6 0 (by decide) zw_5_20 rfl dX7_compose_17 h (fun a1 h => ?_)
  refine zj_iconst (v := 0) E dX7_compose_20 (by decide) ?_
  obtain ⟨σ3, hc, h⟩ := oB_some h
  refine zs_callS (As := [.ref a1, .int 0]) (rest := []) E zyJ7_fill_53178 zw_27_19 (kJ7_fill_53178 _ _ _ _ _ hc) rfl rfl rfl ⟨by decide, by decide⟩ ⟨by decide, by decide⟩ (Nat.le_of_ble_eq_true rfl) dX7_compose_21 rfl (show zJ Γ 5 0 0 σ3 24 [(0, .ref p0), (1, .ref p1), (2, .int p2)] [] from ?_)
  refine zj_iconst (v := 0) E dX7_compose_24 (by decide) ?_
  refine zj_istore_n (lv2 := [(3, .int 0), (0, .ref p0), (1, .ref p1), (2, .int p2)]) E dX7_compose_25 rfl (by decide) rfl ?_
  obtain ⟨b1, hb1, h⟩ := oB_some h
  refine zj_lv [1, 2, 3, 0] rfl ?_
  refine zj_loop (wX7_compose_L26 E p0 p1 p2) zF (0, σ3) b1 hb1 ?_
  obtain ⟨σ7, rfl⟩ : ∃ z, z = b1 := ⟨_, rfl⟩
  try dsimp only at h
  show zJ Γ 5 0 0 σ7 79 [(0, .ref p0), (1, .ref p1), (2, .int p2)] []
  refine zj_aload_n E dX7_compose_79 rfl 0 rfl ?_
  refine zj_aload_n E dX7_compose_80 rfl 1 rfl ?_
  refine zs_getRN E zc5 0 (by decide) (znf_40) rfl dX7_compose_81 h (fun a6 h => ?_)
  refine zj_iload_n E dX7_compose_84 rfl 2 rfl ?_
  refine zs_aald E dX7_compose_85 h (fun a7 h => ?_)
  obtain ⟨hk, h⟩ := oA_some h
  obtain ⟨σ8, hc, h⟩ := oB_some h
  refine zs_callV (As := [.ref a7]) (rest := []) E zc6 zyX7_draw zw_27_20 (kX7_draw _ _ _ _ _ hc) rfl rfl hk rfl ⟨by decide, by decide⟩ ⟨by decide, by decide⟩ (Nat.le_of_ble_eq_true rfl) dX7_compose_86 rfl (show zJ Γ 5 0 0 σ8 89 [(0, .ref p0), (1, .ref p1), (2, .int p2)] [] from ?_)
  have e9 := Option.some.inj h
  subst e9
  exact (show zRet Γ cX7_compose 5 0 0 (none) σ8 from K) _ _ dX7_compose_89
set_option maxRecDepth 100000 in
theorem kX7_compose (l : Launch) (D : va_G) (cs : zCs) (z0 : Nat) (σ : zS) {p0 : Nat} {p1 : Nat} {p2 : Int32}  {σ' : zS} (h : fX7_compose σ p0 p1 p2 = some σ') : zM l D cs z0 yX7_compose cX7_compose 5 none { frames := 2, cells := 0, slots := 0, locals := 64 } [.ref p0, .ref p1, .int p2] σ none σ' 0 0 := by
  exact zM_of (by decide) rfl rfl (Nat.le_of_ble_eq_true rfl) rfl (fun Γ e1 e2 e3 e4 E _ K => wX7_compose E σ _ _ _ h K)
/-! X10_openChunk -/
def fX10_openChunk (σ : zS) (p0 : Nat) (p1 : Int32) (p2 : Int32) : Option zS := oGR σ 10 p0 0 (fun a1 => oA (zk σ a1 = 2) (oB (fX1_addNumber σ a1 p1) (fun σ1 => oGR σ1 10 p0 0 (fun a2 => oGI σ1 2 a2 1 (fun x1 => oPI σ1 10 p0 2 x1 (fun σ2 => oGR σ2 10 p0 0 (fun a3 => oA (zk σ2 a3 = 2) (oB (fX1_addNumber σ2 a3 p2) (fun σ3 => some σ3)))))))))
set_option maxRecDepth 100000 in
theorem wX10_openChunk {Γ : zG} (E : zE Γ cX10_openChunk RX10 3 { frames := 2, cells := 0, slots := 0, locals := 42 }) (σ : zS) (p0 : Nat) (p1 : Int32) (p2 : Int32) {R : zS} (h : fX10_openChunk σ p0 p1 p2 = some R) (K : zRet Γ cX10_openChunk 3 0 0 (none) R) : zJ Γ 3 0 0 σ 0 [(0, .ref p0), (1, .int p1), (2, .int p2)] [] := by
  unfold fX10_openChunk at h
  refine zj_aload_n E dX10_openChunk_0 rfl 0 rfl ?_
  refine zs_getR E zc9 0 (by decide) zw_5_14 rfl dX10_openChunk_1 h (fun a1 h => ?_)
  refine zj_iload_n E dX10_openChunk_4 rfl 1 rfl ?_
  obtain ⟨hk, h⟩ := oA_some h
  obtain ⟨σ1, hc, h⟩ := oB_some h
  refine zs_callV (As := [.int p1]) (rest := []) E zc1 zyX1_addNumber zw_30_18 (kX1_addNumber _ _ _ _ _ hc) rfl rfl hk rfl ⟨by decide, by decide⟩ ⟨by decide, by decide⟩ (Nat.le_of_ble_eq_true rfl) dX10_openChunk_5 rfl (show zJ Γ 3 0 0 σ1 8 [(0, .ref p0), (1, .int p1), (2, .int p2)] [] from ?_)
  refine zj_aload_n E dX10_openChunk_8 rfl 0 rfl ?_
  refine zj_aload_n E dX10_openChunk_9 rfl 0 rfl ?_
  refine zs_getR E zc9 0 (by decide) zw_5_14 rfl dX10_openChunk_10 h (fun a2 h => ?_)
  refine zs_getIN E zc1 1 (by decide) (znf_6) rfl dX10_openChunk_13 h (fun x1 h => ?_)
  refine zs_putI E zc9 2 (by decide) zw_31_5 rfl rfl dX10_openChunk_16 h (fun σ2 h => ?_)
  refine zj_aload_n E dX10_openChunk_19 rfl 0 rfl ?_
  refine zs_getR E zc9 0 (by decide) zw_5_14 rfl dX10_openChunk_20 h (fun a3 h => ?_)
  refine zj_iload_n E dX10_openChunk_23 rfl 2 rfl ?_
  obtain ⟨hk, h⟩ := oA_some h
  obtain ⟨σ3, hc, h⟩ := oB_some h
  refine zs_callV (As := [.int p2]) (rest := []) E zc1 zyX1_addNumber zw_30_18 (kX1_addNumber _ _ _ _ _ hc) rfl rfl hk rfl ⟨by decide, by decide⟩ ⟨by decide, by decide⟩ (Nat.le_of_ble_eq_true rfl) dX10_openChunk_24 rfl (show zJ Γ 3 0 0 σ3 27 [(0, .ref p0), (1, .int p1), (2, .int p2)] [] from ?_)
  have e9 := Option.some.inj h
  subst e9
  exact (show zRet Γ cX10_openChunk 3 0 0 (none) σ3 from K) _ _ dX10_openChunk_27
set_option maxRecDepth 100000 in
theorem kX10_openChunk (l : Launch) (D : va_G) (cs : zCs) (z0 : Nat) (σ : zS) {p0 : Nat} {p1 : Int32} {p2 : Int32}  {σ' : zS} (h : fX10_openChunk σ p0 p1 p2 = some σ') : zM l D cs z0 yX10_openChunk cX10_openChunk 3 none { frames := 2, cells := 0, slots := 0, locals := 42 } [.ref p0, .int p1, .int p2] σ none σ' 0 0 := by
  exact zM_of (by decide) rfl rfl (Nat.le_of_ble_eq_true rfl) rfl (fun Γ e1 e2 e3 e4 E _ K => wX10_openChunk E σ _ _ _ h K)
/-! X10_closeChunk -/
def fX10_closeChunk (σ : zS) (p0 : Nat) : Option zS := oGR σ 10 p0 0 (fun a1 => oGR σ 10 p0 1 (fun a2 => oGR σ 10 p0 0 (fun a3 => oGI σ 10 p0 2 (fun x1 => oGR σ 10 p0 0 (fun a4 => oGI σ 2 a4 1 (fun x2 => oA (zk σ a2 = 8) (oB (fX8_ofChunk σ a2 a3 x1 x2) (fun x3 => oA (zk σ a1 = 2) (oB (fX1_addNumber σ a1 x3) (fun σ1 => some σ1))))))))))
set_option maxRecDepth 100000 in
theorem wX10_closeChunk {Γ : zG} (E : zE Γ cX10_closeChunk RX10 1 { frames := 2, cells := 0, slots := 0, locals := 46 }) (σ : zS) (p0 : Nat) {R : zS} (h : fX10_closeChunk σ p0 = some R) (K : zRet Γ cX10_closeChunk 1 0 0 (none) R) : zJ Γ 1 0 0 σ 0 [(0, .ref p0)] [] := by
  unfold fX10_closeChunk at h
  refine zj_aload_n E dX10_closeChunk_0 rfl 0 rfl ?_
  refine zs_getR E zc9 0 (by decide) zw_5_14 rfl dX10_closeChunk_1 h (fun a1 h => ?_)
  refine zj_aload_n E dX10_closeChunk_4 rfl 0 rfl ?_
  refine zs_getR E zc9 1 (by decide) zw_5_15 rfl dX10_closeChunk_5 h (fun a2 h => ?_)
  refine zj_aload_n E dX10_closeChunk_8 rfl 0 rfl ?_
  refine zs_getR E zc9 0 (by decide) zw_5_14 rfl dX10_closeChunk_9 h (fun a3 h => ?_)
  refine zj_aload_n E dX10_closeChunk_12 rfl 0 rfl ?_
  refine zs_getI E zc9 2 (by decide) zw_31_5 rfl dX10_closeChunk_13 h (fun x1 h => ?_)
  refine zj_aload_n E dX10_closeChunk_16 rfl 0 rfl ?_
  refine zs_getR E zc9 0 (by decide) zw_5_14 rfl dX10_closeChunk_17 h (fun a4 h => ?_)
  refine zs_getIN E zc1 1 (by decide) (znf_6) rfl dX10_closeChunk_20 h (fun x2 h => ?_)
  obtain ⟨hk, h⟩ := oA_some h
  obtain ⟨x3, hc, h⟩ := oB_some h
  refine zs_callV (As := [.ref a3, .int x1, .int x2]) (rest := [.ref a1]) E zc7 zyX8_ofChunk zw_31_11 (kX8_ofChunk _ _ _ _ _ hc) rfl rfl hk rfl ⟨by decide, by decide⟩ ⟨by decide, by decide⟩ (Nat.le_of_ble_eq_true rfl) dX10_closeChunk_23 rfl (show zJ Γ 1 0 0 σ 26 [(0, .ref p0)] [.int x3, .ref a1] from ?_)
  obtain ⟨hk, h⟩ := oA_some h
  obtain ⟨σ1, hc, h⟩ := oB_some h
  refine zs_callV (As := [.int x3]) (rest := []) E zc1 zyX1_addNumber zw_30_18 (kX1_addNumber _ _ _ _ _ hc) rfl rfl hk rfl ⟨by decide, by decide⟩ ⟨by decide, by decide⟩ (Nat.le_of_ble_eq_true rfl) dX10_closeChunk_26 rfl (show zJ Γ 1 0 0 σ1 29 [(0, .ref p0)] [] from ?_)
  have e9 := Option.some.inj h
  subst e9
  exact (show zRet Γ cX10_closeChunk 1 0 0 (none) σ1 from K) _ _ dX10_closeChunk_29
set_option maxRecDepth 100000 in
theorem kX10_closeChunk (l : Launch) (D : va_G) (cs : zCs) (z0 : Nat) (σ : zS) {p0 : Nat}  {σ' : zS} (h : fX10_closeChunk σ p0 = some σ') : zM l D cs z0 yX10_closeChunk cX10_closeChunk 1 none { frames := 2, cells := 0, slots := 0, locals := 46 } [.ref p0] σ none σ' 0 0 := by
  exact zM_of (by decide) rfl rfl (Nat.le_of_ble_eq_true rfl) rfl (fun Γ e1 e2 e3 e4 E _ K => wX10_closeChunk E σ _ h K)
/-! X10_addHead -/
def fX10_addHead (σ : zS) (p0 : Nat) (p1 : Nat) : Option zS := oA (zk σ p0 = 10) (oB (fX10_openChunk σ p0 13 1229472850) (fun σ1 => oGR σ1 10 p0 0 (fun a1 => oGI σ1 6 p1 4 (fun x1 => oA (zk σ1 a1 = 2) (oB (fX1_addNumber σ1 a1 x1) (fun σ2 => oGR σ2 10 p0 0 (fun a2 => oGI σ2 6 p1 5 (fun x2 => oA (zk σ2 a2 = 2) (oB (fX1_addNumber σ2 a2 x2) (fun σ3 => oGR σ3 10 p0 0 (fun a3 => oA (zk σ3 a3 = 2) (oB (fX1_addNumber σ3 a3 134610944) (fun σ4 => oGR σ4 10 p0 0 (fun a4 => oA (zk σ4 a4 = 2) (oB (fX1_add σ4 a4 0) (fun σ5 => oA (zk σ5 p0 = 10) (oB (fX10_closeChunk σ5 p0) (fun σ6 => some σ6))))))))))))))))))
set_option maxRecDepth 100000 in
theorem wX10_addHead {Γ : zG} (E : zE Γ cX10_addHead RX10 2 { frames := 3, cells := 0, slots := 0, locals := 66 }) (σ : zS) (p0 : Nat) (p1 : Nat) {R : zS} (h : fX10_addHead σ p0 p1 = some R) (K : zRet Γ cX10_addHead 2 0 0 (none) R) : zJ Γ 2 0 0 σ 0 [(0, .ref p0), (1, .ref p1)] [] := by
  unfold fX10_addHead at h
  refine zj_aload_n E dX10_addHead_0 rfl 0 rfl ?_
  refine zj_bipush (v := 13) E dX10_addHead_1 (by decide) ?_
  refine zj_ldc (v := 1229472850) E zw_30_23 dX10_addHead_3 ?_
  obtain ⟨hk, h⟩ := oA_some h
  obtain ⟨σ1, hc, h⟩ := oB_some h
  refine zs_callV (As := [.int 13, .int 1229472850]) (rest := []) E zc9 zyX10_openChunk zw_31_1 (kX10_openChunk _ _ _ _ _ hc) rfl rfl hk rfl ⟨by decide, by decide⟩ ⟨by decide, by decide⟩ (Nat.le_of_ble_eq_true rfl) dX10_addHead_5 rfl (show zJ Γ 2 0 0 σ1 8 [(0, .ref p0), (1, .ref p1)] [] from ?_)
  refine zj_aload_n E dX10_addHead_8 rfl 0 rfl ?_
  refine zs_getR E zc9 0 (by decide) zw_5_14 rfl dX10_addHead_9 h (fun a1 h => ?_)
  refine zj_aload_n E dX10_addHead_12 rfl 1 rfl ?_
  refine zs_getIN E zc5 4 (by decide) (znf_50) rfl dX10_addHead_13 h (fun x1 h => ?_)
  obtain ⟨hk, h⟩ := oA_some h
  obtain ⟨σ2, hc, h⟩ := oB_some h
  refine zs_callV (As := [.int x1]) (rest := []) E zc1 zyX1_addNumber zw_30_18 (kX1_addNumber _ _ _ _ _ hc) rfl rfl hk rfl ⟨by decide, by decide⟩ ⟨by decide, by decide⟩ (Nat.le_of_ble_eq_true rfl) dX10_addHead_16 rfl (show zJ Γ 2 0 0 σ2 19 [(0, .ref p0), (1, .ref p1)] [] from ?_)
  refine zj_aload_n E dX10_addHead_19 rfl 0 rfl ?_
  refine zs_getR E zc9 0 (by decide) zw_5_14 rfl dX10_addHead_20 h (fun a2 h => ?_)
  refine zj_aload_n E dX10_addHead_23 rfl 1 rfl ?_
  refine zs_getIN E zc5 5 (by decide) (znf_52) rfl dX10_addHead_24 h (fun x2 h => ?_)
  obtain ⟨hk, h⟩ := oA_some h
  obtain ⟨σ3, hc, h⟩ := oB_some h
  refine zs_callV (As := [.int x2]) (rest := []) E zc1 zyX1_addNumber zw_30_18 (kX1_addNumber _ _ _ _ _ hc) rfl rfl hk rfl ⟨by decide, by decide⟩ ⟨by decide, by decide⟩ (Nat.le_of_ble_eq_true rfl) dX10_addHead_27 rfl (show zJ Γ 2 0 0 σ3 30 [(0, .ref p0), (1, .ref p1)] [] from ?_)
  refine zj_aload_n E dX10_addHead_30 rfl 0 rfl ?_
  refine zs_getR E zc9 0 (by decide) zw_5_14 rfl dX10_addHead_31 h (fun a3 h => ?_)
  refine zj_ldc (v := 134610944) E zw_31_0 dX10_addHead_34 ?_
  obtain ⟨hk, h⟩ := oA_some h
  obtain ⟨σ4, hc, h⟩ := oB_some h
  refine zs_callV (As := [.int 134610944]) (rest := []) E zc1 zyX1_addNumber zw_30_18 (kX1_addNumber _ _ _ _ _ hc) rfl rfl hk rfl ⟨by decide, by decide⟩ ⟨by decide, by decide⟩ (Nat.le_of_ble_eq_true rfl) dX10_addHead_36 rfl (show zJ Γ 2 0 0 σ4 39 [(0, .ref p0), (1, .ref p1)] [] from ?_)
  refine zj_aload_n E dX10_addHead_39 rfl 0 rfl ?_
  refine zs_getR E zc9 0 (by decide) zw_5_14 rfl dX10_addHead_40 h (fun a4 h => ?_)
  refine zj_iconst (v := 0) E dX10_addHead_43 (by decide) ?_
  obtain ⟨hk, h⟩ := oA_some h
  obtain ⟨σ5, hc, h⟩ := oB_some h
  refine zs_callV (As := [.int 0]) (rest := []) E zc1 zyX1_add zw_31_6 (kX1_add _ _ _ _ _ hc) rfl rfl hk rfl ⟨by decide, by decide⟩ ⟨by decide, by decide⟩ (Nat.le_of_ble_eq_true rfl) dX10_addHead_44 rfl (show zJ Γ 2 0 0 σ5 47 [(0, .ref p0), (1, .ref p1)] [] from ?_)
  refine zj_aload_n E dX10_addHead_47 rfl 0 rfl ?_
  obtain ⟨hk, h⟩ := oA_some h
  obtain ⟨σ6, hc, h⟩ := oB_some h
  refine zs_callV (As := []) (rest := []) E zc9 zyX10_closeChunk zw_31_7 (kX10_closeChunk _ _ _ _ _ hc) rfl rfl hk rfl ⟨by decide, by decide⟩ ⟨by decide, by decide⟩ (Nat.le_of_ble_eq_true rfl) dX10_addHead_48 rfl (show zJ Γ 2 0 0 σ6 51 [(0, .ref p0), (1, .ref p1)] [] from ?_)
  have e9 := Option.some.inj h
  subst e9
  exact (show zRet Γ cX10_addHead 2 0 0 (none) σ6 from K) _ _ dX10_addHead_51
set_option maxRecDepth 100000 in
theorem kX10_addHead (l : Launch) (D : va_G) (cs : zCs) (z0 : Nat) (σ : zS) {p0 : Nat} {p1 : Nat}  {σ' : zS} (h : fX10_addHead σ p0 p1 = some σ') : zM l D cs z0 yX10_addHead cX10_addHead 2 none { frames := 3, cells := 0, slots := 0, locals := 66 } [.ref p0, .ref p1] σ none σ' 0 0 := by
  exact zM_of (by decide) rfl rfl (Nat.le_of_ble_eq_true rfl) rfl (fun Γ e1 e2 e3 e4 E _ K => wX10_addHead E σ _ _ h K)
/-! X10_addSerial -/
def fX10_addSerial (σ : zS) (p0 : Nat) : Option zS := oGR σ 10 p0 0 (fun a1 => oGI σ 10 p0 3 (fun x1 => oA (zk σ a1 = 2) (oB (fX1_addNumber σ a1 x1) (fun σ1 => oGI σ1 10 p0 3 (fun x2 => oPI σ1 10 p0 3 (x2 + (1 : Int32)) (fun σ2 => some σ2))))))
set_option maxRecDepth 100000 in
theorem wX10_addSerial {Γ : zG} (E : zE Γ cX10_addSerial RX10 1 { frames := 2, cells := 0, slots := 0, locals := 42 }) (σ : zS) (p0 : Nat) {R : zS} (h : fX10_addSerial σ p0 = some R) (K : zRet Γ cX10_addSerial 1 0 0 (none) R) : zJ Γ 1 0 0 σ 0 [(0, .ref p0)] [] := by
  unfold fX10_addSerial at h
  refine zj_aload_n E dX10_addSerial_0 rfl 0 rfl ?_
  refine zs_getR E zc9 0 (by decide) zw_5_14 rfl dX10_addSerial_1 h (fun a1 h => ?_)
  refine zj_aload_n E dX10_addSerial_4 rfl 0 rfl ?_
  refine zs_getI E zc9 3 (by decide) zw_30_12 rfl dX10_addSerial_5 h (fun x1 h => ?_)
  obtain ⟨hk, h⟩ := oA_some h
  obtain ⟨σ1, hc, h⟩ := oB_some h
  refine zs_callV (As := [.int x1]) (rest := []) E zc1 zyX1_addNumber zw_30_18 (kX1_addNumber _ _ _ _ _ hc) rfl rfl hk rfl ⟨by decide, by decide⟩ ⟨by decide, by decide⟩ (Nat.le_of_ble_eq_true rfl) dX10_addSerial_8 rfl (show zJ Γ 1 0 0 σ1 11 [(0, .ref p0)] [] from ?_)
  refine zj_aload_n E dX10_addSerial_11 rfl 0 rfl ?_
  refine zj_dup E dX10_addSerial_12 rfl ?_
  refine zs_getI E zc9 3 (by decide) zw_30_12 rfl dX10_addSerial_13 h (fun x2 h => ?_)
  refine zj_iconst (v := 1) E dX10_addSerial_16 (by decide) ?_
  refine zj_iadd E dX10_addSerial_17 ?_
  refine zs_putI E zc9 3 (by decide) zw_30_12 rfl rfl dX10_addSerial_18 h (fun σ2 h => ?_)
  have e9 := Option.some.inj h
  subst e9
  exact (show zRet Γ cX10_addSerial 1 0 0 (none) σ2 from K) _ _ dX10_addSerial_21
set_option maxRecDepth 100000 in
theorem kX10_addSerial (l : Launch) (D : va_G) (cs : zCs) (z0 : Nat) (σ : zS) {p0 : Nat}  {σ' : zS} (h : fX10_addSerial σ p0 = some σ') : zM l D cs z0 yX10_addSerial cX10_addSerial 1 none { frames := 2, cells := 0, slots := 0, locals := 42 } [.ref p0] σ none σ' 0 0 := by
  exact zM_of (by decide) rfl rfl (Nat.le_of_ble_eq_true rfl) rfl (fun Γ e1 e2 e3 e4 E _ K => wX10_addSerial E σ _ h K)
/-! X10_addControl -/
def fX10_addControl (σ : zS) (p0 : Nat) (p1 : Nat) : Option zS := oA (zk σ p0 = 10) (oB (fX10_openChunk σ p0 26 1717785676) (fun σ1 => oA (zk σ1 p0 = 10) (oB (fX10_addSerial σ1 p0) (fun σ2 => oGR σ2 10 p0 0 (fun a1 => oGI σ2 4 p1 1 (fun x1 => oA (zk σ2 a1 = 2) (oB (fX1_addNumber σ2 a1 x1) (fun σ3 => oGR σ3 10 p0 0 (fun a2 => oGI σ3 4 p1 2 (fun x2 => oA (zk σ3 a2 = 2) (oB (fX1_addNumber σ3 a2 x2) (fun σ4 => oGR σ4 10 p0 0 (fun a3 => oGI σ4 4 p1 3 (fun x3 => oA (zk σ4 a3 = 2) (oB (fX1_addNumber σ4 a3 x3) (fun σ5 => oGR σ5 10 p0 0 (fun a4 => oGI σ5 4 p1 4 (fun x4 => oA (zk σ5 a4 = 2) (oB (fX1_addNumber σ5 a4 x4) (fun σ6 => oGR σ6 10 p0 0 (fun a5 => oA (zk σ6 a5 = 2) (oB (fX1_addNumber σ6 a5 65546) (fun σ7 => oGR σ7 10 p0 0 (fun a6 => oGI σ7 4 p1 5 (fun x5 => oA (zk σ7 a6 = 2) (oB (fX1_add σ7 a6 x5) (fun σ8 => oGR σ8 10 p0 0 (fun a7 => oGI σ8 4 p1 6 (fun x6 => oA (zk σ8 a7 = 2) (oB (fX1_add σ8 a7 x6) (fun σ9 => oA (zk σ9 p0 = 10) (oB (fX10_closeChunk σ9 p0) (fun σ10 => some σ10)))))))))))))))))))))))))))))))))
set_option maxRecDepth 100000 in
theorem wX10_addControl {Γ : zG} (E : zE Γ cX10_addControl RX10 2 { frames := 3, cells := 0, slots := 0, locals := 66 }) (σ : zS) (p0 : Nat) (p1 : Nat) {R : zS} (h : fX10_addControl σ p0 p1 = some R) (K : zRet Γ cX10_addControl 2 0 0 (none) R) : zJ Γ 2 0 0 σ 0 [(0, .ref p0), (1, .ref p1)] [] := by
  unfold fX10_addControl at h
  refine zj_aload_n E dX10_addControl_0 rfl 0 rfl ?_
  refine zj_bipush (v := 26) E dX10_addControl_1 (by decide) ?_
  refine zj_ldc (v := 1717785676) E zw_31_16 dX10_addControl_3 ?_
  obtain ⟨hk, h⟩ := oA_some h
  obtain ⟨σ1, hc, h⟩ := oB_some h
  refine zs_callV (As := [.int 26, .int 1717785676]) (rest := []) E zc9 zyX10_openChunk zw_31_1 (kX10_openChunk _ _ _ _ _ hc) rfl rfl hk rfl ⟨by decide, by decide⟩ ⟨by decide, by decide⟩ (Nat.le_of_ble_eq_true rfl) dX10_addControl_5 rfl (show zJ Γ 2 0 0 σ1 8 [(0, .ref p0), (1, .ref p1)] [] from ?_)
  refine zj_aload_n E dX10_addControl_8 rfl 0 rfl ?_
  obtain ⟨hk, h⟩ := oA_some h
  obtain ⟨σ2, hc, h⟩ := oB_some h
  refine zs_callV (As := []) (rest := []) E zc9 zyX10_addSerial zw_31_18 (kX10_addSerial _ _ _ _ _ hc) rfl rfl hk rfl ⟨by decide, by decide⟩ ⟨by decide, by decide⟩ (Nat.le_of_ble_eq_true rfl) dX10_addControl_9 rfl (show zJ Γ 2 0 0 σ2 12 [(0, .ref p0), (1, .ref p1)] [] from ?_)
  refine zj_aload_n E dX10_addControl_12 rfl 0 rfl ?_
  refine zs_getR E zc9 0 (by decide) zw_5_14 rfl dX10_addControl_13 h (fun a1 h => ?_)
  refine zj_aload_n E dX10_addControl_16 rfl 1 rfl ?_
  refine zs_getIN E zc3 1 (by decide) (znf_20) rfl dX10_addControl_17 h (fun x1 h => ?_)
  obtain ⟨hk, h⟩ := oA_some h
  obtain ⟨σ3, hc, h⟩ := oB_some h
  refine zs_callV (As := [.int x1]) (rest := []) E zc1 zyX1_addNumber zw_30_18 (kX1_addNumber _ _ _ _ _ hc) rfl rfl hk rfl ⟨by decide, by decide⟩ ⟨by decide, by decide⟩ (Nat.le_of_ble_eq_true rfl) dX10_addControl_20 rfl (show zJ Γ 2 0 0 σ3 23 [(0, .ref p0), (1, .ref p1)] [] from ?_)
  refine zj_aload_n E dX10_addControl_23 rfl 0 rfl ?_
  refine zs_getR E zc9 0 (by decide) zw_5_14 rfl dX10_addControl_24 h (fun a2 h => ?_)
  refine zj_aload_n E dX10_addControl_27 rfl 1 rfl ?_
  refine zs_getIN E zc3 2 (by decide) (znf_25) rfl dX10_addControl_28 h (fun x2 h => ?_)
  obtain ⟨hk, h⟩ := oA_some h
  obtain ⟨σ4, hc, h⟩ := oB_some h
  refine zs_callV (As := [.int x2]) (rest := []) E zc1 zyX1_addNumber zw_30_18 (kX1_addNumber _ _ _ _ _ hc) rfl rfl hk rfl ⟨by decide, by decide⟩ ⟨by decide, by decide⟩ (Nat.le_of_ble_eq_true rfl) dX10_addControl_31 rfl (show zJ Γ 2 0 0 σ4 34 [(0, .ref p0), (1, .ref p1)] [] from ?_)
  refine zj_aload_n E dX10_addControl_34 rfl 0 rfl ?_
  refine zs_getR E zc9 0 (by decide) zw_5_14 rfl dX10_addControl_35 h (fun a3 h => ?_)
  refine zj_aload_n E dX10_addControl_38 rfl 1 rfl ?_
  refine zs_getIN E zc3 3 (by decide) (znf_29) rfl dX10_addControl_39 h (fun x3 h => ?_)
  obtain ⟨hk, h⟩ := oA_some h
  obtain ⟨σ5, hc, h⟩ := oB_some h
  refine zs_callV (As := [.int x3]) (rest := []) E zc1 zyX1_addNumber zw_30_18 (kX1_addNumber _ _ _ _ _ hc) rfl rfl hk rfl ⟨by decide, by decide⟩ ⟨by decide, by decide⟩ (Nat.le_of_ble_eq_true rfl) dX10_addControl_42 rfl (show zJ Γ 2 0 0 σ5 45 [(0, .ref p0), (1, .ref p1)] [] from ?_)
  refine zj_aload_n E dX10_addControl_45 rfl 0 rfl ?_
  refine zs_getR E zc9 0 (by decide) zw_5_14 rfl dX10_addControl_46 h (fun a4 h => ?_)
  refine zj_aload_n E dX10_addControl_49 rfl 1 rfl ?_
  refine zs_getIN E zc3 4 (by decide) (znf_32) rfl dX10_addControl_50 h (fun x4 h => ?_)
  obtain ⟨hk, h⟩ := oA_some h
  obtain ⟨σ6, hc, h⟩ := oB_some h
  refine zs_callV (As := [.int x4]) (rest := []) E zc1 zyX1_addNumber zw_30_18 (kX1_addNumber _ _ _ _ _ hc) rfl rfl hk rfl ⟨by decide, by decide⟩ ⟨by decide, by decide⟩ (Nat.le_of_ble_eq_true rfl) dX10_addControl_53 rfl (show zJ Γ 2 0 0 σ6 56 [(0, .ref p0), (1, .ref p1)] [] from ?_)
  refine zj_aload_n E dX10_addControl_56 rfl 0 rfl ?_
  refine zs_getR E zc9 0 (by decide) zw_5_14 rfl dX10_addControl_57 h (fun a5 h => ?_)
  refine zj_ldc (v := 65546) E zw_31_17 dX10_addControl_60 ?_
  obtain ⟨hk, h⟩ := oA_some h
  obtain ⟨σ7, hc, h⟩ := oB_some h
  refine zs_callV (As := [.int 65546]) (rest := []) E zc1 zyX1_addNumber zw_30_18 (kX1_addNumber _ _ _ _ _ hc) rfl rfl hk rfl ⟨by decide, by decide⟩ ⟨by decide, by decide⟩ (Nat.le_of_ble_eq_true rfl) dX10_addControl_62 rfl (show zJ Γ 2 0 0 σ7 65 [(0, .ref p0), (1, .ref p1)] [] from ?_)
  refine zj_aload_n E dX10_addControl_65 rfl 0 rfl ?_
  refine zs_getR E zc9 0 (by decide) zw_5_14 rfl dX10_addControl_66 h (fun a6 h => ?_)
  refine zj_aload_n E dX10_addControl_69 rfl 1 rfl ?_
  refine zs_getIN E zc3 5 (by decide) (znf_35) rfl dX10_addControl_70 h (fun x5 h => ?_)
  obtain ⟨hk, h⟩ := oA_some h
  obtain ⟨σ8, hc, h⟩ := oB_some h
  refine zs_callV (As := [.int x5]) (rest := []) E zc1 zyX1_add zw_31_6 (kX1_add _ _ _ _ _ hc) rfl rfl hk rfl ⟨by decide, by decide⟩ ⟨by decide, by decide⟩ (Nat.le_of_ble_eq_true rfl) dX10_addControl_73 rfl (show zJ Γ 2 0 0 σ8 76 [(0, .ref p0), (1, .ref p1)] [] from ?_)
  refine zj_aload_n E dX10_addControl_76 rfl 0 rfl ?_
  refine zs_getR E zc9 0 (by decide) zw_5_14 rfl dX10_addControl_77 h (fun a7 h => ?_)
  refine zj_aload_n E dX10_addControl_80 rfl 1 rfl ?_
  refine zs_getIN E zc3 6 (by decide) (znf_38) rfl dX10_addControl_81 h (fun x6 h => ?_)
  obtain ⟨hk, h⟩ := oA_some h
  obtain ⟨σ9, hc, h⟩ := oB_some h
  refine zs_callV (As := [.int x6]) (rest := []) E zc1 zyX1_add zw_31_6 (kX1_add _ _ _ _ _ hc) rfl rfl hk rfl ⟨by decide, by decide⟩ ⟨by decide, by decide⟩ (Nat.le_of_ble_eq_true rfl) dX10_addControl_84 rfl (show zJ Γ 2 0 0 σ9 87 [(0, .ref p0), (1, .ref p1)] [] from ?_)
  refine zj_aload_n E dX10_addControl_87 rfl 0 rfl ?_
  obtain ⟨hk, h⟩ := oA_some h
  obtain ⟨σ10, hc, h⟩ := oB_some h
  refine zs_callV (As := []) (rest := []) E zc9 zyX10_closeChunk zw_31_7 (kX10_closeChunk _ _ _ _ _ hc) rfl rfl hk rfl ⟨by decide, by decide⟩ ⟨by decide, by decide⟩ (Nat.le_of_ble_eq_true rfl) dX10_addControl_88 rfl (show zJ Γ 2 0 0 σ10 91 [(0, .ref p0), (1, .ref p1)] [] from ?_)
  have e9 := Option.some.inj h
  subst e9
  exact (show zRet Γ cX10_addControl 2 0 0 (none) σ10 from K) _ _ dX10_addControl_91
set_option maxRecDepth 100000 in
theorem kX10_addControl (l : Launch) (D : va_G) (cs : zCs) (z0 : Nat) (σ : zS) {p0 : Nat} {p1 : Nat}  {σ' : zS} (h : fX10_addControl σ p0 p1 = some σ') : zM l D cs z0 yX10_addControl cX10_addControl 2 none { frames := 3, cells := 0, slots := 0, locals := 66 } [.ref p0, .ref p1] σ none σ' 0 0 := by
  exact zM_of (by decide) rfl rfl (Nat.le_of_ble_eq_true rfl) rfl (fun Γ e1 e2 e3 e4 E _ K => wX10_addControl E σ _ _ h K)
/-! X10_rawSize -/
def fX10_rawSize (σ : zS) (p0 : Nat) : Option Int32 := oGI σ 4 p0 2 (fun x1 => oGI σ 4 p0 1 (fun x2 => some (x1 * ((1 : Int32) + ((4 : Int32) * x2)))))
set_option maxRecDepth 100000 in
theorem wX10_rawSize {Γ : zG} (E : zE Γ cX10_rawSize RX10 1 { frames := 0, cells := 0, slots := 0, locals := 0 }) (σ : zS) (p0 : Nat) {R : Int32} (h : fX10_rawSize σ p0 = some R) (K : zRet Γ cX10_rawSize 1 0 0 (some (.int R)) σ) : zJ Γ 1 0 0 σ 0 [(0, .ref p0)] [] := by
  unfold fX10_rawSize at h
  refine zj_aload_n E dX10_rawSize_0 rfl 0 rfl ?_
  refine zs_getIN E zc3 2 (by decide) (znf_25) rfl dX10_rawSize_1 h (fun x1 h => ?_)
  refine zj_iconst (v := 1) E dX10_rawSize_4 (by decide) ?_
  refine zj_iconst (v := 4) E dX10_rawSize_5 (by decide) ?_
  refine zj_aload_n E dX10_rawSize_6 rfl 0 rfl ?_
  refine zs_getIN E zc3 1 (by decide) (znf_20) rfl dX10_rawSize_7 h (fun x2 h => ?_)
  refine zj_imul E dX10_rawSize_10 ?_
  refine zj_iadd E dX10_rawSize_11 ?_
  refine zj_imul E dX10_rawSize_12 ?_
  have e9 := Option.some.inj h
  subst e9
  exact (show zRet Γ cX10_rawSize 1 0 0 (some (.int (x1 * ((1 : Int32) + ((4 : Int32) * x2))))) σ from K) _ _ dX10_rawSize_13
set_option maxRecDepth 100000 in
theorem kX10_rawSize (l : Launch) (D : va_G) (cs : zCs) (z0 : Nat) (σ : zS) {p0 : Nat} {r : Int32} (h : fX10_rawSize σ p0 = some r) : zM l D cs z0 yX10_rawSize cX10_rawSize 1 (some .int) { frames := 0, cells := 0, slots := 0, locals := 0 } [.ref p0] σ (some (.int r)) σ 0 0 := by
  exact zM_of (by decide) rfl (Or.inl rfl) (Nat.le_of_ble_eq_true rfl) rfl (fun Γ e1 e2 e3 e4 E _ K => wX10_rawSize E σ _ h K)
/-! X10_addPacked -/
def jX10_addPacked_83 (Γ : zG) (l0 : Nat) (l1 : Nat) (l3 : Int32) : (Int32 × zS) → Prop := fun x => zJ Γ 6 0 0 x.2 83 [(0, .ref l0), (1, .ref l1), (3, .int l3), (4, .int x.1)] []
def eX10_addPacked_83 (Γ : zG) (l0 : Nat) (l1 : Nat) (l3 : Int32) : zS → Prop := fun b => zJ Γ 6 0 0 b 146 [(0, .ref l0), (3, .int l3)] []
def jX10_addPacked_103 (Γ : zG) (l0 : Nat) (l1 : Nat) (l3 : Int32) (l4 : Int32) : (Int32 × zS) → Prop := fun x => zJ Γ 6 0 0 x.2 103 [(0, .ref l0), (1, .ref l1), (3, .int l3), (4, .int l4), (5, .int x.1)] []
def eX10_addPacked_103 (Γ : zG) (l0 : Nat) (l1 : Nat) (l3 : Int32) (l4 : Int32) : zS → Prop := fun b => zJ Γ 6 0 0 b 140 [(0, .ref l0), (1, .ref l1), (3, .int l3), (4, .int l4)] []
def bX10_addPacked_103 (l0 : Nat) (l1 : Nat) (l3 : Int32) (l4 : Int32) (l5 : Int32) (σ : zS) : Option ((Int32 × zS) ⊕ zS) := oGI σ 4 l1 1 (fun x4 => (if x4 ≤ l5 then some (.inr σ) else oGR σ 10 l0 0 (fun a10 => oGR σ 4 l1 0 (fun a11 => oGI σ 4 l1 1 (fun x5 => oLd σ 21 a11 ((l4 * x5) + l5) (fun x6 => oA (zk σ a10 = 2) (oB (fX1_addNumber σ a10 x6) (fun σ9 => oL (l5 + 1) (fun v1 => some (.inl (v1, σ9)))))))))))
set_option maxRecDepth 100000 in
theorem wX10_addPacked_L103 {Γ : zG} (E : zE Γ cX10_addPacked RX10 6 { frames := 2, cells := 0, slots := 0, locals := 46 }) (l0 : Nat) (l1 : Nat) (l3 : Int32) (l4 : Int32) : ∀ x R, (fun x => bX10_addPacked_103 l0 l1 l3 l4 x.1 x.2) x = some R → Sum.elim (jX10_addPacked_103 Γ l0 l1 l3 l4) (eX10_addPacked_103 Γ l0 l1 l3 l4) R → jX10_addPacked_103 Γ l0 l1 l3 l4 x := by
  intro x R h K
  obtain ⟨l5, σ⟩ := x
  have h : bX10_addPacked_103 l0 l1 l3 l4 l5 σ = some R := h
  show zJ Γ 6 0 0 σ 103 [(0, .ref l0), (1, .ref l1), (3, .int l3), (4, .int l4), (5, .int l5)] []
  unfold bX10_addPacked_103 at h
  refine zj_iload E dX10_addPacked_103 4 rfl ?_
  refine zj_aload_n E dX10_addPacked_105 rfl 1 rfl ?_
  refine zs_getIN E zc3 1 (by decide) (znf_20) rfl dX10_addPacked_106 h (fun x4 h => ?_)
  refine zj_icmp_ge (tgt := 140) E dX10_addPacked_109 (by decide) h (fun h => ?_) (fun h => ?_)
  · have e9 := Option.some.inj h
    subst e9
    refine zj_lv [0, 1, 2, 3] rfl ?_
    exact K
  · refine zj_aload_n E dX10_addPacked_112 rfl 0 rfl ?_
    refine zs_getR E zc9 0 (by decide) zw_5_14 rfl dX10_addPacked_113 h (fun a10 h => ?_)
    refine zj_aload_n E dX10_addPacked_116 rfl 1 rfl ?_
    refine zs_getRN E zc3 0 (by decide) (znf_16) rfl dX10_addPacked_117 h (fun a11 h => ?_)
    refine zj_iload E dX10_addPacked_120 3 rfl ?_
    refine zj_aload_n E dX10_addPacked_122 rfl 1 rfl ?_
    refine zs_getIN E zc3 1 (by decide) (znf_20) rfl dX10_addPacked_123 h (fun x5 h => ?_)
    refine zj_imul E dX10_addPacked_126 ?_
    refine zj_iload E dX10_addPacked_127 4 rfl ?_
    refine zj_iadd E dX10_addPacked_129 ?_
    refine zs_iald E dX10_addPacked_130 h (fun x6 h => ?_)
    obtain ⟨hk, h⟩ := oA_some h
    obtain ⟨σ9, hc, h⟩ := oB_some h
    refine zs_callV (As := [.int x6]) (rest := []) E zc1 zyX1_addNumber zw_30_18 (kX1_addNumber _ _ _ _ _ hc) rfl rfl hk rfl ⟨by decide, by decide⟩ ⟨by decide, by decide⟩ (Nat.le_of_ble_eq_true rfl) dX10_addPacked_131 rfl (show zJ Γ 6 0 0 σ9 134 [(0, .ref l0), (1, .ref l1), (3, .int l3), (4, .int l4), (5, .int l5)] [] from ?_)
    refine zs_iinc (lv2 := fun v1 => [(5, .int v1), (0, .ref l0), (1, .ref l1), (3, .int l3), (4, .int l4)]) E dX10_addPacked_134 4 rfl (by decide) (by decide) (fun _ => rfl) h (fun v1 h => ?_)
    refine zj_goto (tgt := 103) E dX10_addPacked_137 (by decide) ?_
    have e9 := Option.some.inj h
    subst e9
    refine zj_lv [1, 2, 3, 4, 0] rfl ?_
    exact K
def bX10_addPacked_83 (l0 : Nat) (l1 : Nat) (l3 : Int32) (l4 : Int32) (σ : zS) : Option ((Int32 × zS) ⊕ zS) := oGI σ 4 l1 2 (fun x3 => (if x3 ≤ l4 then some (.inr σ) else oGR σ 10 l0 0 (fun a9 => oA (zk σ a9 = 2) (oB (fX1_add σ a9 0) (fun σ8 => oB (zloop zF (fun x => bX10_addPacked_103 l0 l1 l3 l4 x.1 x.2) (0, σ8)) (fun b1 => (fun σ10 => oL (l4 + 1) (fun v2 => some (.inl (v2, σ10)))) b1))))))
set_option maxRecDepth 100000 in
theorem wX10_addPacked_L83 {Γ : zG} (E : zE Γ cX10_addPacked RX10 6 { frames := 2, cells := 0, slots := 0, locals := 46 }) (l0 : Nat) (l1 : Nat) (l3 : Int32) : ∀ x R, (fun x => bX10_addPacked_83 l0 l1 l3 x.1 x.2) x = some R → Sum.elim (jX10_addPacked_83 Γ l0 l1 l3) (eX10_addPacked_83 Γ l0 l1 l3) R → jX10_addPacked_83 Γ l0 l1 l3 x := by
  intro x R h K
  obtain ⟨l4, σ⟩ := x
  have h : bX10_addPacked_83 l0 l1 l3 l4 σ = some R := h
  show zJ Γ 6 0 0 σ 83 [(0, .ref l0), (1, .ref l1), (3, .int l3), (4, .int l4)] []
  unfold bX10_addPacked_83 at h
  refine zj_iload E dX10_addPacked_83 3 rfl ?_
  refine zj_aload_n E dX10_addPacked_85 rfl 1 rfl ?_
  refine zs_getIN E zc3 2 (by decide) (znf_25) rfl dX10_addPacked_86 h (fun x3 h => ?_)
  refine zj_icmp_ge (tgt := 146) E dX10_addPacked_89 (by decide) h (fun h => ?_) (fun h => ?_)
  · have e9 := Option.some.inj h
    subst e9
    refine zj_lv [0, 2] rfl ?_
    exact K
  · refine zj_aload_n E dX10_addPacked_92 rfl 0 rfl ?_
    refine zs_getR E zc9 0 (by decide) zw_5_14 rfl dX10_addPacked_93 h (fun a9 h => ?_)
    refine zj_iconst (v := 0) E dX10_addPacked_96 (by decide) ?_
    obtain ⟨hk, h⟩ := oA_some h
    obtain ⟨σ8, hc, h⟩ := oB_some h
    refine zs_callV (As := [.int 0]) (rest := []) E zc1 zyX1_add zw_31_6 (kX1_add _ _ _ _ _ hc) rfl rfl hk rfl ⟨by decide, by decide⟩ ⟨by decide, by decide⟩ (Nat.le_of_ble_eq_true rfl) dX10_addPacked_97 rfl (show zJ Γ 6 0 0 σ8 100 [(0, .ref l0), (1, .ref l1), (3, .int l3), (4, .int l4)] [] from ?_)
    refine zj_iconst (v := 0) E dX10_addPacked_100 (by decide) ?_
    refine zj_istore (lv2 := [(5, .int 0), (0, .ref l0), (1, .ref l1), (3, .int l3), (4, .int l4)]) E dX10_addPacked_101 (by decide) rfl ?_
    obtain ⟨b1, hb1, h⟩ := oB_some h
    refine zj_lv [1, 2, 3, 4, 0] rfl ?_
    refine zj_loop (wX10_addPacked_L103 E l0 l1 l3 l4) zF (0, σ8) b1 hb1 ?_
    obtain ⟨σ10, rfl⟩ : ∃ z, z = b1 := ⟨_, rfl⟩
    try dsimp only at h
    show zJ Γ 6 0 0 σ10 140 [(0, .ref l0), (1, .ref l1), (3, .int l3), (4, .int l4)] []
    refine zs_iinc (lv2 := fun v2 => [(4, .int v2), (0, .ref l0), (1, .ref l1), (3, .int l3)]) E dX10_addPacked_140 3 rfl (by decide) (by decide) (fun _ => rfl) h (fun v2 h => ?_)
    refine zj_goto (tgt := 83) E dX10_addPacked_143 (by decide) ?_
    have e9 := Option.some.inj h
    subst e9
    refine zj_lv [1, 2, 3, 0] rfl ?_
    exact K
def fX10_addPacked (σ : zS) (p0 : Nat) (p1 : Nat) : Option zS := oB (fX10_rawSize σ p1) (fun x1 => oGR σ 10 p0 0 (fun a1 => oA (zk σ a1 = 2) (oB (fX1_add σ a1 120) (fun σ1 => oGR σ1 10 p0 0 (fun a2 => oA (zk σ1 a2 = 2) (oB (fX1_add σ1 a2 1) (fun σ2 => oGR σ2 10 p0 0 (fun a3 => oA (zk σ2 a3 = 2) (oB (fX1_add σ2 a3 1) (fun σ3 => oGR σ3 10 p0 0 (fun a4 => oA (zk σ3 a4 = 2) (oB (fX1_add σ3 a4 x1) (fun σ4 => oGR σ4 10 p0 0 (fun a5 => oA (zk σ4 a5 = 2) (oB (fX1_add σ4 a5 ((x1.toUInt32 >>> ((8 : Int32).toUInt32 &&& Int32.toUInt32 31)).toInt32)) (fun σ5 => oGR σ5 10 p0 0 (fun a6 => oA (zk σ5 a6 = 2) (oB (fX1_add σ5 a6 (x1 ^^^ (-1 : Int32))) (fun σ6 => oGR σ6 10 p0 0 (fun a7 => oA (zk σ6 a7 = 2) (oB (fX1_add σ6 a7 (((x1 ^^^ (-1 : Int32)).toUInt32 >>> ((8 : Int32).toUInt32 &&& Int32.toUInt32 31)).toInt32)) (fun σ7 => oGR σ7 10 p0 0 (fun a8 => oGI σ7 2 a8 1 (fun x2 => oB (zloop zF (fun x => bX10_addPacked_83 p0 p1 x2 x.1 x.2) (0, σ7)) (fun b2 => (fun σ11 => oGR σ11 10 p0 0 (fun a12 => oGR σ11 10 p0 0 (fun a13 => oGR σ11 10 p0 0 (fun a14 => oGI σ11 2 a14 1 (fun x7 => oB (fX8_ofRaw σ11 a13 x2 x7) (fun x8 => oA (zk σ11 a12 = 2) (oB (fX1_addNumber σ11 a12 x8) (fun σ12 => some σ12)))))))) b2)))))))))))))))))))))))))
set_option maxRecDepth 100000 in
theorem wX10_addPacked {Γ : zG} (E : zE Γ cX10_addPacked RX10 6 { frames := 2, cells := 0, slots := 0, locals := 46 }) (σ : zS) (p0 : Nat) (p1 : Nat) {R : zS} (h : fX10_addPacked σ p0 p1 = some R) (K : zRet Γ cX10_addPacked 6 0 0 (none) R) : zJ Γ 6 0 0 σ 0 [(0, .ref p0), (1, .ref p1)] [] := by
  unfold fX10_addPacked at h
  refine zj_aload_n E dX10_addPacked_0 rfl 1 rfl ?_
  obtain ⟨x1, hc, h⟩ := oB_some h
  refine zs_callS (As := [.ref p1]) (rest := []) E zyX10_rawSize zw_32_4 (kX10_rawSize _ _ _ _ _ hc) rfl rfl rfl ⟨by decide, by decide⟩ ⟨by decide, by decide⟩ (Nat.le_of_ble_eq_true rfl) dX10_addPacked_1 rfl (show zJ Γ 6 0 0 σ 4 [(0, .ref p0), (1, .ref p1)] [.int x1] from ?_)
  refine zj_istore_n (lv2 := [(2, .int x1), (0, .ref p0), (1, .ref p1)]) E dX10_addPacked_4 rfl (by decide) rfl ?_
  refine zj_aload_n E dX10_addPacked_5 rfl 1 rfl ?_
  refine zs_getR E zc9 0 (by decide) zw_5_14 rfl dX10_addPacked_6 h (fun a1 h => ?_)
  refine zj_bipush (v := 120) E dX10_addPacked_9 (by decide) ?_
  obtain ⟨hk, h⟩ := oA_some h
  obtain ⟨σ1, hc, h⟩ := oB_some h
  refine zs_callV (As := [.int 120]) (rest := []) E zc1 zyX1_add zw_31_6 (kX1_add _ _ _ _ _ hc) rfl rfl hk rfl ⟨by decide, by decide⟩ ⟨by decide, by decide⟩ (Nat.le_of_ble_eq_true rfl) dX10_addPacked_11 rfl (show zJ Γ 6 0 0 σ1 14 [(2, .int x1), (0, .ref p0), (1, .ref p1)] [] from ?_)
  refine zj_aload_n E dX10_addPacked_14 rfl 1 rfl ?_
  refine zs_getR E zc9 0 (by decide) zw_5_14 rfl dX10_addPacked_15 h (fun a2 h => ?_)
  refine zj_iconst (v := 1) E dX10_addPacked_18 (by decide) ?_
  obtain ⟨hk, h⟩ := oA_some h
  obtain ⟨σ2, hc, h⟩ := oB_some h
  refine zs_callV (As := [.int 1]) (rest := []) E zc1 zyX1_add zw_31_6 (kX1_add _ _ _ _ _ hc) rfl rfl hk rfl ⟨by decide, by decide⟩ ⟨by decide, by decide⟩ (Nat.le_of_ble_eq_true rfl) dX10_addPacked_19 rfl (show zJ Γ 6 0 0 σ2 22 [(2, .int x1), (0, .ref p0), (1, .ref p1)] [] from ?_)
  refine zj_aload_n E dX10_addPacked_22 rfl 1 rfl ?_
  refine zs_getR E zc9 0 (by decide) zw_5_14 rfl dX10_addPacked_23 h (fun a3 h => ?_)
  refine zj_iconst (v := 1) E dX10_addPacked_26 (by decide) ?_
  obtain ⟨hk, h⟩ := oA_some h
  obtain ⟨σ3, hc, h⟩ := oB_some h
  refine zs_callV (As := [.int 1]) (rest := []) E zc1 zyX1_add zw_31_6 (kX1_add _ _ _ _ _ hc) rfl rfl hk rfl ⟨by decide, by decide⟩ ⟨by decide, by decide⟩ (Nat.le_of_ble_eq_true rfl) dX10_addPacked_27 rfl (show zJ Γ 6 0 0 σ3 30 [(2, .int x1), (0, .ref p0), (1, .ref p1)] [] from ?_)
  refine zj_aload_n E dX10_addPacked_30 rfl 1 rfl ?_
  refine zs_getR E zc9 0 (by decide) zw_5_14 rfl dX10_addPacked_31 h (fun a4 h => ?_)
  refine zj_iload_n E dX10_addPacked_34 rfl 0 rfl ?_
  obtain ⟨hk, h⟩ := oA_some h
  obtain ⟨σ4, hc, h⟩ := oB_some h
  refine zs_callV (As := [.int x1]) (rest := []) E zc1 zyX1_add zw_31_6 (kX1_add _ _ _ _ _ hc) rfl rfl hk rfl ⟨by decide, by decide⟩ ⟨by decide, by decide⟩ (Nat.le_of_ble_eq_true rfl) dX10_addPacked_35 rfl (show zJ Γ 6 0 0 σ4 38 [(2, .int x1), (0, .ref p0), (1, .ref p1)] [] from ?_)
  refine zj_aload_n E dX10_addPacked_38 rfl 1 rfl ?_
  refine zs_getR E zc9 0 (by decide) zw_5_14 rfl dX10_addPacked_39 h (fun a5 h => ?_)
  refine zj_iload_n E dX10_addPacked_42 rfl 0 rfl ?_
  refine zj_bipush (v := 8) E dX10_addPacked_43 (by decide) ?_
  refine zj_iushr E dX10_addPacked_45 ?_
  obtain ⟨hk, h⟩ := oA_some h
  obtain ⟨σ5, hc, h⟩ := oB_some h
  refine zs_callV (As := [.int ((x1.toUInt32 >>> ((8 : Int32).toUInt32 &&& Int32.toUInt32 31)).toInt32)]) (rest := []) E zc1 zyX1_add zw_31_6 (kX1_add _ _ _ _ _ hc) rfl rfl hk rfl ⟨by decide, by decide⟩ ⟨by decide, by decide⟩ (Nat.le_of_ble_eq_true rfl) dX10_addPacked_46 rfl (show zJ Γ 6 0 0 σ5 49 [(2, .int x1), (0, .ref p0), (1, .ref p1)] [] from ?_)
  refine zj_aload_n E dX10_addPacked_49 rfl 1 rfl ?_
  refine zs_getR E zc9 0 (by decide) zw_5_14 rfl dX10_addPacked_50 h (fun a6 h => ?_)
  refine zj_iload_n E dX10_addPacked_53 rfl 0 rfl ?_
  refine zj_iconst (v := (-1 : Int32)) E dX10_addPacked_54 (by decide) ?_
  refine zj_ixor E dX10_addPacked_55 ?_
  obtain ⟨hk, h⟩ := oA_some h
  obtain ⟨σ6, hc, h⟩ := oB_some h
  refine zs_callV (As := [.int (x1 ^^^ (-1 : Int32))]) (rest := []) E zc1 zyX1_add zw_31_6 (kX1_add _ _ _ _ _ hc) rfl rfl hk rfl ⟨by decide, by decide⟩ ⟨by decide, by decide⟩ (Nat.le_of_ble_eq_true rfl) dX10_addPacked_56 rfl (show zJ Γ 6 0 0 σ6 59 [(2, .int x1), (0, .ref p0), (1, .ref p1)] [] from ?_)
  refine zj_aload_n E dX10_addPacked_59 rfl 1 rfl ?_
  refine zs_getR E zc9 0 (by decide) zw_5_14 rfl dX10_addPacked_60 h (fun a7 h => ?_)
  refine zj_iload_n E dX10_addPacked_63 rfl 0 rfl ?_
  refine zj_iconst (v := (-1 : Int32)) E dX10_addPacked_64 (by decide) ?_
  refine zj_ixor E dX10_addPacked_65 ?_
  refine zj_bipush (v := 8) E dX10_addPacked_66 (by decide) ?_
  refine zj_iushr E dX10_addPacked_68 ?_
  obtain ⟨hk, h⟩ := oA_some h
  obtain ⟨σ7, hc, h⟩ := oB_some h
  refine zs_callV (As := [.int (((x1 ^^^ (-1 : Int32)).toUInt32 >>> ((8 : Int32).toUInt32 &&& Int32.toUInt32 31)).toInt32)]) (rest := []) E zc1 zyX1_add zw_31_6 (kX1_add _ _ _ _ _ hc) rfl rfl hk rfl ⟨by decide, by decide⟩ ⟨by decide, by decide⟩ (Nat.le_of_ble_eq_true rfl) dX10_addPacked_69 rfl (show zJ Γ 6 0 0 σ7 72 [(2, .int x1), (0, .ref p0), (1, .ref p1)] [] from ?_)
  refine zj_aload_n E dX10_addPacked_72 rfl 1 rfl ?_
  refine zs_getR E zc9 0 (by decide) zw_5_14 rfl dX10_addPacked_73 h (fun a8 h => ?_)
  refine zs_getIN E zc1 1 (by decide) (znf_6) rfl dX10_addPacked_76 h (fun x2 h => ?_)
  refine zj_istore_n (lv2 := [(3, .int x2), (2, .int x1), (0, .ref p0), (1, .ref p1)]) E dX10_addPacked_79 rfl (by decide) rfl ?_
  refine zj_iconst (v := 0) E dX10_addPacked_80 (by decide) ?_
  refine zj_istore (lv2 := [(4, .int 0), (3, .int x2), (2, .int x1), (0, .ref p0), (1, .ref p1)]) E dX10_addPacked_81 (by decide) rfl ?_
  obtain ⟨b2, hb2, h⟩ := oB_some h
  refine zj_lv [3, 4, 1, 0] rfl ?_
  refine zj_loop (wX10_addPacked_L83 E p0 p1 x2) zF (0, σ7) b2 hb2 ?_
  obtain ⟨σ11, rfl⟩ : ∃ z, z = b2 := ⟨_, rfl⟩
  try dsimp only at h
  show zJ Γ 6 0 0 σ11 146 [(0, .ref p0), (3, .int x2)] []
  refine zj_aload_n E dX10_addPacked_146 rfl 0 rfl ?_
  refine zs_getR E zc9 0 (by decide) zw_5_14 rfl dX10_addPacked_147 h (fun a12 h => ?_)
  refine zj_aload_n E dX10_addPacked_150 rfl 0 rfl ?_
  refine zs_getR E zc9 0 (by decide) zw_5_14 rfl dX10_addPacked_151 h (fun a13 h => ?_)
  refine zj_iload_n E dX10_addPacked_154 rfl 1 rfl ?_
  refine zj_aload_n E dX10_addPacked_155 rfl 0 rfl ?_
  refine zs_getR E zc9 0 (by decide) zw_5_14 rfl dX10_addPacked_156 h (fun a14 h => ?_)
  refine zs_getIN E zc1 1 (by decide) (znf_6) rfl dX10_addPacked_159 h (fun x7 h => ?_)
  obtain ⟨x8, hc, h⟩ := oB_some h
  refine zs_callS (As := [.ref a13, .int x2, .int x7]) (rest := [.ref a12]) E zyX8_ofRaw zw_32_11 (kX8_ofRaw _ _ _ _ _ hc) rfl rfl rfl ⟨by decide, by decide⟩ ⟨by decide, by decide⟩ (Nat.le_of_ble_eq_true rfl) dX10_addPacked_162 rfl (show zJ Γ 6 0 0 σ11 165 [(0, .ref p0), (3, .int x2)] [.int x8, .ref a12] from ?_)
  obtain ⟨hk, h⟩ := oA_some h
  obtain ⟨σ12, hc, h⟩ := oB_some h
  refine zs_callV (As := [.int x8]) (rest := []) E zc1 zyX1_addNumber zw_30_18 (kX1_addNumber _ _ _ _ _ hc) rfl rfl hk rfl ⟨by decide, by decide⟩ ⟨by decide, by decide⟩ (Nat.le_of_ble_eq_true rfl) dX10_addPacked_165 rfl (show zJ Γ 6 0 0 σ12 168 [(0, .ref p0), (3, .int x2)] [] from ?_)
  have e9 := Option.some.inj h
  subst e9
  exact (show zRet Γ cX10_addPacked 6 0 0 (none) σ12 from K) _ _ dX10_addPacked_168
set_option maxRecDepth 100000 in
theorem kX10_addPacked (l : Launch) (D : va_G) (cs : zCs) (z0 : Nat) (σ : zS) {p0 : Nat} {p1 : Nat}  {σ' : zS} (h : fX10_addPacked σ p0 p1 = some σ') : zM l D cs z0 yX10_addPacked cX10_addPacked 6 none { frames := 2, cells := 0, slots := 0, locals := 46 } [.ref p0, .ref p1] σ none σ' 0 0 := by
  exact zM_of (by decide) rfl rfl (Nat.le_of_ble_eq_true rfl) rfl (fun Γ e1 e2 e3 e4 E _ K => wX10_addPacked E σ _ _ h K)
