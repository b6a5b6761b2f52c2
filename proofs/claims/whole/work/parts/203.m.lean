/-! X9_unpackCoded -/
def jX9_unpackCoded_2 (Γ : zG) (l0 : Nat) : (Int32 × zS) → Prop := fun x => zJ Γ 3 0 0 x.2 2 [(0, .ref l0), (1, .int x.1)] []
def eX9_unpackCoded_2 (Γ : zG) (l0 : Nat) : (zS ⊕ (Int32 × zS)) → Prop := Sum.elim (fun b => zJ Γ 3 0 0 b 87 [] []) (fun r => zRet Γ cX9_unpackCoded 3 0 0 (some (.int r.1)) r.2)
def fX9_unpackCoded_81 (σ : zS) (l0 : Nat) (l1 : Int32) : Option ((Int32 × zS) ⊕ (zS ⊕ (Int32 × zS))) := oL (l1 + 1) (fun v1 => some (.inl (v1, σ)))
set_option maxRecDepth 100000 in
theorem wX9_unpackCoded_81 {Γ : zG} (E : zE Γ cX9_unpackCoded RX9 3 { frames := 2, cells := 0, slots := 0, locals := 54 }) (σ : zS) (l0 : Nat) (l1 : Int32) {R : ((Int32 × zS) ⊕ (zS ⊕ (Int32 × zS)))} (h : fX9_unpackCoded_81 σ l0 l1 = some R) (K : Sum.elim (jX9_unpackCoded_2 Γ l0) (eX9_unpackCoded_2 Γ l0) R) : zJ Γ 3 0 0 σ 81 [(0, .ref l0), (1, .int l1)] [] := by
  unfold fX9_unpackCoded_81 at h
  refine zs_iinc (lv2 := fun v1 => [(1, .int v1), (0, .ref l0)]) E dX9_unpackCoded_81 1 rfl (by decide) (by decide) (fun _ => rfl) h (fun v1 h => ?_)
  refine zj_goto (tgt := 2) E dX9_unpackCoded_84 (by decide) ?_
  have e9 := Option.some.inj h
  subst e9
  refine zj_lv [1, 0] rfl ?_
  exact K
def bX9_unpackCoded_2 (l0 : Nat) (l1 : Int32) (σ : zS) : Option ((Int32 × zS) ⊕ (zS ⊕ (Int32 × zS))) := (if (1100 : Int32) < l1 then some (.inr (.inl σ)) else oGR σ 9 l0 2 (fun a1 => oGR σ 9 l0 4 (fun a2 => oA (zk σ a1 = 1) (oC (fX0_symbol σ a1 a2) (fun x1 σ1 => (if x1 = (256 : Int32) then some (.inr (.inr (1, σ1))) else (if x1 < 0 then some (.inr (.inr (0, σ1))) else oGR σ1 9 l0 1 (fun a3 => oA (zk σ1 a3 = 2) (oB (fX1_fits σ1 a3 1) (fun x2 => (if x2 = 0 then some (.inr (.inr (0, σ1))) else (if (256 : Int32) ≤ x1 then oA (zk σ1 l0 = 9) (oC (fX9_copyMatch σ1 l0 ((x1 - (256 : Int32)) - (1 : Int32))) (fun x3 σ2 => (if x3 = 0 then some (.inr (.inr (0, σ2))) else fX9_unpackCoded_81 σ2 l0 l1))) else oGR σ1 9 l0 1 (fun a4 => oA (zk σ1 a4 = 2) (oB (fX1_add σ1 a4 x1) (fun σ3 => fX9_unpackCoded_81 σ3 l0 l1)))))))))))))))
set_option maxRecDepth 100000 in
theorem wX9_unpackCoded_L2 {Γ : zG} (E : zE Γ cX9_unpackCoded RX9 3 { frames := 2, cells := 0, slots := 0, locals := 54 }) (l0 : Nat) : ∀ x R, (fun x => bX9_unpackCoded_2 l0 x.1 x.2) x = some R → Sum.elim (jX9_unpackCoded_2 Γ l0) (eX9_unpackCoded_2 Γ l0) R → jX9_unpackCoded_2 Γ l0 x := by
  intro x R h K
  obtain ⟨l1, σ⟩ := x
  have h : bX9_unpackCoded_2 l0 l1 σ = some R := h
  show zJ Γ 3 0 0 σ 2 [(0, .ref l0), (1, .int l1)] []
  unfold bX9_unpackCoded_2 at h
  refine zj_iload_n E dX9_unpackCoded_2 rfl 1 rfl ?_
  refine zj_sipush (v := 1100) E dX9_unpackCoded_3 (by decide) ?_
  refine zj_icmp_gt (tgt := 87) E dX9_unpackCoded_6 (by decide) h (fun h => ?_) (fun h => ?_)
  · have e9 := Option.some.inj h
    subst e9
    refine zj_lv [] rfl ?_
    exact K
  · refine zj_aload_n E dX9_unpackCoded_9 rfl 0 rfl ?_
    refine zs_getR E zc8 2 (by decide) zw_4_0 rfl dX9_unpackCoded_10 h (fun a1 h => ?_)
    refine zj_aload_n E dX9_unpackCoded_13 rfl 0 rfl ?_
    refine zs_getR E zc8 4 (by decide) zw_4_5 rfl dX9_unpackCoded_14 h (fun a2 h => ?_)
    obtain ⟨hk, h⟩ := oA_some h
    obtain ⟨x1, σ1, hc, h⟩ := oC_some h
    refine zs_callV (As := [.ref a2]) (rest := []) E zc0 zyX0_symbol zw_12_8 (kX0_symbol _ _ _ _ _ hc) rfl rfl hk rfl ⟨by decide, by decide⟩ ⟨by decide, by decide⟩ (Nat.le_of_ble_eq_true rfl) dX9_unpackCoded_17 rfl (show zJ Γ 3 0 0 σ1 20 [(0, .ref l0), (1, .int l1)] [.int x1] from ?_)
    refine zj_istore_n (lv2 := [(2, .int x1), (0, .ref l0), (1, .int l1)]) E dX9_unpackCoded_20 rfl (by decide) rfl ?_
    refine zj_iload_n E dX9_unpackCoded_21 rfl 0 rfl ?_
    refine zj_sipush (v := 256) E dX9_unpackCoded_22 (by decide) ?_
    refine zj_icmp_ne (tgt := 30) E dX9_unpackCoded_25 (by decide) h (fun h => ?_) (fun h => ?_)
    · refine zj_iload_n E dX9_unpackCoded_30 rfl 0 rfl ?_
      refine zj_if_lt (tgt := 45) E dX9_unpackCoded_31 (by decide) h (fun h => ?_) (fun h => ?_)
      · refine zj_iconst (v := 0) E dX9_unpackCoded_45 (by decide) ?_
        have e9 := Option.some.inj h
        subst e9
        exact (show zRet Γ cX9_unpackCoded 3 0 0 (some (.int 0)) σ1 from K) _ _ dX9_unpackCoded_46
      · refine zj_aload_n E dX9_unpackCoded_34 rfl 1 rfl ?_
        refine zs_getR E zc8 1 (by decide) zw_3_20 rfl dX9_unpackCoded_35 h (fun a3 h => ?_)
        refine zj_iconst (v := 1) E dX9_unpackCoded_38 (by decide) ?_
        obtain ⟨hk, h⟩ := oA_some h
        obtain ⟨x2, hc, h⟩ := oB_some h
        refine zs_callV (As := [.int 1]) (rest := []) E zc1 zyX1_fits zw_10_19 (kX1_fits _ _ _ _ _ hc) rfl rfl hk rfl ⟨by decide, by decide⟩ ⟨by decide, by decide⟩ (Nat.le_of_ble_eq_true rfl) dX9_unpackCoded_39 rfl (show zJ Γ 3 0 0 σ1 42 [(2, .int x1), (0, .ref l0), (1, .int l1)] [.int x2] from ?_)
        refine zj_if_ne (tgt := 47) E dX9_unpackCoded_42 (by decide) h (fun h => ?_) (fun h => ?_)
        · refine zj_iload_n E dX9_unpackCoded_47 rfl 0 rfl ?_
          refine zj_sipush (v := 256) E dX9_unpackCoded_48 (by decide) ?_
          refine zj_icmp_ge (tgt := 65) E dX9_unpackCoded_51 (by decide) h (fun h => ?_) (fun h => ?_)
          · refine zj_aload_n E dX9_unpackCoded_65 rfl 1 rfl ?_
            refine zj_iload_n E dX9_unpackCoded_66 rfl 0 rfl ?_
            refine zj_sipush (v := 256) E dX9_unpackCoded_67 (by decide) ?_
            refine zj_isub E dX9_unpackCoded_70 ?_
            refine zj_iconst (v := 1) E dX9_unpackCoded_71 (by decide) ?_
            refine zj_isub E dX9_unpackCoded_72 ?_
            obtain ⟨hk, h⟩ := oA_some h
            obtain ⟨x3, σ2, hc, h⟩ := oC_some h
            refine zs_callV (As := [.int ((x1 - (256 : Int32)) - (1 : Int32))]) (rest := []) E zc8 zyX9_copyMatch zw_13_1 (kX9_copyMatch _ _ _ _ _ hc) rfl rfl hk rfl ⟨by decide, by decide⟩ ⟨by decide, by decide⟩ (Nat.le_of_ble_eq_true rfl) dX9_unpackCoded_73 rfl (show zJ Γ 3 0 0 σ2 76 [(2, .int x1), (0, .ref l0), (1, .int l1)] [.int x3] from ?_)
            refine zj_if_ne (tgt := 81) E dX9_unpackCoded_76 (by decide) h (fun h => ?_) (fun h => ?_)
            · refine zj_lv [1, 2] rfl ?_
              exact wX9_unpackCoded_81 E _ _ _ h K
            · refine zj_iconst (v := 0) E dX9_unpackCoded_79 (by decide) ?_
              have e9 := Option.some.inj h
              subst e9
              exact (show zRet Γ cX9_unpackCoded 3 0 0 (some (.int 0)) σ2 from K) _ _ dX9_unpackCoded_80
          · refine zj_aload_n E dX9_unpackCoded_54 rfl 1 rfl ?_
            refine zs_getR E zc8 1 (by decide) zw_3_20 rfl dX9_unpackCoded_55 h (fun a4 h => ?_)
            refine zj_iload_n E dX9_unpackCoded_58 rfl 0 rfl ?_
            obtain ⟨hk, h⟩ := oA_some h
            obtain ⟨σ3, hc, h⟩ := oB_some h
            refine zs_callV (As := [.int x1]) (rest := []) E zc1 zyX1_add zw_13_0 (kX1_add _ _ _ _ _ hc) rfl rfl hk rfl ⟨by decide, by decide⟩ ⟨by decide, by decide⟩ (Nat.le_of_ble_eq_true rfl) dX9_unpackCoded_59 rfl (show zJ Γ 3 0 0 σ3 62 [(2, .int x1), (0, .ref l0), (1, .int l1)] [] from ?_)
            refine zj_goto (tgt := 81) E dX9_unpackCoded_62 (by decide) ?_
            refine zj_lv [1, 2] rfl ?_
            exact wX9_unpackCoded_81 E _ _ _ h K
        · refine zj_iconst (v := 0) E dX9_unpackCoded_45 (by decide) ?_
          have e9 := Option.some.inj h
          subst e9
          exact (show zRet Γ cX9_unpackCoded 3 0 0 (some (.int 0)) σ1 from K) _ _ dX9_unpackCoded_46
    · refine zj_iconst (v := 1) E dX9_unpackCoded_28 (by decide) ?_
      have e9 := Option.some.inj h
      subst e9
      exact (show zRet Γ cX9_unpackCoded 3 0 0 (some (.int 1)) σ1 from K) _ _ dX9_unpackCoded_29
def gX9_unpackCoded (σ : zS) (p0 : Nat) : Option (Int32 × zS) := oB (zloop zF (fun x => bX9_unpackCoded_2 p0 x.1 x.2) (0, σ)) (fun b1 => oS b1 (fun c1 => (fun σ4 => some (0, σ4)) c1) (fun r1 => some r1))
def fX9_unpackCoded (σ : zS) (p0 : Nat) : Option (Int32 × zS) := oC (gX9_unpackCoded σ p0) (fun r s => oA (r = 0 ∨ r = 1) (some (r, s)))
set_option maxRecDepth 100000 in
theorem wX9_unpackCoded {Γ : zG} (E : zE Γ cX9_unpackCoded RX9 3 { frames := 2, cells := 0, slots := 0, locals := 54 }) (σ : zS) (p0 : Nat) {R : (Int32 × zS)} (h : gX9_unpackCoded σ p0 = some R) (K : zRet Γ cX9_unpackCoded 3 0 0 (some (.int R.1)) R.2) : zJ Γ 3 0 0 σ 0 [(0, .ref p0)] [] := by
  unfold gX9_unpackCoded at h
  refine zj_iconst (v := 0) E dX9_unpackCoded_0 (by decide) ?_
  refine zj_istore_n (lv2 := [(1, .int 0), (0, .ref p0)]) E dX9_unpackCoded_1 rfl (by decide) rfl ?_
  obtain ⟨b1, hb1, h⟩ := oB_some h
  refine zj_lv [1, 0] rfl ?_
  refine zj_loop (wX9_unpackCoded_L2 E p0) zF (0, σ) b1 hb1 ?_
  cases b1 with
  | inr r1 =>
    have e9 := Option.some.inj h
    subst e9
    exact K
  | inl c1 =>
    obtain ⟨σ4, rfl⟩ : ∃ z, z = c1 := ⟨_, rfl⟩
    dsimp only [oS] at h
    show zJ Γ 3 0 0 σ4 87 [] []
    refine zj_iconst (v := 0) E dX9_unpackCoded_87 (by decide) ?_
    have e9 := Option.some.inj h
    subst e9
    exact (show zRet Γ cX9_unpackCoded 3 0 0 (some (.int 0)) σ4 from K) _ _ dX9_unpackCoded_88
set_option maxRecDepth 100000 in
theorem kX9_unpackCoded (l : Launch) (D : va_G) (cs : zCs) (z0 : Nat) (σ : zS) {p0 : Nat} {r : Int32} {σ' : zS} (h : fX9_unpackCoded σ p0 = some (r, σ')) : zM l D cs z0 yX9_unpackCoded cX9_unpackCoded 3 (some .boolean) { frames := 2, cells := 0, slots := 0, locals := 54 } [.ref p0] σ (some (.int r)) σ' 0 0 := by
  obtain ⟨r0, s0, h0, h⟩ := oC_some h
  obtain ⟨hz, h⟩ := oA_some h
  cases h
  exact zM_of (by decide) rfl (Or.inr ⟨rfl, hz⟩) (Nat.le_of_ble_eq_true rfl) rfl (fun Γ e1 e2 e3 e4 E hN K => wX9_unpackCoded E σ _ h0 K)
/-! X8_ofRaw -/
def jX8_ofRaw_8 (Γ : zG) (σ : zS) (l0 : Nat) (l2 : Int32) : (Int32 × Int32 × Int32) → Prop := fun x => zJ Γ 6 0 0 σ 8 [(0, .ref l0), (2, .int l2), (3, .int x.1), (4, .int x.2.1), (5, .int x.2.2)] []
def eX8_ofRaw_8 (Γ : zG) (σ : zS) (l0 : Nat) (l2 : Int32) : (Int32 × Int32) → Prop := fun b => zJ Γ 6 0 0 σ 41 [(3, .int b.1), (4, .int b.2)] []
def bX8_ofRaw_8 (σ : zS) (l0 : Nat) (l2 : Int32) (l3 : Int32) (l4 : Int32) (l5 : Int32) : Option ((Int32 × Int32 × Int32) ⊕ (Int32 × Int32)) := (if l2 ≤ l5 then some (.inr (l3, l4)) else oA (zk σ l0 = 2) (oB (fX1_at σ l0 l5) (fun x1 => oL ((l3 + x1) - (l3 + x1) / (65521 : Int32) * (65521 : Int32)) (fun v1 => oL ((l4 + v1) - (l4 + v1) / (65521 : Int32) * (65521 : Int32)) (fun v2 => oL (l5 + 1) (fun v3 => some (.inl (v1, v2, v3))))))))
set_option maxRecDepth 100000 in
theorem wX8_ofRaw_L8 {Γ : zG} (E : zE Γ cX8_ofRaw RX8 6 { frames := 1, cells := 0, slots := 0, locals := 21 }) (σ : zS) (l0 : Nat) (l2 : Int32) : ∀ x R, (fun x => bX8_ofRaw_8 σ l0 l2 x.1 x.2.1 x.2.2) x = some R → Sum.elim (jX8_ofRaw_8 Γ σ l0 l2) (eX8_ofRaw_8 Γ σ l0 l2) R → jX8_ofRaw_8 Γ σ l0 l2 x := by
  intro x R h K
  obtain ⟨l3, l4, l5⟩ := x
  have h : bX8_ofRaw_8 σ l0 l2 l3 l4 l5 = some R := h
  show zJ Γ 6 0 0 σ 8 [(0, .ref l0), (2, .int l2), (3, .int l3), (4, .int l4), (5, .int l5)] []
  unfold bX8_ofRaw_8 at h
  refine zj_iload E dX8_ofRaw_8 4 rfl ?_
  refine zj_iload_n E dX8_ofRaw_10 rfl 1 rfl ?_
  refine zj_icmp_ge (tgt := 41) E dX8_ofRaw_11 (by decide) h (fun h => ?_) (fun h => ?_)
  · have e9 := Option.some.inj h
    subst e9
    refine zj_lv [2, 3] rfl ?_
    exact K
  · refine zj_iload_n E dX8_ofRaw_14 rfl 2 rfl ?_
    refine zj_aload_n E dX8_ofRaw_15 rfl 0 rfl ?_
    refine zj_iload E dX8_ofRaw_16 4 rfl ?_
    obtain ⟨hk, h⟩ := oA_some h
    obtain ⟨x1, hc, h⟩ := oB_some h
    refine zs_callV (As := [.int l5]) (rest := [.int l3]) E zc1 zyX1_at zw_9_15 (kX1_at _ _ _ _ _ hc) rfl rfl hk rfl ⟨by decide, by decide⟩ ⟨by decide, by decide⟩ (Nat.le_of_ble_eq_true rfl) dX8_ofRaw_18 rfl (show zJ Γ 6 0 0 σ 21 [(0, .ref l0), (2, .int l2), (3, .int l3), (4, .int l4), (5, .int l5)] [.int x1, .int l3] from ?_)
    refine zj_iadd E dX8_ofRaw_21 ?_
    refine zj_ldc (v := 65521) E zw_13_17 dX8_ofRaw_22 ?_
    refine zj_irem E dX8_ofRaw_24 (by decide) ?_
    refine zs_istore_n (lv2 := fun v1 => [(3, .int v1), (0, .ref l0), (2, .int l2), (4, .int l4), (5, .int l5)]) E dX8_ofRaw_25 rfl (by decide) (fun _ => rfl) h (fun v1 h => ?_)
    refine zj_iload E dX8_ofRaw_26 3 rfl ?_
    refine zj_iload_n E dX8_ofRaw_28 rfl 0 rfl ?_
    refine zj_iadd E dX8_ofRaw_29 ?_
    refine zj_ldc (v := 65521) E zw_13_17 dX8_ofRaw_30 ?_
    refine zj_irem E dX8_ofRaw_32 (by decide) ?_
    refine zs_istore (lv2 := fun v2 => [(4, .int v2), (3, .int v1), (0, .ref l0), (2, .int l2), (5, .int l5)]) E dX8_ofRaw_33 (by decide) (fun _ => rfl) h (fun v2 h => ?_)
    refine zs_iinc (lv2 := fun v3 => [(5, .int v3), (4, .int v2), (3, .int v1), (0, .ref l0), (2, .int l2)]) E dX8_ofRaw_35 4 rfl (by decide) (by decide) (fun _ => rfl) h (fun v3 h => ?_)
    refine zj_goto (tgt := 8) E dX8_ofRaw_38 (by decide) ?_
    have e9 := Option.some.inj h
    subst e9
    refine zj_lv [3, 4, 2, 1, 0] rfl ?_
    exact K
def fX8_ofRaw (σ : zS) (p0 : Nat) (p1 : Int32) (p2 : Int32) : Option Int32 := oB (zloop zF (fun x => bX8_ofRaw_8 σ p0 p2 x.1 x.2.1 x.2.2) (1, 0, p1)) (fun b1 => (fun v4 v5 => some ((v5 <<< ((16 : Int32) &&& 31)) ||| v4)) b1.1 b1.2)
set_option maxRecDepth 100000 in
theorem wX8_ofRaw {Γ : zG} (E : zE Γ cX8_ofRaw RX8 6 { frames := 1, cells := 0, slots := 0, locals := 21 }) (σ : zS) (p0 : Nat) (p1 : Int32) (p2 : Int32) {R : Int32} (h : fX8_ofRaw σ p0 p1 p2 = some R) (K : zRet Γ cX8_ofRaw 6 0 0 (some (.int R)) σ) : zJ Γ 6 0 0 σ 0 [(0, .ref p0), (1, .int p1), (2, .int p2)] [] := by
  unfold fX8_ofRaw at h
  refine zj_iconst (v := 1) E dX8_ofRaw_0 (by decide) ?_
  refine zj_istore_n (lv2 := [(3, .int 1), (0, .ref p0), (1, .int p1), (2, .int p2)]) E dX8_ofRaw_1 rfl (by decide) rfl ?_
  refine zj_iconst (v := 0) E dX8_ofRaw_2 (by decide) ?_
  refine zj_istore (lv2 := [(4, .int 0), (3, .int 1), (0, .ref p0), (1, .int p1), (2, .int p2)]) E dX8_ofRaw_3 (by decide) rfl ?_
  refine zj_iload_n E dX8_ofRaw_5 rfl 3 rfl ?_
  refine zj_istore (lv2 := [(5, .int p1), (4, .int 0), (3, .int 1), (0, .ref p0), (1, .int p1), (2, .int p2)]) E dX8_ofRaw_6 (by decide) rfl ?_
  obtain ⟨b1, hb1, h⟩ := oB_some h
  refine zj_lv [3, 5, 2, 1, 0] rfl ?_
  refine zj_loop (wX8_ofRaw_L8 E σ p0 p2) zF (1, 0, p1) b1 hb1 ?_
  obtain ⟨v4, v5⟩ := b1
  try dsimp only at h
  show zJ Γ 6 0 0 σ 41 [(3, .int v4), (4, .int v5)] []
  refine zj_iload E dX8_ofRaw_41 1 rfl ?_
  refine zj_bipush (v := 16) E dX8_ofRaw_43 (by decide) ?_
  refine zj_ishl E dX8_ofRaw_45 ?_
  refine zj_iload_n E dX8_ofRaw_46 rfl 0 rfl ?_
  refine zj_ior E dX8_ofRaw_47 ?_
  have e9 := Option.some.inj h
  subst e9
  exact (show zRet Γ cX8_ofRaw 6 0 0 (some (.int ((v5 <<< ((16 : Int32) &&& 31)) ||| v4))) σ from K) _ _ dX8_ofRaw_48
set_option maxRecDepth 100000 in
theorem kX8_ofRaw (l : Launch) (D : va_G) (cs : zCs) (z0 : Nat) (σ : zS) {p0 : Nat} {p1 : Int32} {p2 : Int32} {r : Int32} (h : fX8_ofRaw σ p0 p1 p2 = some r) : zM l D cs z0 yX8_ofRaw cX8_ofRaw 6 (some .int) { frames := 1, cells := 0, slots := 0, locals := 21 } [.ref p0, .int p1, .int p2] σ (some (.int r)) σ 0 0 := by
  exact zM_of (by decide) rfl (Or.inl rfl) (Nat.le_of_ble_eq_true rfl) rfl (fun Γ e1 e2 e3 e4 E hN K => wX8_ofRaw E σ _ _ _ h K)
/-! X9_endsWithSum -/
def gX9_endsWithSum (σ : zS) (p0 : Nat) : Option (Int32 × zS) := oGR σ 9 p0 2 (fun a1 => oA (zk σ a1 = 1) (oB (fX0_skipToByte σ a1) (fun σ1 => oGR σ1 9 p0 2 (fun a2 => oGI σ1 1 a2 1 (fun x1 => oL (x1 / (8 : Int32)) (fun v1 => oGR σ1 9 p0 0 (fun a3 => oGI σ1 2 a3 1 (fun x2 => (if (x2 - v1) = (4 : Int32) then oGR σ1 9 p0 0 (fun a4 => oA (zk σ1 a4 = 2) (oB (fX1_number σ1 a4 v1) (fun x3 => oGR σ1 9 p0 1 (fun a5 => oGR σ1 9 p0 1 (fun a6 => oGI σ1 2 a6 1 (fun x4 => oB (fX8_ofRaw σ1 a5 0 x4) (fun x5 => (if x3 = x5 then some (1, σ1) else some (0, σ1))))))))) else some (0, σ1))))))))))
def fX9_endsWithSum (σ : zS) (p0 : Nat) : Option (Int32 × zS) := oC (gX9_endsWithSum σ p0) (fun r s => oA (r = 0 ∨ r = 1) (some (r, s)))
set_option maxRecDepth 100000 in
theorem wX9_endsWithSum {Γ : zG} (E : zE Γ cX9_endsWithSum RX9 2 { frames := 2, cells := 0, slots := 0, locals := 46 }) (σ : zS) (p0 : Nat) {R : (Int32 × zS)} (h : gX9_endsWithSum σ p0 = some R) (K : zRet Γ cX9_endsWithSum 2 0 0 (some (.int R.1)) R.2) : zJ Γ 2 0 0 σ 0 [(0, .ref p0)] [] := by
  unfold gX9_endsWithSum at h
  refine zj_aload_n E dX9_endsWithSum_0 rfl 0 rfl ?_
  refine zs_getR E zc8 2 (by decide) zw_4_0 rfl dX9_endsWithSum_1 h (fun a1 h => ?_)
  obtain ⟨hk, h⟩ := oA_some h
  obtain ⟨σ1, hc, h⟩ := oB_some h
  refine zs_callV (As := []) (rest := []) E zc0 zyX0_skipToByte zw_10_15 (kX0_skipToByte _ _ _ _ _ hc) rfl rfl hk rfl ⟨by decide, by decide⟩ ⟨by decide, by decide⟩ (Nat.le_of_ble_eq_true rfl) dX9_endsWithSum_4 rfl (show zJ Γ 2 0 0 σ1 7 [(0, .ref p0)] [] from ?_)
  refine zj_aload_n E dX9_endsWithSum_7 rfl 0 rfl ?_
  refine zs_getR E zc8 2 (by decide) zw_4_0 rfl dX9_endsWithSum_8 h (fun a2 h => ?_)
  refine zs_getIN E zc0 1 (by decide) (znf_8) rfl dX9_endsWithSum_11 h (fun x1 h => ?_)
  refine zj_bipush (v := 8) E dX9_endsWithSum_14 (by decide) ?_
  refine zj_idiv E dX9_endsWithSum_16 (by decide) ?_
  refine zs_istore_n (lv2 := fun v1 => [(1, .int v1), (0, .ref p0)]) E dX9_endsWithSum_17 rfl (by decide) (fun _ => rfl) h (fun v1 h => ?_)
  refine zj_aload_n E dX9_endsWithSum_18 rfl 1 rfl ?_
  refine zs_getR E zc8 0 (by decide) zw_3_19 rfl dX9_endsWithSum_19 h (fun a3 h => ?_)
  refine zs_getIN E zc1 1 (by decide) (znf_4) rfl dX9_endsWithSum_22 h (fun x2 h => ?_)
  refine zj_iload_n E dX9_endsWithSum_25 rfl 0 rfl ?_
  refine zj_isub E dX9_endsWithSum_26 ?_
  refine zj_iconst (v := 4) E dX9_endsWithSum_27 (by decide) ?_
  refine zj_icmp_ne (tgt := 61) E dX9_endsWithSum_28 (by decide) h (fun h => ?_) (fun h => ?_)
  · refine zj_iconst (v := 0) E dX9_endsWithSum_61 (by decide) ?_
    have e9 := Option.some.inj h
    subst e9
    exact (show zRet Γ cX9_endsWithSum 2 0 0 (some (.int 0)) σ1 from K) _ _ dX9_endsWithSum_62
  · refine zj_aload_n E dX9_endsWithSum_31 rfl 1 rfl ?_
    refine zs_getR E zc8 0 (by decide) zw_3_19 rfl dX9_endsWithSum_32 h (fun a4 h => ?_)
    refine zj_iload_n E dX9_endsWithSum_35 rfl 0 rfl ?_
    obtain ⟨hk, h⟩ := oA_some h
    obtain ⟨x3, hc, h⟩ := oB_some h
    refine zs_callV (As := [.int v1]) (rest := []) E zc1 zyX1_number zw_13_13 (kX1_number _ _ _ _ _ hc) rfl rfl hk rfl ⟨by decide, by decide⟩ ⟨by decide, by decide⟩ (Nat.le_of_ble_eq_true rfl) dX9_endsWithSum_36 rfl (show zJ Γ 2 0 0 σ1 39 [(1, .int v1), (0, .ref p0)] [.int x3] from ?_)
    refine zj_aload_n E dX9_endsWithSum_39 rfl 1 rfl ?_
    refine zs_getR E zc8 1 (by decide) zw_3_20 rfl dX9_endsWithSum_40 h (fun a5 h => ?_)
    refine zj_iconst (v := 0) E dX9_endsWithSum_43 (by decide) ?_
    refine zj_aload_n E dX9_endsWithSum_44 rfl 1 rfl ?_
    refine zs_getR E zc8 1 (by decide) zw_3_20 rfl dX9_endsWithSum_45 h (fun a6 h => ?_)
    refine zs_getIN E zc1 1 (by decide) (znf_4) rfl dX9_endsWithSum_48 h (fun x4 h => ?_)
    obtain ⟨x5, hc, h⟩ := oB_some h
    refine zs_callS (As := [.ref a5, .int 0, .int x4]) (rest := [.int x3]) E zyX8_ofRaw zw_13_14 (kX8_ofRaw _ _ _ _ _ hc) rfl rfl rfl ⟨by decide, by decide⟩ ⟨by decide, by decide⟩ (Nat.le_of_ble_eq_true rfl) dX9_endsWithSum_51 rfl (show zJ Γ 2 0 0 σ1 54 [(1, .int v1), (0, .ref p0)] [.int x5, .int x3] from ?_)
    refine zj_icmp_ne (tgt := 61) E dX9_endsWithSum_54 (by decide) h (fun h => ?_) (fun h => ?_)
    · refine zj_iconst (v := 0) E dX9_endsWithSum_61 (by decide) ?_
      have e9 := Option.some.inj h
      subst e9
      exact (show zRet Γ cX9_endsWithSum 2 0 0 (some (.int 0)) σ1 from K) _ _ dX9_endsWithSum_62
    · refine zj_iconst (v := 1) E dX9_endsWithSum_57 (by decide) ?_
      refine zj_goto (tgt := 62) E dX9_endsWithSum_58 (by decide) ?_
      have e9 := Option.some.inj h
      subst e9
      exact (show zRet Γ cX9_endsWithSum 2 0 0 (some (.int 1)) σ1 from K) _ _ dX9_endsWithSum_62
set_option maxRecDepth 100000 in
theorem kX9_endsWithSum (l : Launch) (D : va_G) (cs : zCs) (z0 : Nat) (σ : zS) {p0 : Nat} {r : Int32} {σ' : zS} (h : fX9_endsWithSum σ p0 = some (r, σ')) : zM l D cs z0 yX9_endsWithSum cX9_endsWithSum 2 (some .boolean) { frames := 2, cells := 0, slots := 0, locals := 46 } [.ref p0] σ (some (.int r)) σ' 0 0 := by
  obtain ⟨r0, s0, h0, h⟩ := oC_some h
  obtain ⟨hz, h⟩ := oA_some h
  cases h
  exact zM_of (by decide) rfl (Or.inr ⟨rfl, hz⟩) (Nat.le_of_ble_eq_true rfl) rfl (fun Γ e1 e2 e3 e4 E hN K => wX9_endsWithSum E σ _ h0 K)
/-! X9_unpack -/
def jX9_unpack_40 (Γ : zG) (l0 : Nat) (l2 : Int32) : (Int32 × Int32 × zS) → Prop := fun x => zJ Γ 6 0 0 x.2.2 40 [(0, .ref l0), (2, .int l2), (1, .int x.1), (3, .int x.2.1)] []
def eX9_unpack_40 (Γ : zG) (l0 : Nat) (l2 : Int32) : ((Int32 × zS) ⊕ (Int32 × zS)) → Prop := Sum.elim (fun b => zJ Γ 6 0 0 b.2 125 [(0, .ref l0), (1, .int b.1)] []) (fun r => zRet Γ cX9_unpack 6 0 0 (some (.int r.1)) r.2)
def fX9_unpack_119 (σ : zS) (l0 : Nat) (l1 : Int32) (l2 : Int32) (l3 : Int32) : Option ((Int32 × Int32 × zS) ⊕ ((Int32 × zS) ⊕ (Int32 × zS))) := oL (l3 + 1) (fun v3 => some (.inl (l1, v3, σ)))
set_option maxRecDepth 100000 in
theorem wX9_unpack_119 {Γ : zG} (E : zE Γ cX9_unpack RX9 6 { frames := 4, cells := 0, slots := 0, locals := 94 }) (σ : zS) (l0 : Nat) (l1 : Int32) (l2 : Int32) (l3 : Int32) {R : ((Int32 × Int32 × zS) ⊕ ((Int32 × zS) ⊕ (Int32 × zS)))} (h : fX9_unpack_119 σ l0 l1 l2 l3 = some R) (K : Sum.elim (jX9_unpack_40 Γ l0 l2) (eX9_unpack_40 Γ l0 l2) R) : zJ Γ 6 0 0 σ 119 [(0, .ref l0), (1, .int l1), (2, .int l2), (3, .int l3)] [] := by
  unfold fX9_unpack_119 at h
  refine zs_iinc (lv2 := fun v3 => [(3, .int v3), (0, .ref l0), (1, .int l1), (2, .int l2)]) E dX9_unpack_119 3 rfl (by decide) (by decide) (fun _ => rfl) h (fun v3 h => ?_)
  refine zj_goto (tgt := 40) E dX9_unpack_122 (by decide) ?_
  have e9 := Option.some.inj h
  subst e9
  refine zj_lv [1, 3, 2, 0] rfl ?_
  exact K
def fX9_unpack_79 (σ : zS) (l0 : Nat) (l2 : Int32) (l3 : Int32) (l4 : Int32) (s0 : Int32) : Option ((Int32 × Int32 × zS) ⊕ ((Int32 × zS) ⊕ (Int32 × zS))) := oL (l4 >>> ((1 : Int32) &&& 31)) (fun v2 => (if v2 = 0 then oA (zk σ l0 = 9) (oC (fX9_copyPlain σ l0) (fun x6 σ6 => (if x6 = 0 then some (.inr (.inr (0, σ6))) else fX9_unpack_119 σ6 l0 s0 l2 l3))) else oA (zk σ l0 = 9) (oC (fX9_hasCodes σ l0 v2) (fun x4 σ4 => (if x4 = 0 then some (.inr (.inr (0, σ4))) else oA (zk σ4 l0 = 9) (oC (fX9_unpackCoded σ4 l0) (fun x5 σ5 => (if x5 = 0 then some (.inr (.inr (0, σ5))) else fX9_unpack_119 σ5 l0 s0 l2 l3))))))))
set_option maxRecDepth 100000 in
theorem wX9_unpack_79 {Γ : zG} (E : zE Γ cX9_unpack RX9 6 { frames := 4, cells := 0, slots := 0, locals := 94 }) (σ : zS) (l0 : Nat) (l2 : Int32) (l3 : Int32) (l4 : Int32) (s0 : Int32) {R : ((Int32 × Int32 × zS) ⊕ ((Int32 × zS) ⊕ (Int32 × zS)))} (h : fX9_unpack_79 σ l0 l2 l3 l4 s0 = some R) (K : Sum.elim (jX9_unpack_40 Γ l0 l2) (eX9_unpack_40 Γ l0 l2) R) : zJ Γ 6 0 0 σ 79 [(0, .ref l0), (2, .int l2), (3, .int l3), (4, .int l4)] [.int s0] := by
  unfold fX9_unpack_79 at h
  refine zj_istore_n (lv2 := [(1, .int s0), (0, .ref l0), (2, .int l2), (3, .int l3), (4, .int l4)]) E dX9_unpack_79 rfl (by decide) rfl ?_
  refine zj_iload E dX9_unpack_80 4 rfl ?_
  refine zj_iconst (v := 1) E dX9_unpack_82 (by decide) ?_
  refine zj_ishr E dX9_unpack_83 ?_
  refine zs_istore (lv2 := fun v2 => [(5, .int v2), (1, .int s0), (0, .ref l0), (2, .int l2), (3, .int l3), (4, .int l4)]) E dX9_unpack_84 (by decide) (fun _ => rfl) h (fun v2 h => ?_)
  refine zj_iload E dX9_unpack_86 0 rfl ?_
  refine zj_if_ne (tgt := 101) E dX9_unpack_88 (by decide) h (fun h => ?_) (fun h => ?_)
  · refine zj_aload_n E dX9_unpack_101 rfl 2 rfl ?_
    refine zj_iload E dX9_unpack_102 0 rfl ?_
    obtain ⟨hk, h⟩ := oA_some h
    obtain ⟨x4, σ4, hc, h⟩ := oC_some h
    refine zs_callV (As := [.int v2]) (rest := []) E zc8 zyX9_hasCodes zw_11_1 (kX9_hasCodes _ _ _ _ _ hc) rfl rfl hk rfl ⟨by decide, by decide⟩ ⟨by decide, by decide⟩ (Nat.le_of_ble_eq_true rfl) dX9_unpack_104 rfl (show zJ Γ 6 0 0 σ4 107 [(5, .int v2), (1, .int s0), (0, .ref l0), (2, .int l2), (3, .int l3), (4, .int l4)] [.int x4] from ?_)
    refine zj_if_eq (tgt := 117) E dX9_unpack_107 (by decide) h (fun h => ?_) (fun h => ?_)
    · refine zj_iconst (v := 0) E dX9_unpack_117 (by decide) ?_
      have e9 := Option.some.inj h
      subst e9
      exact (show zRet Γ cX9_unpack 6 0 0 (some (.int 0)) σ4 from K) _ _ dX9_unpack_118
    · refine zj_aload_n E dX9_unpack_110 rfl 2 rfl ?_
      obtain ⟨hk, h⟩ := oA_some h
      obtain ⟨x5, σ5, hc, h⟩ := oC_some h
      refine zs_callV (As := []) (rest := []) E zc8 zyX9_unpackCoded zw_12_20 (kX9_unpackCoded _ _ _ _ _ hc) rfl rfl hk rfl ⟨by decide, by decide⟩ ⟨by decide, by decide⟩ (Nat.le_of_ble_eq_true rfl) dX9_unpack_111 rfl (show zJ Γ 6 0 0 σ5 114 [(5, .int v2), (1, .int s0), (0, .ref l0), (2, .int l2), (3, .int l3), (4, .int l4)] [.int x5] from ?_)
      refine zj_if_ne (tgt := 119) E dX9_unpack_114 (by decide) h (fun h => ?_) (fun h => ?_)
      · refine zj_lv [2, 1, 3, 4] rfl ?_
        exact wX9_unpack_119 E _ _ _ _ _ h K
      · refine zj_iconst (v := 0) E dX9_unpack_117 (by decide) ?_
        have e9 := Option.some.inj h
        subst e9
        exact (show zRet Γ cX9_unpack 6 0 0 (some (.int 0)) σ5 from K) _ _ dX9_unpack_118
  · refine zj_aload_n E dX9_unpack_91 rfl 2 rfl ?_
    obtain ⟨hk, h⟩ := oA_some h
    obtain ⟨x6, σ6, hc, h⟩ := oC_some h
    refine zs_callV (As := []) (rest := []) E zc8 zyX9_copyPlain zw_10_10 (kX9_copyPlain _ _ _ _ _ hc) rfl rfl hk rfl ⟨by decide, by decide⟩ ⟨by decide, by decide⟩ (Nat.le_of_ble_eq_true rfl) dX9_unpack_92 rfl (show zJ Γ 6 0 0 σ6 95 [(5, .int v2), (1, .int s0), (0, .ref l0), (2, .int l2), (3, .int l3), (4, .int l4)] [.int x6] from ?_)
    refine zj_if_eq (tgt := 117) E dX9_unpack_95 (by decide) h (fun h => ?_) (fun h => ?_)
    · refine zj_iconst (v := 0) E dX9_unpack_117 (by decide) ?_
      have e9 := Option.some.inj h
      subst e9
      exact (show zRet Γ cX9_unpack 6 0 0 (some (.int 0)) σ6 from K) _ _ dX9_unpack_118
    · refine zj_goto (tgt := 119) E dX9_unpack_98 (by decide) ?_
      refine zj_lv [2, 1, 3, 4] rfl ?_
      exact wX9_unpack_119 E _ _ _ _ _ h K
def bX9_unpack_40 (l0 : Nat) (l2 : Int32) (l1 : Int32) (l3 : Int32) (σ : zS) : Option ((Int32 × Int32 × zS) ⊕ ((Int32 × zS) ⊕ (Int32 × zS))) := (if l2 ≤ l3 then some (.inr (.inl (l1, σ))) else (if l1 = 0 then oGR σ 9 l0 2 (fun a4 => oA (zk σ a4 = 1) (oC (fX0_take σ a4 3) (fun x3 σ3 => (if 0 ≤ x3 then (if (x3 &&& (1 : Int32)) = (1 : Int32) then fX9_unpack_79 σ3 l0 l2 l3 x3 1 else fX9_unpack_79 σ3 l0 l2 l3 x3 0) else some (.inr (.inr (0, σ3))))))) else some (.inr (.inl (l1, σ)))))
set_option maxRecDepth 100000 in
theorem wX9_unpack_L40 {Γ : zG} (E : zE Γ cX9_unpack RX9 6 { frames := 4, cells := 0, slots := 0, locals := 94 }) (l0 : Nat) (l2 : Int32) : ∀ x R, (fun x => bX9_unpack_40 l0 l2 x.1 x.2.1 x.2.2) x = some R → Sum.elim (jX9_unpack_40 Γ l0 l2) (eX9_unpack_40 Γ l0 l2) R → jX9_unpack_40 Γ l0 l2 x := by
  intro x R h K
  obtain ⟨l1, l3, σ⟩ := x
  have h : bX9_unpack_40 l0 l2 l1 l3 σ = some R := h
  show zJ Γ 6 0 0 σ 40 [(0, .ref l0), (2, .int l2), (1, .int l1), (3, .int l3)] []
  unfold bX9_unpack_40 at h
  refine zj_iload_n E dX9_unpack_40 rfl 3 rfl ?_
  refine zj_iload_n E dX9_unpack_41 rfl 1 rfl ?_
  refine zj_icmp_ge (tgt := 125) E dX9_unpack_42 (by decide) h (fun h => ?_) (fun h => ?_)
  · have e9 := Option.some.inj h
    subst e9
    refine zj_lv [0, 2] rfl ?_
    exact K
  · refine zj_iload_n E dX9_unpack_45 rfl 2 rfl ?_
    refine zj_if_ne (tgt := 125) E dX9_unpack_46 (by decide) h (fun h => ?_) (fun h => ?_)
    · have e9 := Option.some.inj h
      subst e9
      refine zj_lv [0, 2] rfl ?_
      exact K
    · refine zj_aload_n E dX9_unpack_49 rfl 0 rfl ?_
      refine zs_getR E zc8 2 (by decide) zw_4_0 rfl dX9_unpack_50 h (fun a4 h => ?_)
      refine zj_iconst (v := 3) E dX9_unpack_53 (by decide) ?_
      obtain ⟨hk, h⟩ := oA_some h
      obtain ⟨x3, σ3, hc, h⟩ := oC_some h
      refine zs_callV (As := [.int 3]) (rest := []) E zc0 zyX0_take zw_10_5 (kX0_take _ _ _ _ _ hc) rfl rfl hk rfl ⟨by decide, by decide⟩ ⟨by decide, by decide⟩ (Nat.le_of_ble_eq_true rfl) dX9_unpack_54 rfl (show zJ Γ 6 0 0 σ3 57 [(0, .ref l0), (2, .int l2), (1, .int l1), (3, .int l3)] [.int x3] from ?_)
      refine zj_istore (lv2 := [(4, .int x3), (0, .ref l0), (2, .int l2), (1, .int l1), (3, .int l3)]) E dX9_unpack_57 (by decide) rfl ?_
      refine zj_iload E dX9_unpack_59 0 rfl ?_
      refine zj_if_ge (tgt := 66) E dX9_unpack_61 (by decide) h (fun h => ?_) (fun h => ?_)
      · refine zj_iload E dX9_unpack_66 0 rfl ?_
        refine zj_iconst (v := 1) E dX9_unpack_68 (by decide) ?_
        refine zj_iand E dX9_unpack_69 ?_
        refine zj_iconst (v := 1) E dX9_unpack_70 (by decide) ?_
        refine zj_icmp_ne (tgt := 78) E dX9_unpack_71 (by decide) h (fun h => ?_) (fun h => ?_)
        · refine zj_iconst (v := 0) E dX9_unpack_78 (by decide) ?_
          refine zj_lv [1, 2, 4, 0] rfl ?_
          exact wX9_unpack_79 E _ _ _ _ _ _ h K
        · refine zj_iconst (v := 1) E dX9_unpack_74 (by decide) ?_
          refine zj_goto (tgt := 79) E dX9_unpack_75 (by decide) ?_
          refine zj_lv [1, 2, 4, 0] rfl ?_
          exact wX9_unpack_79 E _ _ _ _ _ _ h K
      · refine zj_iconst (v := 0) E dX9_unpack_64 (by decide) ?_
        have e9 := Option.some.inj h
        subst e9
        exact (show zRet Γ cX9_unpack 6 0 0 (some (.int 0)) σ3 from K) _ _ dX9_unpack_65
def gX9_unpack (σ : zS) (p0 : Nat) : Option (Int32 × zS) := oGR σ 9 p0 1 (fun a1 => oA (zk σ a1 = 2) (oB (fX1_clear σ a1) (fun σ1 => oA (zk σ1 p0 = 9) (oB (fX9_startsAsPacked σ1 p0) (fun x1 => (if x1 = 0 then some (0, σ1) else oGR σ1 9 p0 2 (fun a2 => oPI σ1 1 a2 1 16 (fun σ2 => oGR σ2 9 p0 0 (fun a3 => oGI σ2 2 a3 1 (fun x2 => oL (x2 * (8 : Int32)) (fun v1 => oB (zloop zF (fun x => bX9_unpack_40 p0 v1 x.1 x.2.1 x.2.2) (0, 0, σ2)) (fun b1 => oS b1 (fun c1 => (fun v4 σ7 => (if v4 = 0 then some (0, σ7) else oA (zk σ7 p0 = 9) (oC (fX9_endsWithSum σ7 p0) (fun x7 σ8 => (if x7 = 0 then some (0, σ8) else some (1, σ8)))))) c1.1 c1.2) (fun r1 => some r1)))))))))))))
def fX9_unpack (σ : zS) (p0 : Nat) : Option (Int32 × zS) := oC (gX9_unpack σ p0) (fun r s => oA (r = 0 ∨ r = 1) (some (r, s)))
set_option maxRecDepth 100000 in
theorem wX9_unpack {Γ : zG} (E : zE Γ cX9_unpack RX9 6 { frames := 4, cells := 0, slots := 0, locals := 94 }) (σ : zS) (p0 : Nat) {R : (Int32 × zS)} (h : gX9_unpack σ p0 = some R) (K : zRet Γ cX9_unpack 6 0 0 (some (.int R.1)) R.2) : zJ Γ 6 0 0 σ 0 [(0, .ref p0)] [] := by
  unfold gX9_unpack at h
  refine zj_aload_n E dX9_unpack_0 rfl 0 rfl ?_
  refine zs_getR E zc8 1 (by decide) zw_3_20 rfl dX9_unpack_1 h (fun a1 h => ?_)
  obtain ⟨hk, h⟩ := oA_some h
  obtain ⟨σ1, hc, h⟩ := oB_some h
  refine zs_callV (As := []) (rest := []) E zc1 zyX1_clear zw_9_20 (kX1_clear _ _ _ _ _ hc) rfl rfl hk rfl ⟨by decide, by decide⟩ ⟨by decide, by decide⟩ (Nat.le_of_ble_eq_true rfl) dX9_unpack_4 rfl (show zJ Γ 6 0 0 σ1 7 [(0, .ref p0)] [] from ?_)
  refine zj_aload_n E dX9_unpack_7 rfl 0 rfl ?_
  obtain ⟨hk, h⟩ := oA_some h
  obtain ⟨x1, hc, h⟩ := oB_some h
  refine zs_callV (As := []) (rest := []) E zc8 zyX9_startsAsPacked zw_10_0 (kX9_startsAsPacked _ _ _ _ _ hc) rfl rfl hk rfl ⟨by decide, by decide⟩ ⟨by decide, by decide⟩ (Nat.le_of_ble_eq_true rfl) dX9_unpack_8 rfl (show zJ Γ 6 0 0 σ1 11 [(0, .ref p0)] [.int x1] from ?_)
  refine zj_if_ne (tgt := 16) E dX9_unpack_11 (by decide) h (fun h => ?_) (fun h => ?_)
  · refine zj_aload_n E dX9_unpack_16 rfl 0 rfl ?_
    refine zs_getR E zc8 2 (by decide) zw_4_0 rfl dX9_unpack_17 h (fun a2 h => ?_)
    refine zj_bipush (v := 16) E dX9_unpack_20 (by decide) ?_
    refine zs_putIN E zc0 1 (by decide) (znf_8) rfl rfl dX9_unpack_22 h (fun σ2 h => ?_)
    refine zj_iconst (v := 0) E dX9_unpack_25 (by decide) ?_
    refine zj_istore_n (lv2 := [(1, .int 0), (0, .ref p0)]) E dX9_unpack_26 rfl (by decide) rfl ?_
    refine zj_aload_n E dX9_unpack_27 rfl 1 rfl ?_
    refine zs_getR E zc8 0 (by decide) zw_3_19 rfl dX9_unpack_28 h (fun a3 h => ?_)
    refine zs_getIN E zc1 1 (by decide) (znf_4) rfl dX9_unpack_31 h (fun x2 h => ?_)
    refine zj_bipush (v := 8) E dX9_unpack_34 (by decide) ?_
    refine zj_imul E dX9_unpack_36 ?_
    refine zs_istore_n (lv2 := fun v1 => [(2, .int v1), (1, .int 0), (0, .ref p0)]) E dX9_unpack_37 rfl (by decide) (fun _ => rfl) h (fun v1 h => ?_)
    refine zj_iconst (v := 0) E dX9_unpack_38 (by decide) ?_
    refine zj_istore_n (lv2 := [(3, .int 0), (2, .int v1), (1, .int 0), (0, .ref p0)]) E dX9_unpack_39 rfl (by decide) rfl ?_
    obtain ⟨b1, hb1, h⟩ := oB_some h
    refine zj_lv [3, 1, 2, 0] rfl ?_
    refine zj_loop (wX9_unpack_L40 E p0 v1) zF (0, 0, σ2) b1 hb1 ?_
    cases b1 with
    | inr r1 =>
      have e9 := Option.some.inj h
      subst e9
      exact K
    | inl c1 =>
      obtain ⟨v4, σ7⟩ := c1
      dsimp only [oS] at h
      show zJ Γ 6 0 0 σ7 125 [(0, .ref p0), (1, .int v4)] []
      refine zj_iload_n E dX9_unpack_125 rfl 1 rfl ?_
      refine zj_if_eq (tgt := 140) E dX9_unpack_126 (by decide) h (fun h => ?_) (fun h => ?_)
      · refine zj_iconst (v := 0) E dX9_unpack_140 (by decide) ?_
        have e9 := Option.some.inj h
        subst e9
        exact (show zRet Γ cX9_unpack 6 0 0 (some (.int 0)) σ7 from K) _ _ dX9_unpack_141
      · refine zj_aload_n E dX9_unpack_129 rfl 0 rfl ?_
        obtain ⟨hk, h⟩ := oA_some h
        obtain ⟨x7, σ8, hc, h⟩ := oC_some h
        refine zs_callV (As := []) (rest := []) E zc8 zyX9_endsWithSum zw_13_9 (kX9_endsWithSum _ _ _ _ _ hc) rfl rfl hk rfl ⟨by decide, by decide⟩ ⟨by decide, by decide⟩ (Nat.le_of_ble_eq_true rfl) dX9_unpack_130 rfl (show zJ Γ 6 0 0 σ8 133 [(0, .ref p0), (1, .int v4)] [.int x7] from ?_)
        refine zj_if_eq (tgt := 140) E dX9_unpack_133 (by decide) h (fun h => ?_) (fun h => ?_)
        · refine zj_iconst (v := 0) E dX9_unpack_140 (by decide) ?_
          have e9 := Option.some.inj h
          subst e9
          exact (show zRet Γ cX9_unpack 6 0 0 (some (.int 0)) σ8 from K) _ _ dX9_unpack_141
        · refine zj_iconst (v := 1) E dX9_unpack_136 (by decide) ?_
          refine zj_goto (tgt := 141) E dX9_unpack_137 (by decide) ?_
          have e9 := Option.some.inj h
          subst e9
          exact (show zRet Γ cX9_unpack 6 0 0 (some (.int 1)) σ8 from K) _ _ dX9_unpack_141
  · refine zj_iconst (v := 0) E dX9_unpack_14 (by decide) ?_
    have e9 := Option.some.inj h
    subst e9
    exact (show zRet Γ cX9_unpack 6 0 0 (some (.int 0)) σ1 from K) _ _ dX9_unpack_15
set_option maxRecDepth 100000 in
theorem kX9_unpack (l : Launch) (D : va_G) (cs : zCs) (z0 : Nat) (σ : zS) {p0 : Nat} {r : Int32} {σ' : zS} (h : fX9_unpack σ p0 = some (r, σ')) : zM l D cs z0 yX9_unpack cX9_unpack 6 (some .boolean) { frames := 4, cells := 0, slots := 0, locals := 94 } [.ref p0] σ (some (.int r)) σ' 0 0 := by
  obtain ⟨r0, s0, h0, h⟩ := oC_some h
  obtain ⟨hz, h⟩ := oA_some h
  cases h
  exact zM_of (by decide) rfl (Or.inr ⟨rfl, hz⟩) (Nat.le_of_ble_eq_true rfl) rfl (fun Γ e1 e2 e3 e4 E hN K => wX9_unpack E σ _ h0 K)
/-! X6_nearest -/
def fX6_nearest_41 (σ : zS) (l1 : Int32) (l2 : Int32) (l4 : Int32) (l5 : Int32) : Option Int32 := (if l5 < l4 then some l2 else some l1)
set_option maxRecDepth 100000 in
theorem wX6_nearest_41 {Γ : zG} (E : zE Γ cX6_nearest RX6 6 { frames := 1, cells := 0, slots := 0, locals := 24 }) (σ : zS) (l1 : Int32) (l2 : Int32) (l4 : Int32) (l5 : Int32) {R : Int32} (h : fX6_nearest_41 σ l1 l2 l4 l5 = some R) (K : zRet Γ cX6_nearest 6 0 0 (some (.int R)) σ) : zJ Γ 6 0 0 σ 41 [(1, .int l1), (2, .int l2), (4, .int l4), (5, .int l5)] [] := by
  unfold fX6_nearest_41 at h
  refine zj_iload E dX6_nearest_41 2 rfl ?_
  refine zj_iload E dX6_nearest_43 3 rfl ?_
  refine zj_icmp_gt (tgt := 52) E dX6_nearest_45 (by decide) h (fun h => ?_) (fun h => ?_)
  · refine zj_iload_n E dX6_nearest_52 rfl 1 rfl ?_
    have e9 := Option.some.inj h
    subst e9
    exact (show zRet Γ cX6_nearest 6 0 0 (some (.int l2)) σ from K) _ _ dX6_nearest_53
  · refine zj_iload_n E dX6_nearest_48 rfl 0 rfl ?_
    refine zj_goto (tgt := 53) E dX6_nearest_49 (by decide) ?_
    have e9 := Option.some.inj h
    subst e9
    exact (show zRet Γ cX6_nearest 6 0 0 (some (.int l1)) σ from K) _ _ dX6_nearest_53
def fX6_nearest (σ : zS) (p0 : Int32) (p1 : Int32) (p2 : Int32) : Option Int32 := oL (zabs (p1 - p2)) (fun x1 => oL (zabs (p0 - p2)) (fun x2 => oL (zabs (((p0 + p1) - p2) - p2)) (fun x3 => (if x2 < x1 then fX6_nearest_41 σ p1 p2 x2 x3 else (if x3 < x1 then fX6_nearest_41 σ p1 p2 x2 x3 else some p0)))))
set_option maxRecDepth 100000 in
theorem wX6_nearest {Γ : zG} (E : zE Γ cX6_nearest RX6 6 { frames := 1, cells := 0, slots := 0, locals := 24 }) (σ : zS) (p0 : Int32) (p1 : Int32) (p2 : Int32) {R : Int32} (h : fX6_nearest σ p0 p1 p2 = some R) (K : zRet Γ cX6_nearest 6 0 0 (some (.int R)) σ) : zJ Γ 6 0 0 σ 0 [(0, .int p0), (1, .int p1), (2, .int p2)] [] := by
  unfold fX6_nearest at h
  refine zj_iload_n E dX6_nearest_0 rfl 1 rfl ?_
  refine zj_iload_n E dX6_nearest_1 rfl 2 rfl ?_
  refine zj_isub E dX6_nearest_2 ?_
  refine zs_abs E zw_14_8 zw_14_9 zw_14_10 zw_14_11 (by decide) (Nat.le_of_ble_eq_true rfl) dX6_nearest_3 ⟨by decide, by decide⟩ h (fun x1 h => ?_)
  refine zj_istore_n (lv2 := [(3, .int x1), (0, .int p0), (1, .int p1), (2, .int p2)]) E dX6_nearest_6 rfl (by decide) rfl ?_
  refine zj_iload_n E dX6_nearest_7 rfl 1 rfl ?_
  refine zj_iload_n E dX6_nearest_8 rfl 3 rfl ?_
  refine zj_isub E dX6_nearest_9 ?_
  refine zs_abs E zw_14_8 zw_14_9 zw_14_10 zw_14_11 (by decide) (Nat.le_of_ble_eq_true rfl) dX6_nearest_10 ⟨by decide, by decide⟩ h (fun x2 h => ?_)
  refine zj_istore (lv2 := [(4, .int x2), (3, .int x1), (0, .int p0), (1, .int p1), (2, .int p2)]) E dX6_nearest_13 (by decide) rfl ?_
  refine zj_iload_n E dX6_nearest_15 rfl 2 rfl ?_
  refine zj_iload_n E dX6_nearest_16 rfl 3 rfl ?_
  refine zj_iadd E dX6_nearest_17 ?_
  refine zj_iload_n E dX6_nearest_18 rfl 4 rfl ?_
  refine zj_isub E dX6_nearest_19 ?_
  refine zj_iload_n E dX6_nearest_20 rfl 4 rfl ?_
  refine zj_isub E dX6_nearest_21 ?_
  refine zs_abs E zw_14_8 zw_14_9 zw_14_10 zw_14_11 (by decide) (Nat.le_of_ble_eq_true rfl) dX6_nearest_22 ⟨by decide, by decide⟩ h (fun x3 h => ?_)
  refine zj_istore (lv2 := [(5, .int x3), (4, .int x2), (3, .int x1), (0, .int p0), (1, .int p1), (2, .int p2)]) E dX6_nearest_25 (by decide) rfl ?_
  refine zj_iload_n E dX6_nearest_27 rfl 2 rfl ?_
  refine zj_iload E dX6_nearest_28 1 rfl ?_
  refine zj_icmp_gt (tgt := 41) E dX6_nearest_30 (by decide) h (fun h => ?_) (fun h => ?_)
  · refine zj_lv [4, 5, 1, 0] rfl ?_
    exact wX6_nearest_41 E _ _ _ _ _ h K
  · refine zj_iload_n E dX6_nearest_33 rfl 2 rfl ?_
    refine zj_iload E dX6_nearest_34 0 rfl ?_
    refine zj_icmp_gt (tgt := 41) E dX6_nearest_36 (by decide) h (fun h => ?_) (fun h => ?_)
    · refine zj_lv [4, 5, 1, 0] rfl ?_
      exact wX6_nearest_41 E _ _ _ _ _ h K
    · refine zj_iload_n E dX6_nearest_39 rfl 3 rfl ?_
      have e9 := Option.some.inj h
      subst e9
      exact (show zRet Γ cX6_nearest 6 0 0 (some (.int p0)) σ from K) _ _ dX6_nearest_40
set_option maxRecDepth 100000 in
theorem kX6_nearest (l : Launch) (D : va_G) (cs : zCs) (z0 : Nat) (σ : zS) {p0 : Int32} {p1 : Int32} {p2 : Int32} {r : Int32} (h : fX6_nearest σ p0 p1 p2 = some r) : zM l D cs z0 yX6_nearest cX6_nearest 6 (some .int) { frames := 1, cells := 0, slots := 0, locals := 24 } [.int p0, .int p1, .int p2] σ (some (.int r)) σ 0 0 := by
  exact zM_of (by decide) rfl (Or.inl rfl) (Nat.le_of_ble_eq_true rfl) rfl (fun Γ e1 e2 e3 e4 E hN K => wX6_nearest E σ _ _ _ h K)
/-! X6_guess -/
def fX6_guess (σ : zS) (p0 : Int32) (p1 : Int32) (p2 : Int32) (p3 : Int32) : Option Int32 := (if p0 = 0 then some 0 else (if p0 = 1 then some p1 else (if p0 = 2 then some p2 else (if p0 = 3 then some ((p1 + p2) / (2 : Int32)) else oB (fX6_nearest σ p1 p2 p3) (fun x1 => some x1)))))
set_option maxRecDepth 100000 in
theorem wX6_guess {Γ : zG} (E : zE Γ cX6_guess RX6 4 { frames := 2, cells := 0, slots := 0, locals := 49 }) (σ : zS) (p0 : Int32) (p1 : Int32) (p2 : Int32) (p3 : Int32) {R : Int32} (h : fX6_guess σ p0 p1 p2 p3 = some R) (K : zRet Γ cX6_guess 4 0 0 (some (.int R)) σ) : zJ Γ 4 0 0 σ 0 [(0, .int p0), (1, .int p1), (2, .int p2), (3, .int p3)] [] := by
  unfold fX6_guess at h
  refine zj_iload_n E dX6_guess_0 rfl 0 rfl ?_
  by_cases e0 : p0 = 0
  · rw [if_pos e0] at h
    refine zj_tIn (tgt := 32) E e0 dX6_guess_1 (by decide) (by decide) rfl (by decide) ?_
    refine zj_iconst (v := 0) E dX6_guess_32 (by decide) ?_
    have e9 := Option.some.inj h
    subst e9
    exact (show zRet Γ cX6_guess 4 0 0 (some (.int 0)) σ from K) _ _ dX6_guess_33
  rw [if_neg e0] at h
  by_cases e1 : p0 = 1
  · rw [if_pos e1] at h
    refine zj_tIn (tgt := 34) E e1 dX6_guess_1 (by decide) (by decide) rfl (by decide) ?_
    refine zj_iload_n E dX6_guess_34 rfl 1 rfl ?_
    have e9 := Option.some.inj h
    subst e9
    exact (show zRet Γ cX6_guess 4 0 0 (some (.int p1)) σ from K) _ _ dX6_guess_35
  rw [if_neg e1] at h
  by_cases e2 : p0 = 2
  · rw [if_pos e2] at h
    refine zj_tIn (tgt := 36) E e2 dX6_guess_1 (by decide) (by decide) rfl (by decide) ?_
    refine zj_iload_n E dX6_guess_36 rfl 2 rfl ?_
    have e9 := Option.some.inj h
    subst e9
    exact (show zRet Γ cX6_guess 4 0 0 (some (.int p2)) σ from K) _ _ dX6_guess_37
  rw [if_neg e2] at h
  by_cases e3 : p0 = 3
  · rw [if_pos e3] at h
    refine zj_tIn (tgt := 38) E e3 dX6_guess_1 (by decide) (by decide) rfl (by decide) ?_
    refine zj_iload_n E dX6_guess_38 rfl 1 rfl ?_
    refine zj_iload_n E dX6_guess_39 rfl 2 rfl ?_
    refine zj_iadd E dX6_guess_40 ?_
    refine zj_iconst (v := 2) E dX6_guess_41 (by decide) ?_
    refine zj_idiv E dX6_guess_42 (by decide) ?_
    have e9 := Option.some.inj h
    subst e9
    exact (show zRet Γ cX6_guess 4 0 0 (some (.int ((p1 + p2) / (2 : Int32)))) σ from K) _ _ dX6_guess_43
  rw [if_neg e3] at h
  refine zj_tOut (tgt := 44) E dX6_guess_1 (by have := And.intro (lv_neT (a := 0) e0 (by decide)) (And.intro (lv_neT (a := 1) e1 (by decide)) (And.intro (lv_neT (a := 2) e2 (by decide)) (lv_neT (a := 3) e3 (by decide)))); omega) (by decide) ?_
  refine zj_iload_n E dX6_guess_44 rfl 1 rfl ?_
  refine zj_iload_n E dX6_guess_45 rfl 2 rfl ?_
  refine zj_iload_n E dX6_guess_46 rfl 3 rfl ?_
  obtain ⟨x1, hc, h⟩ := oB_some h
  refine zs_callS (As := [.int p1, .int p2, .int p3]) (rest := []) E zyX6_nearest zw_14_5 (kX6_nearest _ _ _ _ _ hc) rfl rfl rfl ⟨by decide, by decide⟩ ⟨by decide, by decide⟩ (Nat.le_of_ble_eq_true rfl) dX6_guess_47 rfl (show zJ Γ 4 0 0 σ 50 [(0, .int p0), (1, .int p1), (2, .int p2), (3, .int p3)] [.int x1] from ?_)
  have e9 := Option.some.inj h
  subst e9
  exact (show zRet Γ cX6_guess 4 0 0 (some (.int x1)) σ from K) _ _ dX6_guess_50
set_option maxRecDepth 100000 in
theorem kX6_guess (l : Launch) (D : va_G) (cs : zCs) (z0 : Nat) (σ : zS) {p0 : Int32} {p1 : Int32} {p2 : Int32} {p3 : Int32} {r : Int32} (h : fX6_guess σ p0 p1 p2 p3 = some r) : zM l D cs z0 yX6_guess cX6_guess 4 (some .int) { frames := 2, cells := 0, slots := 0, locals := 49 } [.int p0, .int p1, .int p2, .int p3] σ (some (.int r)) σ 0 0 := by
  exact zM_of (by decide) rfl (Or.inl rfl) (Nat.le_of_ble_eq_true rfl) rfl (fun Γ e1 e2 e3 e4 E hN K => wX6_guess E σ _ _ _ _ h K)
/-! X6_unfilter -/
def jX6_unfilter_10 (Γ : zG) (l0 : Nat) (l1 : Int32) (l2 : Int32) (l3 : Int32) (l4 : Int32) : (Int32 × zS) → Prop := fun x => zJ Γ 10 0 0 x.2 10 [(0, .ref l0), (1, .int l1), (2, .int l2), (3, .int l3), (4, .int l4), (5, .int x.1)] []
def eX6_unfilter_10 (Γ : zG) (l0 : Nat) (l1 : Int32) (l2 : Int32) (l3 : Int32) (l4 : Int32) : zS → Prop := fun b => zJ Γ 10 0 0 b 120 [] []
def fX6_unfilter_87 (σ : zS) (l0 : Nat) (l1 : Int32) (l2 : Int32) (l3 : Int32) (l4 : Int32) (l5 : Int32) (l6 : Int32) (l7 : Int32) (l8 : Int32) (s0 : Int32) : Option ((Int32 × zS) ⊕ zS) := oGR σ 2 l0 0 (fun a1 => oA (zk σ l0 = 2) (oB (fX1_at σ l0 l6) (fun x1 => oB (fX6_guess σ l3 l7 l8 s0) (fun x2 => oSt σ 20 a1 l6 (((x1 + x2).toInt8.toInt32).toInt8.toInt32) (fun σ1 => oL (l5 + 1) (fun v3 => some (.inl (v3, σ1))))))))
set_option maxRecDepth 100000 in
theorem wX6_unfilter_87 {Γ : zG} (E : zE Γ cX6_unfilter RX6 10 { frames := 3, cells := 0, slots := 0, locals := 72 }) (σ : zS) (l0 : Nat) (l1 : Int32) (l2 : Int32) (l3 : Int32) (l4 : Int32) (l5 : Int32) (l6 : Int32) (l7 : Int32) (l8 : Int32) (s0 : Int32) {R : ((Int32 × zS) ⊕ zS)} (h : fX6_unfilter_87 σ l0 l1 l2 l3 l4 l5 l6 l7 l8 s0 = some R) (K : Sum.elim (jX6_unfilter_10 Γ l0 l1 l2 l3 l4) (eX6_unfilter_10 Γ l0 l1 l2 l3 l4) R) : zJ Γ 10 0 0 σ 87 [(0, .ref l0), (1, .int l1), (2, .int l2), (3, .int l3), (4, .int l4), (5, .int l5), (6, .int l6), (7, .int l7), (8, .int l8)] [.int s0] := by
  unfold fX6_unfilter_87 at h
  refine zj_istore (lv2 := [(9, .int s0), (0, .ref l0), (1, .int l1), (2, .int l2), (3, .int l3), (4, .int l4), (5, .int l5), (6, .int l6), (7, .int l7), (8, .int l8)]) E dX6_unfilter_87 (by decide) rfl ?_
  refine zj_aload_n E dX6_unfilter_89 rfl 1 rfl ?_
  refine zs_getRN E zc1 0 (by decide) (znf_1) rfl dX6_unfilter_90 h (fun a1 h => ?_)
  refine zj_iload E dX6_unfilter_93 7 rfl ?_
  refine zj_aload_n E dX6_unfilter_95 rfl 1 rfl ?_
  refine zj_iload E dX6_unfilter_96 7 rfl ?_
  obtain ⟨hk, h⟩ := oA_some h
  obtain ⟨x1, hc, h⟩ := oB_some h
  refine zs_callV (As := [.int l6]) (rest := [.int l6, .ref a1]) E zc1 zyX1_at zw_13_22 (kX1_at _ _ _ _ _ hc) rfl rfl hk rfl ⟨by decide, by decide⟩ ⟨by decide, by decide⟩ (Nat.le_of_ble_eq_true rfl) dX6_unfilter_98 rfl (show zJ Γ 10 0 0 σ 101 [(9, .int s0), (0, .ref l0), (1, .int l1), (2, .int l2), (3, .int l3), (4, .int l4), (5, .int l5), (6, .int l6), (7, .int l7), (8, .int l8)] [.int x1, .int l6, .ref a1] from ?_)
  refine zj_iload_n E dX6_unfilter_101 rfl 4 rfl ?_
  refine zj_iload E dX6_unfilter_102 8 rfl ?_
  refine zj_iload E dX6_unfilter_104 9 rfl ?_
  refine zj_iload E dX6_unfilter_106 0 rfl ?_
  obtain ⟨x2, hc, h⟩ := oB_some h
  refine zs_callS (As := [.int l3, .int l7, .int l8, .int s0]) (rest := [.int x1, .int l6, .ref a1]) E zyX6_guess zw_14_2 (kX6_guess _ _ _ _ _ hc) rfl rfl rfl ⟨by decide, by decide⟩ ⟨by decide, by decide⟩ (Nat.le_of_ble_eq_true rfl) dX6_unfilter_108 rfl (show zJ Γ 10 0 0 σ 111 [(9, .int s0), (0, .ref l0), (1, .int l1), (2, .int l2), (3, .int l3), (4, .int l4), (5, .int l5), (6, .int l6), (7, .int l7), (8, .int l8)] [.int x2, .int x1, .int l6, .ref a1] from ?_)
  refine zj_iadd E dX6_unfilter_111 ?_
  refine zj_i2b E dX6_unfilter_112 ?_
  refine zs_bast E dX6_unfilter_113 h (fun σ1 h => ?_)
  refine zs_iinc (lv2 := fun v3 => [(5, .int v3), (9, .int s0), (0, .ref l0), (1, .int l1), (2, .int l2), (3, .int l3), (4, .int l4), (6, .int l6), (7, .int l7), (8, .int l8)]) E dX6_unfilter_114 6 rfl (by decide) (by decide) (fun _ => rfl) h (fun v3 h => ?_)
  refine zj_goto (tgt := 10) E dX6_unfilter_117 (by decide) ?_
  have e9 := Option.some.inj h
  subst e9
  refine zj_lv [2, 3, 4, 5, 6, 0] rfl ?_
  exact K
def fX6_unfilter_86 (σ : zS) (l0 : Nat) (l1 : Int32) (l2 : Int32) (l3 : Int32) (l4 : Int32) (l5 : Int32) (l6 : Int32) (l7 : Int32) (l8 : Int32) : Option ((Int32 × zS) ⊕ zS) := fX6_unfilter_87 σ l0 l1 l2 l3 l4 l5 l6 l7 l8 0
set_option maxRecDepth 100000 in
theorem wX6_unfilter_86 {Γ : zG} (E : zE Γ cX6_unfilter RX6 10 { frames := 3, cells := 0, slots := 0, locals := 72 }) (σ : zS) (l0 : Nat) (l1 : Int32) (l2 : Int32) (l3 : Int32) (l4 : Int32) (l5 : Int32) (l6 : Int32) (l7 : Int32) (l8 : Int32) {R : ((Int32 × zS) ⊕ zS)} (h : fX6_unfilter_86 σ l0 l1 l2 l3 l4 l5 l6 l7 l8 = some R) (K : Sum.elim (jX6_unfilter_10 Γ l0 l1 l2 l3 l4) (eX6_unfilter_10 Γ l0 l1 l2 l3 l4) R) : zJ Γ 10 0 0 σ 86 [(0, .ref l0), (1, .int l1), (2, .int l2), (3, .int l3), (4, .int l4), (5, .int l5), (6, .int l6), (7, .int l7), (8, .int l8)] [] := by
  unfold fX6_unfilter_86 at h
  refine zj_iconst (v := 0) E dX6_unfilter_86 (by decide) ?_
  refine zj_lv [0, 1, 2, 3, 4, 5, 6, 7, 8] rfl ?_
  exact wX6_unfilter_87 E _ _ _ _ _ _ _ _ _ _ _ h K
def fX6_unfilter_61 (σ : zS) (l0 : Nat) (l1 : Int32) (l2 : Int32) (l3 : Int32) (l4 : Int32) (l5 : Int32) (l6 : Int32) (l7 : Int32) (s0 : Int32) : Option ((Int32 × zS) ⊕ zS) := (if l5 < (4 : Int32) then fX6_unfilter_86 σ l0 l1 l2 l3 l4 l5 l6 l7 s0 else (if l1 ≤ 0 then fX6_unfilter_86 σ l0 l1 l2 l3 l4 l5 l6 l7 s0 else oA (zk σ l0 = 2) (oB (fX1_at σ l0 ((l6 - l2) - (4 : Int32))) (fun x3 => fX6_unfilter_87 σ l0 l1 l2 l3 l4 l5 l6 l7 s0 x3))))
set_option maxRecDepth 100000 in
theorem wX6_unfilter_61 {Γ : zG} (E : zE Γ cX6_unfilter RX6 10 { frames := 3, cells := 0, slots := 0, locals := 72 }) (σ : zS) (l0 : Nat) (l1 : Int32) (l2 : Int32) (l3 : Int32) (l4 : Int32) (l5 : Int32) (l6 : Int32) (l7 : Int32) (s0 : Int32) {R : ((Int32 × zS) ⊕ zS)} (h : fX6_unfilter_61 σ l0 l1 l2 l3 l4 l5 l6 l7 s0 = some R) (K : Sum.elim (jX6_unfilter_10 Γ l0 l1 l2 l3 l4) (eX6_unfilter_10 Γ l0 l1 l2 l3 l4) R) : zJ Γ 10 0 0 σ 61 [(0, .ref l0), (1, .int l1), (2, .int l2), (3, .int l3), (4, .int l4), (5, .int l5), (6, .int l6), (7, .int l7)] [.int s0] := by
  unfold fX6_unfilter_61 at h
  refine zj_istore (lv2 := [(8, .int s0), (0, .ref l0), (1, .int l1), (2, .int l2), (3, .int l3), (4, .int l4), (5, .int l5), (6, .int l6), (7, .int l7)]) E dX6_unfilter_61 (by decide) rfl ?_
  refine zj_iload E dX6_unfilter_63 6 rfl ?_
  refine zj_iconst (v := 4) E dX6_unfilter_65 (by decide) ?_
  refine zj_icmp_lt (tgt := 86) E dX6_unfilter_66 (by decide) h (fun h => ?_) (fun h => ?_)
  · refine zj_lv [1, 2, 3, 4, 5, 6, 7, 8, 0] rfl ?_
    exact wX6_unfilter_86 E _ _ _ _ _ _ _ _ _ _ h K
  · refine zj_iload_n E dX6_unfilter_69 rfl 2 rfl ?_
    refine zj_if_le (tgt := 86) E dX6_unfilter_70 (by decide) h (fun h => ?_) (fun h => ?_)
    · refine zj_lv [1, 2, 3, 4, 5, 6, 7, 8, 0] rfl ?_
      exact wX6_unfilter_86 E _ _ _ _ _ _ _ _ _ _ h K
    · refine zj_aload_n E dX6_unfilter_73 rfl 1 rfl ?_
      refine zj_iload E dX6_unfilter_74 7 rfl ?_
      refine zj_iload_n E dX6_unfilter_76 rfl 3 rfl ?_
      refine zj_isub E dX6_unfilter_77 ?_
      refine zj_iconst (v := 4) E dX6_unfilter_78 (by decide) ?_
      refine zj_isub E dX6_unfilter_79 ?_
      obtain ⟨hk, h⟩ := oA_some h
      obtain ⟨x3, hc, h⟩ := oB_some h
      refine zs_callV (As := [.int ((l6 - l2) - (4 : Int32))]) (rest := []) E zc1 zyX1_at zw_13_22 (kX1_at _ _ _ _ _ hc) rfl rfl hk rfl ⟨by decide, by decide⟩ ⟨by decide, by decide⟩ (Nat.le_of_ble_eq_true rfl) dX6_unfilter_80 rfl (show zJ Γ 10 0 0 σ 83 [(8, .int s0), (0, .ref l0), (1, .int l1), (2, .int l2), (3, .int l3), (4, .int l4), (5, .int l5), (6, .int l6), (7, .int l7)] [.int x3] from ?_)
      refine zj_goto (tgt := 87) E dX6_unfilter_83 (by decide) ?_
      refine zj_lv [1, 2, 3, 4, 5, 6, 7, 8, 0] rfl ?_
      exact wX6_unfilter_87 E _ _ _ _ _ _ _ _ _ _ _ h K
def fX6_unfilter_43 (σ : zS) (l0 : Nat) (l1 : Int32) (l2 : Int32) (l3 : Int32) (l4 : Int32) (l5 : Int32) (l6 : Int32) (s0 : Int32) : Option ((Int32 × zS) ⊕ zS) := (if l1 ≤ 0 then fX6_unfilter_61 σ l0 l1 l2 l3 l4 l5 l6 s0 0 else oA (zk σ l0 = 2) (oB (fX1_at σ l0 (l6 - l2)) (fun x4 => fX6_unfilter_61 σ l0 l1 l2 l3 l4 l5 l6 s0 x4)))
set_option maxRecDepth 100000 in
theorem wX6_unfilter_43 {Γ : zG} (E : zE Γ cX6_unfilter RX6 10 { frames := 3, cells := 0, slots := 0, locals := 72 }) (σ : zS) (l0 : Nat) (l1 : Int32) (l2 : Int32) (l3 : Int32) (l4 : Int32) (l5 : Int32) (l6 : Int32) (s0 : Int32) {R : ((Int32 × zS) ⊕ zS)} (h : fX6_unfilter_43 σ l0 l1 l2 l3 l4 l5 l6 s0 = some R) (K : Sum.elim (jX6_unfilter_10 Γ l0 l1 l2 l3 l4) (eX6_unfilter_10 Γ l0 l1 l2 l3 l4) R) : zJ Γ 10 0 0 σ 43 [(0, .ref l0), (1, .int l1), (2, .int l2), (3, .int l3), (4, .int l4), (5, .int l5), (6, .int l6)] [.int s0] := by
  unfold fX6_unfilter_43 at h
  refine zj_istore (lv2 := [(7, .int s0), (0, .ref l0), (1, .int l1), (2, .int l2), (3, .int l3), (4, .int l4), (5, .int l5), (6, .int l6)]) E dX6_unfilter_43 (by decide) rfl ?_
  refine zj_iload_n E dX6_unfilter_45 rfl 2 rfl ?_
  refine zj_if_le (tgt := 60) E dX6_unfilter_46 (by decide) h (fun h => ?_) (fun h => ?_)
  · refine zj_iconst (v := 0) E dX6_unfilter_60 (by decide) ?_
    refine zj_lv [1, 2, 3, 4, 5, 6, 7, 0] rfl ?_
    exact wX6_unfilter_61 E _ _ _ _ _ _ _ _ _ _ h K
  · refine zj_aload_n E dX6_unfilter_49 rfl 1 rfl ?_
    refine zj_iload E dX6_unfilter_50 7 rfl ?_
    refine zj_iload_n E dX6_unfilter_52 rfl 3 rfl ?_
    refine zj_isub E dX6_unfilter_53 ?_
    obtain ⟨hk, h⟩ := oA_some h
    obtain ⟨x4, hc, h⟩ := oB_some h
    refine zs_callV (As := [.int (l6 - l2)]) (rest := []) E zc1 zyX1_at zw_13_22 (kX1_at _ _ _ _ _ hc) rfl rfl hk rfl ⟨by decide, by decide⟩ ⟨by decide, by decide⟩ (Nat.le_of_ble_eq_true rfl) dX6_unfilter_54 rfl (show zJ Γ 10 0 0 σ 57 [(7, .int s0), (0, .ref l0), (1, .int l1), (2, .int l2), (3, .int l3), (4, .int l4), (5, .int l5), (6, .int l6)] [.int x4] from ?_)
    refine zj_goto (tgt := 61) E dX6_unfilter_57 (by decide) ?_
    refine zj_lv [1, 2, 3, 4, 5, 6, 7, 0] rfl ?_
    exact wX6_unfilter_61 E _ _ _ _ _ _ _ _ _ _ h K
def bX6_unfilter_10 (l0 : Nat) (l1 : Int32) (l2 : Int32) (l3 : Int32) (l4 : Int32) (l5 : Int32) (σ : zS) : Option ((Int32 × zS) ⊕ zS) := (if (l2 - (1 : Int32)) ≤ l5 then some (.inr σ) else oL (l4 + l5) (fun v2 => (if l5 < (4 : Int32) then fX6_unfilter_43 σ l0 l1 l2 l3 l4 l5 v2 0 else oA (zk σ l0 = 2) (oB (fX1_at σ l0 (v2 - (4 : Int32))) (fun x5 => fX6_unfilter_43 σ l0 l1 l2 l3 l4 l5 v2 x5)))))
set_option maxRecDepth 100000 in
theorem wX6_unfilter_L10 {Γ : zG} (E : zE Γ cX6_unfilter RX6 10 { frames := 3, cells := 0, slots := 0, locals := 72 }) (l0 : Nat) (l1 : Int32) (l2 : Int32) (l3 : Int32) (l4 : Int32) : ∀ x R, (fun x => bX6_unfilter_10 l0 l1 l2 l3 l4 x.1 x.2) x = some R → Sum.elim (jX6_unfilter_10 Γ l0 l1 l2 l3 l4) (eX6_unfilter_10 Γ l0 l1 l2 l3 l4) R → jX6_unfilter_10 Γ l0 l1 l2 l3 l4 x := by
  intro x R h K
  obtain ⟨l5, σ⟩ := x
  have h : bX6_unfilter_10 l0 l1 l2 l3 l4 l5 σ = some R := h
  show zJ Γ 10 0 0 σ 10 [(0, .ref l0), (1, .int l1), (2, .int l2), (3, .int l3), (4, .int l4), (5, .int l5)] []
  unfold bX6_unfilter_10 at h
  refine zj_iload E dX6_unfilter_10 5 rfl ?_
  refine zj_iload_n E dX6_unfilter_12 rfl 2 rfl ?_
  refine zj_iconst (v := 1) E dX6_unfilter_13 (by decide) ?_
  refine zj_isub E dX6_unfilter_14 ?_
  refine zj_icmp_ge (tgt := 120) E dX6_unfilter_15 (by decide) h (fun h => ?_) (fun h => ?_)
  · have e9 := Option.some.inj h
    subst e9
    refine zj_lv [] rfl ?_
    exact K
  · refine zj_iload E dX6_unfilter_18 4 rfl ?_
    refine zj_iload E dX6_unfilter_20 5 rfl ?_
    refine zj_iadd E dX6_unfilter_22 ?_
    refine zs_istore (lv2 := fun v2 => [(6, .int v2), (0, .ref l0), (1, .int l1), (2, .int l2), (3, .int l3), (4, .int l4), (5, .int l5)]) E dX6_unfilter_23 (by decide) (fun _ => rfl) h (fun v2 h => ?_)
    refine zj_iload E dX6_unfilter_25 6 rfl ?_
    refine zj_iconst (v := 4) E dX6_unfilter_27 (by decide) ?_
    refine zj_icmp_lt (tgt := 42) E dX6_unfilter_28 (by decide) h (fun h => ?_) (fun h => ?_)
    · refine zj_iconst (v := 0) E dX6_unfilter_42 (by decide) ?_
      refine zj_lv [1, 2, 3, 4, 5, 6, 0] rfl ?_
      exact wX6_unfilter_43 E _ _ _ _ _ _ _ _ _ h K
    · refine zj_aload_n E dX6_unfilter_31 rfl 1 rfl ?_
      refine zj_iload E dX6_unfilter_32 0 rfl ?_
      refine zj_iconst (v := 4) E dX6_unfilter_34 (by decide) ?_
      refine zj_isub E dX6_unfilter_35 ?_
      obtain ⟨hk, h⟩ := oA_some h
      obtain ⟨x5, hc, h⟩ := oB_some h
      refine zs_callV (As := [.int (v2 - (4 : Int32))]) (rest := []) E zc1 zyX1_at zw_13_22 (kX1_at _ _ _ _ _ hc) rfl rfl hk rfl ⟨by decide, by decide⟩ ⟨by decide, by decide⟩ (Nat.le_of_ble_eq_true rfl) dX6_unfilter_36 rfl (show zJ Γ 10 0 0 σ 39 [(6, .int v2), (0, .ref l0), (1, .int l1), (2, .int l2), (3, .int l3), (4, .int l4), (5, .int l5)] [.int x5] from ?_)
      refine zj_goto (tgt := 43) E dX6_unfilter_39 (by decide) ?_
      refine zj_lv [1, 2, 3, 4, 5, 6, 0] rfl ?_
      exact wX6_unfilter_43 E _ _ _ _ _ _ _ _ _ h K
def fX6_unfilter (σ : zS) (p0 : Nat) (p1 : Int32) (p2 : Int32) (p3 : Int32) : Option zS := oL ((p1 * p2) + (1 : Int32)) (fun v1 => oB (zloop zF (fun x => bX6_unfilter_10 p0 p1 p2 p3 v1 x.1 x.2) (0, σ)) (fun b1 => (fun σ2 => some σ2) b1))
set_option maxRecDepth 100000 in
theorem wX6_unfilter {Γ : zG} (E : zE Γ cX6_unfilter RX6 10 { frames := 3, cells := 0, slots := 0, locals := 72 }) (σ : zS) (p0 : Nat) (p1 : Int32) (p2 : Int32) (p3 : Int32) {R : zS} (h : fX6_unfilter σ p0 p1 p2 p3 = some R) (K : zRet Γ cX6_unfilter 10 0 0 (none) R) : zJ Γ 10 0 0 σ 0 [(0, .ref p0), (1, .int p1), (2, .int p2), (3, .int p3)] [] := by
  unfold fX6_unfilter at h
  refine zj_iload_n E dX6_unfilter_0 rfl 1 rfl ?_
  refine zj_iload_n E dX6_unfilter_1 rfl 2 rfl ?_
  refine zj_imul E dX6_unfilter_2 ?_
  refine zj_iconst (v := 1) E dX6_unfilter_3 (by decide) ?_
  refine zj_iadd E dX6_unfilter_4 ?_
  refine zs_istore (lv2 := fun v1 => [(4, .int v1), (0, .ref p0), (1, .int p1), (2, .int p2), (3, .int p3)]) E dX6_unfilter_5 (by decide) (fun _ => rfl) h (fun v1 h => ?_)
  refine zj_iconst (v := 0) E dX6_unfilter_7 (by decide) ?_
  refine zj_istore (lv2 := [(5, .int 0), (4, .int v1), (0, .ref p0), (1, .int p1), (2, .int p2), (3, .int p3)]) E dX6_unfilter_8 (by decide) rfl ?_
  obtain ⟨b1, hb1, h⟩ := oB_some h
  refine zj_lv [2, 3, 4, 5, 1, 0] rfl ?_
  refine zj_loop (wX6_unfilter_L10 E p0 p1 p2 p3 v1) zF (0, σ) b1 hb1 ?_
  obtain ⟨σ2, rfl⟩ : ∃ z, z = b1 := ⟨_, rfl⟩
  try dsimp only at h
  show zJ Γ 10 0 0 σ2 120 [] []
  have e9 := Option.some.inj h
  subst e9
  exact (show zRet Γ cX6_unfilter 10 0 0 (none) σ2 from K) _ _ dX6_unfilter_120
set_option maxRecDepth 100000 in
theorem kX6_unfilter (l : Launch) (D : va_G) (cs : zCs) (z0 : Nat) (σ : zS) {p0 : Nat} {p1 : Int32} {p2 : Int32} {p3 : Int32}  {σ' : zS} (h : fX6_unfilter σ p0 p1 p2 p3 = some σ') : zM l D cs z0 yX6_unfilter cX6_unfilter 10 none { frames := 3, cells := 0, slots := 0, locals := 72 } [.ref p0, .int p1, .int p2, .int p3] σ none σ' 0 0 := by
  exact zM_of (by decide) rfl rfl (Nat.le_of_ble_eq_true rfl) rfl (fun Γ e1 e2 e3 e4 E hN K => wX6_unfilter E σ _ _ _ _ h K)
/-! X6_fill -/
def jX6_fill_26 (Γ : zG) (l0 : Nat) (l1 : Nat) (l2 : Int32) : (Int32 × zS) → Prop := fun x => zJ Γ 6 0 0 x.2 26 [(0, .ref l0), (1, .ref l1), (2, .int l2), (3, .int x.1)] []
def eX6_fill_26 (Γ : zG) (l0 : Nat) (l1 : Nat) (l2 : Int32) : (zS ⊕ (Int32 × zS)) → Prop := Sum.elim (fun b => zJ Γ 6 0 0 b 116 [] []) (fun r => zRet Γ cX6_fill 6 0 0 (some (.int r.1)) r.2)
def jX6_fill_67 (Γ : zG) (l0 : Nat) (l1 : Nat) (l2 : Int32) (l3 : Int32) : (Int32 × zS) → Prop := fun x => zJ Γ 6 0 0 x.2 67 [(0, .ref l0), (1, .ref l1), (2, .int l2), (3, .int l3), (5, .int x.1)] []
def eX6_fill_67 (Γ : zG) (l0 : Nat) (l1 : Nat) (l2 : Int32) (l3 : Int32) : zS → Prop := fun b => zJ Γ 6 0 0 b 110 [(0, .ref l0), (1, .ref l1), (2, .int l2), (3, .int l3)] []
def bX6_fill_67 (l0 : Nat) (l1 : Nat) (l2 : Int32) (l3 : Int32) (l5 : Int32) (σ : zS) : Option ((Int32 × zS) ⊕ zS) := oGI σ 4 l0 1 (fun x6 => (if x6 ≤ l5 then some (.inr σ) else oGR σ 4 l0 0 (fun a1 => oGI σ 4 l0 1 (fun x7 => oA (zk σ l1 = 2) (oB (fX1_number σ l1 (((l3 * l2) + (1 : Int32)) + ((4 : Int32) * l5))) (fun x8 => oSt σ 21 a1 ((l3 * x7) + l5) x8 (fun σ2 => oL (l5 + 1) (fun v2 => some (.inl (v2, σ2))))))))))
set_option maxRecDepth 100000 in
theorem wX6_fill_L67 {Γ : zG} (E : zE Γ cX6_fill RX6 6 { frames := 4, cells := 0, slots := 0, locals := 101 }) (l0 : Nat) (l1 : Nat) (l2 : Int32) (l3 : Int32) : ∀ x R, (fun x => bX6_fill_67 l0 l1 l2 l3 x.1 x.2) x = some R → Sum.elim (jX6_fill_67 Γ l0 l1 l2 l3) (eX6_fill_67 Γ l0 l1 l2 l3) R → jX6_fill_67 Γ l0 l1 l2 l3 x := by
  intro x R h K
  obtain ⟨l5, σ⟩ := x
  have h : bX6_fill_67 l0 l1 l2 l3 l5 σ = some R := h
  show zJ Γ 6 0 0 σ 67 [(0, .ref l0), (1, .ref l1), (2, .int l2), (3, .int l3), (5, .int l5)] []
  unfold bX6_fill_67 at h
  refine zj_iload E dX6_fill_67 4 rfl ?_
  refine zj_aload_n E dX6_fill_69 rfl 0 rfl ?_
  refine zs_getIN E zc3 1 (by decide) (znf_17) rfl dX6_fill_70 h (fun x6 h => ?_)
  refine zj_icmp_ge (tgt := 110) E dX6_fill_73 (by decide) h (fun h => ?_) (fun h => ?_)
  · have e9 := Option.some.inj h
    subst e9
    refine zj_lv [0, 1, 2, 3] rfl ?_
    exact K
  · refine zj_aload_n E dX6_fill_76 rfl 0 rfl ?_
    refine zs_getRN E zc3 0 (by decide) (znf_13) rfl dX6_fill_77 h (fun a1 h => ?_)
    refine zj_iload_n E dX6_fill_80 rfl 3 rfl ?_
    refine zj_aload_n E dX6_fill_81 rfl 0 rfl ?_
    refine zs_getIN E zc3 1 (by decide) (znf_17) rfl dX6_fill_82 h (fun x7 h => ?_)
    refine zj_imul E dX6_fill_85 ?_
    refine zj_iload E dX6_fill_86 4 rfl ?_
    refine zj_iadd E dX6_fill_88 ?_
    refine zj_aload_n E dX6_fill_89 rfl 1 rfl ?_
    refine zj_iload_n E dX6_fill_90 rfl 3 rfl ?_
    refine zj_iload_n E dX6_fill_91 rfl 2 rfl ?_
    refine zj_imul E dX6_fill_92 ?_
    refine zj_iconst (v := 1) E dX6_fill_93 (by decide) ?_
    refine zj_iadd E dX6_fill_94 ?_
    refine zj_iconst (v := 4) E dX6_fill_95 (by decide) ?_
    refine zj_iload E dX6_fill_96 4 rfl ?_
    refine zj_imul E dX6_fill_98 ?_
    refine zj_iadd E dX6_fill_99 ?_
    obtain ⟨hk, h⟩ := oA_some h
    obtain ⟨x8, hc, h⟩ := oB_some h
    refine zs_callV (As := [.int (((l3 * l2) + (1 : Int32)) + ((4 : Int32) * l5))]) (rest := [.int ((l3 * x7) + l5), .ref a1]) E zc1 zyX1_number zw_14_12 (kX1_number _ _ _ _ _ hc) rfl rfl hk rfl ⟨by decide, by decide⟩ ⟨by decide, by decide⟩ (Nat.le_of_ble_eq_true rfl) dX6_fill_100 rfl (show zJ Γ 6 0 0 σ 103 [(0, .ref l0), (1, .ref l1), (2, .int l2), (3, .int l3), (5, .int l5)] [.int x8, .int ((l3 * x7) + l5), .ref a1] from ?_)
    refine zs_iast E dX6_fill_103 h (fun σ2 h => ?_)
    refine zs_iinc (lv2 := fun v2 => [(5, .int v2), (0, .ref l0), (1, .ref l1), (2, .int l2), (3, .int l3)]) E dX6_fill_104 4 rfl (by decide) (by decide) (fun _ => rfl) h (fun v2 h => ?_)
    refine zj_goto (tgt := 67) E dX6_fill_107 (by decide) ?_
    have e9 := Option.some.inj h
    subst e9
    refine zj_lv [1, 2, 3, 4, 0] rfl ?_
    exact K
def bX6_fill_26 (l0 : Nat) (l1 : Nat) (l2 : Int32) (l3 : Int32) (σ : zS) : Option ((Int32 × zS) ⊕ (zS ⊕ (Int32 × zS))) := oGI σ 4 l0 2 (fun x4 => (if x4 ≤ l3 then some (.inr (.inl σ)) else oA (zk σ l1 = 2) (oB (fX1_at σ l1 (l3 * l2)) (fun x5 => (if x5 < 0 then some (.inr (.inr (0, σ))) else (if x5 ≤ (4 : Int32) then oB (fX6_unfilter σ l1 l3 l2 x5) (fun σ1 => oB (zloop zF (fun x => bX6_fill_67 l0 l1 l2 l3 x.1 x.2) (0, σ1)) (fun b1 => (fun σ3 => oL (l3 + 1) (fun v3 => some (.inl (v3, σ3)))) b1)) else some (.inr (.inr (0, σ)))))))))
set_option maxRecDepth 100000 in
theorem wX6_fill_L26 {Γ : zG} (E : zE Γ cX6_fill RX6 6 { frames := 4, cells := 0, slots := 0, locals := 101 }) (l0 : Nat) (l1 : Nat) (l2 : Int32) : ∀ x R, (fun x => bX6_fill_26 l0 l1 l2 x.1 x.2) x = some R → Sum.elim (jX6_fill_26 Γ l0 l1 l2) (eX6_fill_26 Γ l0 l1 l2) R → jX6_fill_26 Γ l0 l1 l2 x := by
  intro x R h K
  obtain ⟨l3, σ⟩ := x
  have h : bX6_fill_26 l0 l1 l2 l3 σ = some R := h
  show zJ Γ 6 0 0 σ 26 [(0, .ref l0), (1, .ref l1), (2, .int l2), (3, .int l3)] []
  unfold bX6_fill_26 at h
  refine zj_iload_n E dX6_fill_26 rfl 3 rfl ?_
  refine zj_aload_n E dX6_fill_27 rfl 0 rfl ?_
  refine zs_getIN E zc3 2 (by decide) (znf_22) rfl dX6_fill_28 h (fun x4 h => ?_)
  refine zj_icmp_ge (tgt := 116) E dX6_fill_31 (by decide) h (fun h => ?_) (fun h => ?_)
  · have e9 := Option.some.inj h
    subst e9
    refine zj_lv [] rfl ?_
    exact K
  · refine zj_aload_n E dX6_fill_34 rfl 1 rfl ?_
    refine zj_iload_n E dX6_fill_35 rfl 3 rfl ?_
    refine zj_iload_n E dX6_fill_36 rfl 2 rfl ?_
    refine zj_imul E dX6_fill_37 ?_
    obtain ⟨hk, h⟩ := oA_some h
    obtain ⟨x5, hc, h⟩ := oB_some h
    refine zs_callV (As := [.int (l3 * l2)]) (rest := []) E zc1 zyX1_at zw_13_22 (kX1_at _ _ _ _ _ hc) rfl rfl hk rfl ⟨by decide, by decide⟩ ⟨by decide, by decide⟩ (Nat.le_of_ble_eq_true rfl) dX6_fill_38 rfl (show zJ Γ 6 0 0 σ 41 [(0, .ref l0), (1, .ref l1), (2, .int l2), (3, .int l3)] [.int x5] from ?_)
    refine zj_istore (lv2 := [(4, .int x5), (0, .ref l0), (1, .ref l1), (2, .int l2), (3, .int l3)]) E dX6_fill_41 (by decide) rfl ?_
    refine zj_iload E dX6_fill_43 0 rfl ?_
    refine zj_if_lt (tgt := 54) E dX6_fill_45 (by decide) h (fun h => ?_) (fun h => ?_)
    · refine zj_iconst (v := 0) E dX6_fill_54 (by decide) ?_
      have e9 := Option.some.inj h
      subst e9
      exact (show zRet Γ cX6_fill 6 0 0 (some (.int 0)) σ from K) _ _ dX6_fill_55
    · refine zj_iload E dX6_fill_48 0 rfl ?_
      refine zj_iconst (v := 4) E dX6_fill_50 (by decide) ?_
      refine zj_icmp_le (tgt := 56) E dX6_fill_51 (by decide) h (fun h => ?_) (fun h => ?_)
      · refine zj_aload_n E dX6_fill_56 rfl 2 rfl ?_
        refine zj_iload_n E dX6_fill_57 rfl 4 rfl ?_
        refine zj_iload_n E dX6_fill_58 rfl 3 rfl ?_
        refine zj_iload E dX6_fill_59 0 rfl ?_
        obtain ⟨σ1, hc, h⟩ := oB_some h
        refine zs_callS (As := [.ref l1, .int l3, .int l2, .int x5]) (rest := []) E zyX6_unfilter zw_13_23 (kX6_unfilter _ _ _ _ _ hc) rfl rfl rfl ⟨by decide, by decide⟩ ⟨by decide, by decide⟩ (Nat.le_of_ble_eq_true rfl) dX6_fill_61 rfl (show zJ Γ 6 0 0 σ1 64 [(4, .int x5), (0, .ref l0), (1, .ref l1), (2, .int l2), (3, .int l3)] [] from ?_)
        refine zj_iconst (v := 0) E dX6_fill_64 (by decide) ?_
        refine zj_istore (lv2 := [(5, .int 0), (4, .int x5), (0, .ref l0), (1, .ref l1), (2, .int l2), (3, .int l3)]) E dX6_fill_65 (by decide) rfl ?_
        obtain ⟨b1, hb1, h⟩ := oB_some h
        refine zj_lv [2, 3, 4, 5, 0] rfl ?_
        refine zj_loop (wX6_fill_L67 E l0 l1 l2 l3) zF (0, σ1) b1 hb1 ?_
        obtain ⟨σ3, rfl⟩ : ∃ z, z = b1 := ⟨_, rfl⟩
        try dsimp only at h
        show zJ Γ 6 0 0 σ3 110 [(0, .ref l0), (1, .ref l1), (2, .int l2), (3, .int l3)] []
        refine zs_iinc (lv2 := fun v3 => [(3, .int v3), (0, .ref l0), (1, .ref l1), (2, .int l2)]) E dX6_fill_110 3 rfl (by decide) (by decide) (fun _ => rfl) h (fun v3 h => ?_)
        refine zj_goto (tgt := 26) E dX6_fill_113 (by decide) ?_
        have e9 := Option.some.inj h
        subst e9
        refine zj_lv [1, 2, 3, 0] rfl ?_
        exact K
      · refine zj_iconst (v := 0) E dX6_fill_54 (by decide) ?_
        have e9 := Option.some.inj h
        subst e9
        exact (show zRet Γ cX6_fill 6 0 0 (some (.int 0)) σ from K) _ _ dX6_fill_55
def gX6_fill (σ : zS) (p0 : Nat) (p1 : Nat) : Option (Int32 × zS) := oGI σ 4 p0 1 (fun x1 => oL ((1 : Int32) + ((4 : Int32) * x1)) (fun v1 => oGI σ 2 p1 1 (fun x2 => oGI σ 4 p0 2 (fun x3 => (if x2 = (v1 * x3) then oB (zloop zF (fun x => bX6_fill_26 p0 p1 v1 x.1 x.2) (0, σ)) (fun b2 => oS b2 (fun c1 => (fun σ4 => some (1, σ4)) c1) (fun r1 => some r1)) else some (0, σ))))))
def fX6_fill (σ : zS) (p0 : Nat) (p1 : Nat) : Option (Int32 × zS) := oC (gX6_fill σ p0 p1) (fun r s => oA (r = 0 ∨ r = 1) (some (r, s)))
set_option maxRecDepth 100000 in
theorem wX6_fill {Γ : zG} (E : zE Γ cX6_fill RX6 6 { frames := 4, cells := 0, slots := 0, locals := 101 }) (σ : zS) (p0 : Nat) (p1 : Nat) {R : (Int32 × zS)} (h : gX6_fill σ p0 p1 = some R) (K : zRet Γ cX6_fill 6 0 0 (some (.int R.1)) R.2) : zJ Γ 6 0 0 σ 0 [(0, .ref p0), (1, .ref p1)] [] := by
  unfold gX6_fill at h
  refine zj_iconst (v := 1) E dX6_fill_0 (by decide) ?_
  refine zj_iconst (v := 4) E dX6_fill_1 (by decide) ?_
  refine zj_aload_n E dX6_fill_2 rfl 0 rfl ?_
  refine zs_getIN E zc3 1 (by decide) (znf_17) rfl dX6_fill_3 h (fun x1 h => ?_)
  refine zj_imul E dX6_fill_6 ?_
  refine zj_iadd E dX6_fill_7 ?_
  refine zs_istore_n (lv2 := fun v1 => [(2, .int v1), (0, .ref p0), (1, .ref p1)]) E dX6_fill_8 rfl (by decide) (fun _ => rfl) h (fun v1 h => ?_)
  refine zj_aload_n E dX6_fill_9 rfl 2 rfl ?_
  refine zs_getIN E zc1 1 (by decide) (znf_3) rfl dX6_fill_10 h (fun x2 h => ?_)
  refine zj_iload_n E dX6_fill_13 rfl 0 rfl ?_
  refine zj_aload_n E dX6_fill_14 rfl 1 rfl ?_
  refine zs_getIN E zc3 2 (by decide) (znf_22) rfl dX6_fill_15 h (fun x3 h => ?_)
  refine zj_imul E dX6_fill_18 ?_
  refine zj_icmp_eq (tgt := 24) E dX6_fill_19 (by decide) h (fun h => ?_) (fun h => ?_)
  · refine zj_iconst (v := 0) E dX6_fill_24 (by decide) ?_
    refine zj_istore_n (lv2 := [(3, .int 0), (2, .int v1), (0, .ref p0), (1, .ref p1)]) E dX6_fill_25 rfl (by decide) rfl ?_
    obtain ⟨b2, hb2, h⟩ := oB_some h
    refine zj_lv [2, 3, 1, 0] rfl ?_
    refine zj_loop (wX6_fill_L26 E p0 p1 v1) zF (0, σ) b2 hb2 ?_
    cases b2 with
    | inr r1 =>
      have e9 := Option.some.inj h
      subst e9
      exact K
    | inl c1 =>
      obtain ⟨σ4, rfl⟩ : ∃ z, z = c1 := ⟨_, rfl⟩
      dsimp only [oS] at h
      show zJ Γ 6 0 0 σ4 116 [] []
      refine zj_iconst (v := 1) E dX6_fill_116 (by decide) ?_
      have e9 := Option.some.inj h
      subst e9
      exact (show zRet Γ cX6_fill 6 0 0 (some (.int 1)) σ4 from K) _ _ dX6_fill_117
  · refine zj_iconst (v := 0) E dX6_fill_22 (by decide) ?_
    have e9 := Option.some.inj h
    subst e9
    exact (show zRet Γ cX6_fill 6 0 0 (some (.int 0)) σ from K) _ _ dX6_fill_23
set_option maxRecDepth 100000 in
theorem kX6_fill (l : Launch) (D : va_G) (cs : zCs) (z0 : Nat) (σ : zS) {p0 : Nat} {p1 : Nat} {r : Int32} {σ' : zS} (h : fX6_fill σ p0 p1 = some (r, σ')) : zM l D cs z0 yX6_fill cX6_fill 6 (some .boolean) { frames := 4, cells := 0, slots := 0, locals := 101 } [.ref p0, .ref p1] σ (some (.int r)) σ' 0 0 := by
  obtain ⟨r0, s0, h0, h⟩ := oC_some h
  obtain ⟨hz, h⟩ := oA_some h
  cases h
  exact zM_of (by decide) rfl (Or.inr ⟨rfl, hz⟩) (Nat.le_of_ble_eq_true rfl) rfl (fun Γ e1 e2 e3 e4 E hN K => wX6_fill E σ _ _ h0 K)
