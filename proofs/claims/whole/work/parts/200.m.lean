/-! X0_init -/
def fX0_init (σ : zS) (p0 : Nat) (p1 : Nat) : Option zS := oPR σ 1 p0 0 p1 (fun σ1 => some σ1)
set_option maxRecDepth 100000 in
theorem wX0_init {Γ : zG} (E : zE Γ cX0_init RX0 2 { frames := 1, cells := 0, slots := 0, locals := 20 }) (hN : (zgt Γ).name = "<init>") (σ : zS) (p0 : Nat) (p1 : Nat) {R : zS} (h : fX0_init σ p0 p1 = some R) (K : zRet Γ cX0_init 2 0 0 (none) R) : zJ Γ 2 0 0 σ 0 [(0, .ref p0), (1, .ref p1)] [] := by
  unfold fX0_init at h
  refine zj_aload_n E dX0_init_0 rfl 0 rfl ?_
  refine zs_obj E zw_4_12 zw_1_11 zw_1_12 (by decide) (Nat.le_of_ble_eq_true rfl) dX0_init_1 ?_
  refine zj_aload_n E dX0_init_4 rfl 0 rfl ?_
  refine zj_aload_n E dX0_init_5 rfl 1 rfl ?_
  refine zs_putFR E zc0 hN 0 (by decide) zw_4_13 rfl rfl rfl dX0_init_6 h (fun σ1 h => ?_)
  have e9 := Option.some.inj h
  subst e9
  exact (show zRet Γ cX0_init 2 0 0 (none) σ1 from K) _ _ dX0_init_9
set_option maxRecDepth 100000 in
theorem kX0_init (l : Launch) (D : va_G) (cs : zCs) (z0 : Nat) (σ : zS) {p0 : Nat} {p1 : Nat}  {σ' : zS} (h : fX0_init σ p0 p1 = some σ') : zM l D cs z0 yX0_init cX0_init 2 none { frames := 1, cells := 0, slots := 0, locals := 20 } [.ref p0, .ref p1] σ none σ' 0 0 := by
  exact zM_of (by decide) rfl rfl (Nat.le_of_ble_eq_true rfl) rfl (fun Γ e1 e2 e3 e4 E hN K => wX0_init E hN σ _ _ h K)
/-! X0_take -/
def jX0_take_25 (Γ : zG) (l0 : Nat) (l1 : Int32) : (Int32 × Int32 × zS) → Prop := fun x => zJ Γ 4 0 0 x.2.2 25 [(0, .ref l0), (1, .int l1), (2, .int x.1), (3, .int x.2.1)] []
def eX0_take_25 (Γ : zG) (l0 : Nat) (l1 : Int32) : (Int32 × zS) → Prop := fun b => zJ Γ 4 0 0 b.2 75 [(2, .int b.1)] []
def bX0_take_25 (l0 : Nat) (l1 : Int32) (l2 : Int32) (l3 : Int32) (σ : zS) : Option ((Int32 × Int32 × zS) ⊕ (Int32 × zS)) := (if l1 ≤ l3 then some (.inr (l2, σ)) else oGR σ 1 l0 0 (fun a2 => oGR σ 2 a2 0 (fun a3 => oGI σ 1 l0 1 (fun x3 => oLd σ 20 a3 (x3 >>> ((3 : Int32) &&& 31)) (fun x4 => oGI σ 1 l0 1 (fun x5 => oL (l2 ||| (((x4 >>> ((x5 &&& (7 : Int32)) &&& 31)) &&& (1 : Int32)) <<< (l3 &&& 31))) (fun v1 => oGI σ 1 l0 1 (fun x6 => oPI σ 1 l0 1 (x6 + (1 : Int32)) (fun σ1 => oL (l3 + 1) (fun v2 => some (.inl (v1, v2, σ1))))))))))))
set_option maxRecDepth 100000 in
theorem wX0_take_L25 {Γ : zG} (E : zE Γ cX0_take RX0 4 { frames := 0, cells := 0, slots := 0, locals := 0 }) (l0 : Nat) (l1 : Int32) : ∀ x R, (fun x => bX0_take_25 l0 l1 x.1 x.2.1 x.2.2) x = some R → Sum.elim (jX0_take_25 Γ l0 l1) (eX0_take_25 Γ l0 l1) R → jX0_take_25 Γ l0 l1 x := by
  intro x R h K
  obtain ⟨l2, l3, σ⟩ := x
  have h : bX0_take_25 l0 l1 l2 l3 σ = some R := h
  show zJ Γ 4 0 0 σ 25 [(0, .ref l0), (1, .int l1), (2, .int l2), (3, .int l3)] []
  unfold bX0_take_25 at h
  refine zj_iload_n E dX0_take_25 rfl 3 rfl ?_
  refine zj_iload_n E dX0_take_26 rfl 1 rfl ?_
  refine zj_icmp_ge (tgt := 75) E dX0_take_27 (by decide) h (fun h => ?_) (fun h => ?_)
  · have e9 := Option.some.inj h
    subst e9
    refine zj_lv [2] rfl ?_
    exact K
  · refine zj_iload_n E dX0_take_30 rfl 2 rfl ?_
    refine zj_aload_n E dX0_take_31 rfl 0 rfl ?_
    refine zs_getR E zc0 0 (by decide) zw_4_13 rfl dX0_take_32 h (fun a2 h => ?_)
    refine zs_getRN E zc1 0 (by decide) (znf_0) rfl dX0_take_35 h (fun a3 h => ?_)
    refine zj_aload_n E dX0_take_38 rfl 0 rfl ?_
    refine zs_getI E zc0 1 (by decide) zw_10_9 rfl dX0_take_39 h (fun x3 h => ?_)
    refine zj_iconst (v := 3) E dX0_take_42 (by decide) ?_
    refine zj_ishr E dX0_take_43 ?_
    refine zs_bald E dX0_take_44 h (fun x4 h => ?_)
    refine zj_aload_n E dX0_take_45 rfl 0 rfl ?_
    refine zs_getI E zc0 1 (by decide) zw_10_9 rfl dX0_take_46 h (fun x5 h => ?_)
    refine zj_bipush (v := 7) E dX0_take_49 (by decide) ?_
    refine zj_iand E dX0_take_51 ?_
    refine zj_ishr E dX0_take_52 ?_
    refine zj_iconst (v := 1) E dX0_take_53 (by decide) ?_
    refine zj_iand E dX0_take_54 ?_
    refine zj_iload_n E dX0_take_55 rfl 3 rfl ?_
    refine zj_ishl E dX0_take_56 ?_
    refine zj_ior E dX0_take_57 ?_
    refine zs_istore_n (lv2 := fun v1 => [(2, .int v1), (0, .ref l0), (1, .int l1), (3, .int l3)]) E dX0_take_58 rfl (by decide) (fun _ => rfl) h (fun v1 h => ?_)
    refine zj_aload_n E dX0_take_59 rfl 1 rfl ?_
    refine zj_dup E dX0_take_60 rfl ?_
    refine zs_getI E zc0 1 (by decide) zw_10_9 rfl dX0_take_61 h (fun x6 h => ?_)
    refine zj_iconst (v := 1) E dX0_take_64 (by decide) ?_
    refine zj_iadd E dX0_take_65 ?_
    refine zs_putI E zc0 1 (by decide) zw_10_9 rfl rfl dX0_take_66 h (fun σ1 h => ?_)
    refine zs_iinc (lv2 := fun v2 => [(3, .int v2), (2, .int v1), (0, .ref l0), (1, .int l1)]) E dX0_take_69 3 rfl (by decide) (by decide) (fun _ => rfl) h (fun v2 h => ?_)
    refine zj_goto (tgt := 25) E dX0_take_72 (by decide) ?_
    have e9 := Option.some.inj h
    subst e9
    refine zj_lv [2, 3, 1, 0] rfl ?_
    exact K
def fX0_take (σ : zS) (p0 : Nat) (p1 : Int32) : Option (Int32 × zS) := oGR σ 1 p0 0 (fun a1 => oGI σ 2 a1 1 (fun x1 => oGI σ 1 p0 1 (fun x2 => (if p1 ≤ ((x1 * (8 : Int32)) - x2) then oB (zloop zF (fun x => bX0_take_25 p0 p1 x.1 x.2.1 x.2.2) (0, 0, σ)) (fun b1 => (fun v3 σ2 => some (v3, σ2)) b1.1 b1.2) else some ((-1 : Int32), σ)))))
set_option maxRecDepth 100000 in
theorem wX0_take {Γ : zG} (E : zE Γ cX0_take RX0 4 { frames := 0, cells := 0, slots := 0, locals := 0 }) (σ : zS) (p0 : Nat) (p1 : Int32) {R : (Int32 × zS)} (h : fX0_take σ p0 p1 = some R) (K : zRet Γ cX0_take 4 0 0 (some (.int R.1)) R.2) : zJ Γ 4 0 0 σ 0 [(0, .ref p0), (1, .int p1)] [] := by
  unfold fX0_take at h
  refine zj_iload_n E dX0_take_0 rfl 1 rfl ?_
  refine zj_aload_n E dX0_take_1 rfl 0 rfl ?_
  refine zs_getR E zc0 0 (by decide) zw_4_13 rfl dX0_take_2 h (fun a1 h => ?_)
  refine zs_getIN E zc1 1 (by decide) (znf_2) rfl dX0_take_5 h (fun x1 h => ?_)
  refine zj_bipush (v := 8) E dX0_take_8 (by decide) ?_
  refine zj_imul E dX0_take_10 ?_
  refine zj_aload_n E dX0_take_11 rfl 0 rfl ?_
  refine zs_getI E zc0 1 (by decide) zw_10_9 rfl dX0_take_12 h (fun x2 h => ?_)
  refine zj_isub E dX0_take_15 ?_
  refine zj_icmp_le (tgt := 21) E dX0_take_16 (by decide) h (fun h => ?_) (fun h => ?_)
  · refine zj_iconst (v := 0) E dX0_take_21 (by decide) ?_
    refine zj_istore_n (lv2 := [(2, .int 0), (0, .ref p0), (1, .int p1)]) E dX0_take_22 rfl (by decide) rfl ?_
    refine zj_iconst (v := 0) E dX0_take_23 (by decide) ?_
    refine zj_istore_n (lv2 := [(3, .int 0), (2, .int 0), (0, .ref p0), (1, .int p1)]) E dX0_take_24 rfl (by decide) rfl ?_
    obtain ⟨b1, hb1, h⟩ := oB_some h
    refine zj_lv [2, 3, 1, 0] rfl ?_
    refine zj_loop (wX0_take_L25 E p0 p1) zF (0, 0, σ) b1 hb1 ?_
    obtain ⟨v3, σ2⟩ := b1
    try dsimp only at h
    show zJ Γ 4 0 0 σ2 75 [(2, .int v3)] []
    refine zj_iload_n E dX0_take_75 rfl 0 rfl ?_
    have e9 := Option.some.inj h
    subst e9
    exact (show zRet Γ cX0_take 4 0 0 (some (.int v3)) σ2 from K) _ _ dX0_take_76
  · refine zj_iconst (v := (-1 : Int32)) E dX0_take_19 (by decide) ?_
    have e9 := Option.some.inj h
    subst e9
    exact (show zRet Γ cX0_take 4 0 0 (some (.int (-1 : Int32))) σ from K) _ _ dX0_take_20
set_option maxRecDepth 100000 in
theorem kX0_take (l : Launch) (D : va_G) (cs : zCs) (z0 : Nat) (σ : zS) {p0 : Nat} {p1 : Int32} {r : Int32} {σ' : zS} (h : fX0_take σ p0 p1 = some (r, σ')) : zM l D cs z0 yX0_take cX0_take 4 (some .int) { frames := 0, cells := 0, slots := 0, locals := 0 } [.ref p0, .int p1] σ (some (.int r)) σ' 0 0 := by
  exact zM_of (by decide) rfl (Or.inl rfl) (Nat.le_of_ble_eq_true rfl) rfl (fun Γ e1 e2 e3 e4 E hN K => wX0_take E σ _ _ h K)
/-! X0_symbol -/
def jX0_symbol_22 (Γ : zG) (l0 : Nat) (l1 : Nat) (l2 : Int32) : (Int32 × Int32 × Int32 × Int32 × zS) → Prop := fun x => zJ Γ 8 0 0 x.2.2.2.2 22 [(0, .ref l0), (1, .ref l1), (2, .int l2), (3, .int x.1), (4, .int x.2.1), (5, .int x.2.2.1), (6, .int x.2.2.2.1)] []
def eX0_symbol_22 (Γ : zG) (l0 : Nat) (l1 : Nat) (l2 : Int32) : (zS ⊕ (Int32 × zS)) → Prop := Sum.elim (fun b => zJ Γ 8 0 0 b 131 [] []) (fun r => zRet Γ cX0_symbol 8 0 0 (some (.int r.1)) r.2)
def bX0_symbol_22 (l0 : Nat) (l1 : Nat) (l2 : Int32) (l3 : Int32) (l4 : Int32) (l5 : Int32) (l6 : Int32) (σ : zS) : Option ((Int32 × Int32 × Int32 × Int32 × zS) ⊕ (zS ⊕ (Int32 × zS))) := (if (15 : Int32) < l6 then some (.inr (.inl σ)) else oGI σ 1 l0 1 (fun x2 => (if l2 ≤ x2 then some (.inr (.inl σ)) else oGR σ 1 l0 0 (fun a2 => oGR σ 2 a2 0 (fun a3 => oGI σ 1 l0 1 (fun x3 => oLd σ 20 a3 (x3 >>> ((3 : Int32) &&& 31)) (fun x4 => oGI σ 1 l0 1 (fun x5 => oL (l3 + ((x4 >>> ((x5 &&& (7 : Int32)) &&& 31)) &&& (1 : Int32))) (fun v2 => oGI σ 1 l0 1 (fun x6 => oPI σ 1 l0 1 (x6 + (1 : Int32)) (fun σ1 => oGR σ1 3 l1 0 (fun a4 => oLd σ1 21 a4 l6 (fun x7 => (if x7 ≤ (v2 - l4) then oL (l5 + x7) (fun v3 => oL ((l4 + x7) * (2 : Int32)) (fun v4 => oL (v2 * (2 : Int32)) (fun v5 => oL (l6 + 1) (fun v6 => some (.inl (v5, v4, v3, v6, σ1)))))) else oGR σ1 3 l1 2 (fun a5 => oLd σ1 21 a5 ((l5 + v2) - l4) (fun x8 => some (.inr (.inr (x8, σ1)))))))))))))))))))
set_option maxRecDepth 100000 in
theorem wX0_symbol_L22 {Γ : zG} (E : zE Γ cX0_symbol RX0 8 { frames := 0, cells := 0, slots := 0, locals := 0 }) (l0 : Nat) (l1 : Nat) (l2 : Int32) : ∀ x R, (fun x => bX0_symbol_22 l0 l1 l2 x.1 x.2.1 x.2.2.1 x.2.2.2.1 x.2.2.2.2) x = some R → Sum.elim (jX0_symbol_22 Γ l0 l1 l2) (eX0_symbol_22 Γ l0 l1 l2) R → jX0_symbol_22 Γ l0 l1 l2 x := by
  intro x R h K
  obtain ⟨l3, l4, l5, l6, σ⟩ := x
  have h : bX0_symbol_22 l0 l1 l2 l3 l4 l5 l6 σ = some R := h
  show zJ Γ 8 0 0 σ 22 [(0, .ref l0), (1, .ref l1), (2, .int l2), (3, .int l3), (4, .int l4), (5, .int l5), (6, .int l6)] []
  unfold bX0_symbol_22 at h
  refine zj_iload E dX0_symbol_22 6 rfl ?_
  refine zj_bipush (v := 15) E dX0_symbol_24 (by decide) ?_
  refine zj_icmp_gt (tgt := 131) E dX0_symbol_26 (by decide) h (fun h => ?_) (fun h => ?_)
  · have e9 := Option.some.inj h
    subst e9
    refine zj_lv [] rfl ?_
    exact K
  · refine zj_aload_n E dX0_symbol_29 rfl 0 rfl ?_
    refine zs_getI E zc0 1 (by decide) zw_10_9 rfl dX0_symbol_30 h (fun x2 h => ?_)
    refine zj_iload_n E dX0_symbol_33 rfl 2 rfl ?_
    refine zj_icmp_ge (tgt := 131) E dX0_symbol_34 (by decide) h (fun h => ?_) (fun h => ?_)
    · have e9 := Option.some.inj h
      subst e9
      refine zj_lv [] rfl ?_
      exact K
    · refine zj_iload_n E dX0_symbol_37 rfl 3 rfl ?_
      refine zj_aload_n E dX0_symbol_38 rfl 0 rfl ?_
      refine zs_getR E zc0 0 (by decide) zw_4_13 rfl dX0_symbol_39 h (fun a2 h => ?_)
      refine zs_getRN E zc1 0 (by decide) (znf_0) rfl dX0_symbol_42 h (fun a3 h => ?_)
      refine zj_aload_n E dX0_symbol_45 rfl 0 rfl ?_
      refine zs_getI E zc0 1 (by decide) zw_10_9 rfl dX0_symbol_46 h (fun x3 h => ?_)
      refine zj_iconst (v := 3) E dX0_symbol_49 (by decide) ?_
      refine zj_ishr E dX0_symbol_50 ?_
      refine zs_bald E dX0_symbol_51 h (fun x4 h => ?_)
      refine zj_aload_n E dX0_symbol_52 rfl 0 rfl ?_
      refine zs_getI E zc0 1 (by decide) zw_10_9 rfl dX0_symbol_53 h (fun x5 h => ?_)
      refine zj_bipush (v := 7) E dX0_symbol_56 (by decide) ?_
      refine zj_iand E dX0_symbol_58 ?_
      refine zj_ishr E dX0_symbol_59 ?_
      refine zj_iconst (v := 1) E dX0_symbol_60 (by decide) ?_
      refine zj_iand E dX0_symbol_61 ?_
      refine zj_iadd E dX0_symbol_62 ?_
      refine zs_istore_n (lv2 := fun v2 => [(3, .int v2), (0, .ref l0), (1, .ref l1), (2, .int l2), (4, .int l4), (5, .int l5), (6, .int l6)]) E dX0_symbol_63 rfl (by decide) (fun _ => rfl) h (fun v2 h => ?_)
      refine zj_aload_n E dX0_symbol_64 rfl 1 rfl ?_
      refine zj_dup E dX0_symbol_65 rfl ?_
      refine zs_getI E zc0 1 (by decide) zw_10_9 rfl dX0_symbol_66 h (fun x6 h => ?_)
      refine zj_iconst (v := 1) E dX0_symbol_69 (by decide) ?_
      refine zj_iadd E dX0_symbol_70 ?_
      refine zs_putI E zc0 1 (by decide) zw_10_9 rfl rfl dX0_symbol_71 h (fun σ1 h => ?_)
      refine zj_aload_n E dX0_symbol_74 rfl 2 rfl ?_
      refine zs_getRN E zc2 0 (by decide) (znf_9) rfl dX0_symbol_75 h (fun a4 h => ?_)
      refine zj_iload E dX0_symbol_78 6 rfl ?_
      refine zs_iald E dX0_symbol_80 h (fun x7 h => ?_)
      refine zj_istore (lv2 := [(7, .int x7), (3, .int v2), (0, .ref l0), (1, .ref l1), (2, .int l2), (4, .int l4), (5, .int l5), (6, .int l6)]) E dX0_symbol_81 (by decide) rfl ?_
      refine zj_iload_n E dX0_symbol_83 rfl 1 rfl ?_
      refine zj_iload E dX0_symbol_84 5 rfl ?_
      refine zj_isub E dX0_symbol_86 ?_
      refine zj_iload E dX0_symbol_87 0 rfl ?_
      refine zj_icmp_ge (tgt := 105) E dX0_symbol_89 (by decide) h (fun h => ?_) (fun h => ?_)
      · refine zj_iload E dX0_symbol_105 6 rfl ?_
        refine zj_iload E dX0_symbol_107 0 rfl ?_
        refine zj_iadd E dX0_symbol_109 ?_
        refine zs_istore (lv2 := fun v3 => [(5, .int v3), (7, .int x7), (3, .int v2), (0, .ref l0), (1, .ref l1), (2, .int l2), (4, .int l4), (6, .int l6)]) E dX0_symbol_110 (by decide) (fun _ => rfl) h (fun v3 h => ?_)
        refine zj_iload E dX0_symbol_112 6 rfl ?_
        refine zj_iload E dX0_symbol_114 1 rfl ?_
        refine zj_iadd E dX0_symbol_116 ?_
        refine zj_iconst (v := 2) E dX0_symbol_117 (by decide) ?_
        refine zj_imul E dX0_symbol_118 ?_
        refine zs_istore (lv2 := fun v4 => [(4, .int v4), (5, .int v3), (7, .int x7), (3, .int v2), (0, .ref l0), (1, .ref l1), (2, .int l2), (6, .int l6)]) E dX0_symbol_119 (by decide) (fun _ => rfl) h (fun v4 h => ?_)
        refine zj_iload_n E dX0_symbol_121 rfl 3 rfl ?_
        refine zj_iconst (v := 2) E dX0_symbol_122 (by decide) ?_
        refine zj_imul E dX0_symbol_123 ?_
        refine zs_istore_n (lv2 := fun v5 => [(3, .int v5), (4, .int v4), (5, .int v3), (7, .int x7), (0, .ref l0), (1, .ref l1), (2, .int l2), (6, .int l6)]) E dX0_symbol_124 rfl (by decide) (fun _ => rfl) h (fun v5 h => ?_)
        refine zs_iinc (lv2 := fun v6 => [(6, .int v6), (3, .int v5), (4, .int v4), (5, .int v3), (7, .int x7), (0, .ref l0), (1, .ref l1), (2, .int l2)]) E dX0_symbol_125 7 rfl (by decide) (by decide) (fun _ => rfl) h (fun v6 h => ?_)
        refine zj_goto (tgt := 22) E dX0_symbol_128 (by decide) ?_
        have e9 := Option.some.inj h
        subst e9
        refine zj_lv [5, 6, 7, 1, 2, 3, 0] rfl ?_
        exact K
      · refine zj_aload_n E dX0_symbol_92 rfl 3 rfl ?_
        refine zs_getRN E zc2 2 (by decide) (znf_10) rfl dX0_symbol_93 h (fun a5 h => ?_)
        refine zj_iload E dX0_symbol_96 6 rfl ?_
        refine zj_iload_n E dX0_symbol_98 rfl 1 rfl ?_
        refine zj_iadd E dX0_symbol_99 ?_
        refine zj_iload E dX0_symbol_100 5 rfl ?_
        refine zj_isub E dX0_symbol_102 ?_
        refine zs_iald E dX0_symbol_103 h (fun x8 h => ?_)
        have e9 := Option.some.inj h
        subst e9
        exact (show zRet Γ cX0_symbol 8 0 0 (some (.int x8)) σ1 from K) _ _ dX0_symbol_104
def fX0_symbol (σ : zS) (p0 : Nat) (p1 : Nat) : Option (Int32 × zS) := oGR σ 1 p0 0 (fun a1 => oGI σ 2 a1 1 (fun x1 => oL (x1 * (8 : Int32)) (fun v1 => oB (zloop zF (fun x => bX0_symbol_22 p0 p1 v1 x.1 x.2.1 x.2.2.1 x.2.2.2.1 x.2.2.2.2) (0, 0, 0, 1, σ)) (fun b1 => oS b1 (fun c1 => (fun σ2 => some ((-1 : Int32), σ2)) c1) (fun r1 => some r1)))))
set_option maxRecDepth 100000 in
theorem wX0_symbol {Γ : zG} (E : zE Γ cX0_symbol RX0 8 { frames := 0, cells := 0, slots := 0, locals := 0 }) (σ : zS) (p0 : Nat) (p1 : Nat) {R : (Int32 × zS)} (h : fX0_symbol σ p0 p1 = some R) (K : zRet Γ cX0_symbol 8 0 0 (some (.int R.1)) R.2) : zJ Γ 8 0 0 σ 0 [(0, .ref p0), (1, .ref p1)] [] := by
  unfold fX0_symbol at h
  refine zj_aload_n E dX0_symbol_0 rfl 0 rfl ?_
  refine zs_getR E zc0 0 (by decide) zw_4_13 rfl dX0_symbol_1 h (fun a1 h => ?_)
  refine zs_getIN E zc1 1 (by decide) (znf_2) rfl dX0_symbol_4 h (fun x1 h => ?_)
  refine zj_bipush (v := 8) E dX0_symbol_7 (by decide) ?_
  refine zj_imul E dX0_symbol_9 ?_
  refine zs_istore_n (lv2 := fun v1 => [(2, .int v1), (0, .ref p0), (1, .ref p1)]) E dX0_symbol_10 rfl (by decide) (fun _ => rfl) h (fun v1 h => ?_)
  refine zj_iconst (v := 0) E dX0_symbol_11 (by decide) ?_
  refine zj_istore_n (lv2 := [(3, .int 0), (2, .int v1), (0, .ref p0), (1, .ref p1)]) E dX0_symbol_12 rfl (by decide) rfl ?_
  refine zj_iconst (v := 0) E dX0_symbol_13 (by decide) ?_
  refine zj_istore (lv2 := [(4, .int 0), (3, .int 0), (2, .int v1), (0, .ref p0), (1, .ref p1)]) E dX0_symbol_14 (by decide) rfl ?_
  refine zj_iconst (v := 0) E dX0_symbol_16 (by decide) ?_
  refine zj_istore (lv2 := [(5, .int 0), (4, .int 0), (3, .int 0), (2, .int v1), (0, .ref p0), (1, .ref p1)]) E dX0_symbol_17 (by decide) rfl ?_
  refine zj_iconst (v := 1) E dX0_symbol_19 (by decide) ?_
  refine zj_istore (lv2 := [(6, .int 1), (5, .int 0), (4, .int 0), (3, .int 0), (2, .int v1), (0, .ref p0), (1, .ref p1)]) E dX0_symbol_20 (by decide) rfl ?_
  obtain ⟨b1, hb1, h⟩ := oB_some h
  refine zj_lv [5, 6, 4, 3, 2, 1, 0] rfl ?_
  refine zj_loop (wX0_symbol_L22 E p0 p1 v1) zF (0, 0, 0, 1, σ) b1 hb1 ?_
  cases b1 with
  | inr r1 =>
    have e9 := Option.some.inj h
    subst e9
    exact K
  | inl c1 =>
    obtain ⟨σ2, rfl⟩ : ∃ z, z = c1 := ⟨_, rfl⟩
    dsimp only [oS] at h
    show zJ Γ 8 0 0 σ2 131 [] []
    refine zj_iconst (v := (-1 : Int32)) E dX0_symbol_131 (by decide) ?_
    have e9 := Option.some.inj h
    subst e9
    exact (show zRet Γ cX0_symbol 8 0 0 (some (.int (-1 : Int32))) σ2 from K) _ _ dX0_symbol_132
set_option maxRecDepth 100000 in
theorem kX0_symbol (l : Launch) (D : va_G) (cs : zCs) (z0 : Nat) (σ : zS) {p0 : Nat} {p1 : Nat} {r : Int32} {σ' : zS} (h : fX0_symbol σ p0 p1 = some (r, σ')) : zM l D cs z0 yX0_symbol cX0_symbol 8 (some .int) { frames := 0, cells := 0, slots := 0, locals := 0 } [.ref p0, .ref p1] σ (some (.int r)) σ' 0 0 := by
  exact zM_of (by decide) rfl (Or.inl rfl) (Nat.le_of_ble_eq_true rfl) rfl (fun Γ e1 e2 e3 e4 E hN K => wX0_symbol E σ _ _ h K)
/-! X0_skipToByte -/
def fX0_skipToByte (σ : zS) (p0 : Nat) : Option zS := oGI σ 1 p0 1 (fun x1 => oPI σ 1 p0 1 (((x1 + (7 : Int32)) / (8 : Int32)) * (8 : Int32)) (fun σ1 => some σ1))
set_option maxRecDepth 100000 in
theorem wX0_skipToByte {Γ : zG} (E : zE Γ cX0_skipToByte RX0 1 { frames := 0, cells := 0, slots := 0, locals := 0 }) (σ : zS) (p0 : Nat) {R : zS} (h : fX0_skipToByte σ p0 = some R) (K : zRet Γ cX0_skipToByte 1 0 0 (none) R) : zJ Γ 1 0 0 σ 0 [(0, .ref p0)] [] := by
  unfold fX0_skipToByte at h
  refine zj_aload_n E dX0_skipToByte_0 rfl 0 rfl ?_
  refine zj_aload_n E dX0_skipToByte_1 rfl 0 rfl ?_
  refine zs_getI E zc0 1 (by decide) zw_10_9 rfl dX0_skipToByte_2 h (fun x1 h => ?_)
  refine zj_bipush (v := 7) E dX0_skipToByte_5 (by decide) ?_
  refine zj_iadd E dX0_skipToByte_7 ?_
  refine zj_bipush (v := 8) E dX0_skipToByte_8 (by decide) ?_
  refine zj_idiv E dX0_skipToByte_10 (by decide) ?_
  refine zj_bipush (v := 8) E dX0_skipToByte_11 (by decide) ?_
  refine zj_imul E dX0_skipToByte_13 ?_
  refine zs_putI E zc0 1 (by decide) zw_10_9 rfl rfl dX0_skipToByte_14 h (fun σ1 h => ?_)
  have e9 := Option.some.inj h
  subst e9
  exact (show zRet Γ cX0_skipToByte 1 0 0 (none) σ1 from K) _ _ dX0_skipToByte_17
set_option maxRecDepth 100000 in
theorem kX0_skipToByte (l : Launch) (D : va_G) (cs : zCs) (z0 : Nat) (σ : zS) {p0 : Nat}  {σ' : zS} (h : fX0_skipToByte σ p0 = some σ') : zM l D cs z0 yX0_skipToByte cX0_skipToByte 1 none { frames := 0, cells := 0, slots := 0, locals := 0 } [.ref p0] σ none σ' 0 0 := by
  exact zM_of (by decide) rfl rfl (Nat.le_of_ble_eq_true rfl) rfl (fun Γ e1 e2 e3 e4 E hN K => wX0_skipToByte E σ _ h K)
/-! X1_clear -/
def fX1_clear (σ : zS) (p0 : Nat) : Option zS := oPI σ 2 p0 1 0 (fun σ1 => some σ1)
set_option maxRecDepth 100000 in
theorem wX1_clear {Γ : zG} (E : zE Γ cX1_clear RX1 1 { frames := 0, cells := 0, slots := 0, locals := 0 }) (σ : zS) (p0 : Nat) {R : zS} (h : fX1_clear σ p0 = some R) (K : zRet Γ cX1_clear 1 0 0 (none) R) : zJ Γ 1 0 0 σ 0 [(0, .ref p0)] [] := by
  unfold fX1_clear at h
  refine zj_aload_n E dX1_clear_0 rfl 0 rfl ?_
  refine zj_iconst (v := 0) E dX1_clear_1 (by decide) ?_
  refine zs_putI E zc1 1 (by decide) zw_7_0 rfl rfl dX1_clear_2 h (fun σ1 h => ?_)
  have e9 := Option.some.inj h
  subst e9
  exact (show zRet Γ cX1_clear 1 0 0 (none) σ1 from K) _ _ dX1_clear_5
set_option maxRecDepth 100000 in
theorem kX1_clear (l : Launch) (D : va_G) (cs : zCs) (z0 : Nat) (σ : zS) {p0 : Nat}  {σ' : zS} (h : fX1_clear σ p0 = some σ') : zM l D cs z0 yX1_clear cX1_clear 1 none { frames := 0, cells := 0, slots := 0, locals := 0 } [.ref p0] σ none σ' 0 0 := by
  exact zM_of (by decide) rfl rfl (Nat.le_of_ble_eq_true rfl) rfl (fun Γ e1 e2 e3 e4 E hN K => wX1_clear E σ _ h K)
/-! X1_fits -/
def gX1_fits (σ : zS) (p0 : Nat) (p1 : Int32) : Option Int32 := oGR σ 2 p0 0 (fun a1 => oLn σ 20 a1 (fun x1 => oGI σ 2 p0 1 (fun x2 => (if (x1 - x2) < p1 then some 0 else some 1))))
def fX1_fits (σ : zS) (p0 : Nat) (p1 : Int32) : Option Int32 := oB (gX1_fits σ p0 p1) (fun r => oA (r = 0 ∨ r = 1) (some r))
set_option maxRecDepth 100000 in
theorem wX1_fits {Γ : zG} (E : zE Γ cX1_fits RX1 2 { frames := 0, cells := 0, slots := 0, locals := 0 }) (σ : zS) (p0 : Nat) (p1 : Int32) {R : Int32} (h : gX1_fits σ p0 p1 = some R) (K : zRet Γ cX1_fits 2 0 0 (some (.int R)) σ) : zJ Γ 2 0 0 σ 0 [(0, .ref p0), (1, .int p1)] [] := by
  unfold gX1_fits at h
  refine zj_iload_n E dX1_fits_0 rfl 1 rfl ?_
  refine zj_aload_n E dX1_fits_1 rfl 0 rfl ?_
  refine zs_getR E zc1 0 (by decide) zw_3_1 rfl dX1_fits_2 h (fun a1 h => ?_)
  refine zs_lenB E dX1_fits_5 h (fun x1 h => ?_)
  refine zj_aload_n E dX1_fits_6 rfl 0 rfl ?_
  refine zs_getI E zc1 1 (by decide) zw_7_0 rfl dX1_fits_7 h (fun x2 h => ?_)
  refine zj_isub E dX1_fits_10 ?_
  refine zj_icmp_gt (tgt := 18) E dX1_fits_11 (by decide) h (fun h => ?_) (fun h => ?_)
  · refine zj_iconst (v := 0) E dX1_fits_18 (by decide) ?_
    have e9 := Option.some.inj h
    subst e9
    exact (show zRet Γ cX1_fits 2 0 0 (some (.int 0)) σ from K) _ _ dX1_fits_19
  · refine zj_iconst (v := 1) E dX1_fits_14 (by decide) ?_
    refine zj_goto (tgt := 19) E dX1_fits_15 (by decide) ?_
    have e9 := Option.some.inj h
    subst e9
    exact (show zRet Γ cX1_fits 2 0 0 (some (.int 1)) σ from K) _ _ dX1_fits_19
set_option maxRecDepth 100000 in
theorem kX1_fits (l : Launch) (D : va_G) (cs : zCs) (z0 : Nat) (σ : zS) {p0 : Nat} {p1 : Int32} {r : Int32} (h : fX1_fits σ p0 p1 = some r) : zM l D cs z0 yX1_fits cX1_fits 2 (some .boolean) { frames := 0, cells := 0, slots := 0, locals := 0 } [.ref p0, .int p1] σ (some (.int r)) σ 0 0 := by
  obtain ⟨r0, h0, h⟩ := oB_some h
  obtain ⟨hz, h⟩ := oA_some h
  cases h
  exact zM_of (by decide) rfl (Or.inr ⟨rfl, hz⟩) (Nat.le_of_ble_eq_true rfl) rfl (fun Γ e1 e2 e3 e4 E hN K => wX1_fits E σ _ _ h0 K)
/-! X1_add -/
def fX1_add (σ : zS) (p0 : Nat) (p1 : Int32) : Option zS := oGI σ 2 p0 1 (fun x1 => oGR σ 2 p0 0 (fun a1 => oLn σ 20 a1 (fun x2 => (if x2 ≤ x1 then some σ else oGR σ 2 p0 0 (fun a2 => oGI σ 2 p0 1 (fun x3 => oSt σ 20 a2 x3 ((p1.toInt8.toInt32).toInt8.toInt32) (fun σ1 => oGI σ1 2 p0 1 (fun x4 => oPI σ1 2 p0 1 (x4 + (1 : Int32)) (fun σ2 => some σ2)))))))))
set_option maxRecDepth 100000 in
theorem wX1_add {Γ : zG} (E : zE Γ cX1_add RX1 2 { frames := 0, cells := 0, slots := 0, locals := 0 }) (σ : zS) (p0 : Nat) (p1 : Int32) {R : zS} (h : fX1_add σ p0 p1 = some R) (K : zRet Γ cX1_add 2 0 0 (none) R) : zJ Γ 2 0 0 σ 0 [(0, .ref p0), (1, .int p1)] [] := by
  unfold fX1_add at h
  refine zj_aload_n E dX1_add_0 rfl 0 rfl ?_
  refine zs_getI E zc1 1 (by decide) zw_7_0 rfl dX1_add_1 h (fun x1 h => ?_)
  refine zj_aload_n E dX1_add_4 rfl 0 rfl ?_
  refine zs_getR E zc1 0 (by decide) zw_3_1 rfl dX1_add_5 h (fun a1 h => ?_)
  refine zs_lenB E dX1_add_8 h (fun x2 h => ?_)
  refine zj_icmp_ge (tgt := 33) E dX1_add_9 (by decide) h (fun h => ?_) (fun h => ?_)
  · have e9 := Option.some.inj h
    subst e9
    exact (show zRet Γ cX1_add 2 0 0 (none) σ from K) _ _ dX1_add_33
  · refine zj_aload_n E dX1_add_12 rfl 0 rfl ?_
    refine zs_getR E zc1 0 (by decide) zw_3_1 rfl dX1_add_13 h (fun a2 h => ?_)
    refine zj_aload_n E dX1_add_16 rfl 0 rfl ?_
    refine zs_getI E zc1 1 (by decide) zw_7_0 rfl dX1_add_17 h (fun x3 h => ?_)
    refine zj_iload_n E dX1_add_20 rfl 1 rfl ?_
    refine zj_i2b E dX1_add_21 ?_
    refine zs_bast E dX1_add_22 h (fun σ1 h => ?_)
    refine zj_aload_n E dX1_add_23 rfl 0 rfl ?_
    refine zj_dup E dX1_add_24 rfl ?_
    refine zs_getI E zc1 1 (by decide) zw_7_0 rfl dX1_add_25 h (fun x4 h => ?_)
    refine zj_iconst (v := 1) E dX1_add_28 (by decide) ?_
    refine zj_iadd E dX1_add_29 ?_
    refine zs_putI E zc1 1 (by decide) zw_7_0 rfl rfl dX1_add_30 h (fun σ2 h => ?_)
    have e9 := Option.some.inj h
    subst e9
    exact (show zRet Γ cX1_add 2 0 0 (none) σ2 from K) _ _ dX1_add_33
set_option maxRecDepth 100000 in
theorem kX1_add (l : Launch) (D : va_G) (cs : zCs) (z0 : Nat) (σ : zS) {p0 : Nat} {p1 : Int32}  {σ' : zS} (h : fX1_add σ p0 p1 = some σ') : zM l D cs z0 yX1_add cX1_add 2 none { frames := 0, cells := 0, slots := 0, locals := 0 } [.ref p0, .int p1] σ none σ' 0 0 := by
  exact zM_of (by decide) rfl rfl (Nat.le_of_ble_eq_true rfl) rfl (fun Γ e1 e2 e3 e4 E hN K => wX1_add E σ _ _ h K)
/-! X1_addNumber -/
def fX1_addNumber (σ : zS) (p0 : Nat) (p1 : Int32) : Option zS := oA (zk σ p0 = 2) (oB (fX1_add σ p0 ((p1.toUInt32 >>> ((24 : Int32).toUInt32 &&& Int32.toUInt32 31)).toInt32)) (fun σ1 => oA (zk σ1 p0 = 2) (oB (fX1_add σ1 p0 ((p1.toUInt32 >>> ((16 : Int32).toUInt32 &&& Int32.toUInt32 31)).toInt32)) (fun σ2 => oA (zk σ2 p0 = 2) (oB (fX1_add σ2 p0 ((p1.toUInt32 >>> ((8 : Int32).toUInt32 &&& Int32.toUInt32 31)).toInt32)) (fun σ3 => oA (zk σ3 p0 = 2) (oB (fX1_add σ3 p0 p1) (fun σ4 => some σ4))))))))
set_option maxRecDepth 100000 in
theorem wX1_addNumber {Γ : zG} (E : zE Γ cX1_addNumber RX1 2 { frames := 1, cells := 0, slots := 0, locals := 21 }) (σ : zS) (p0 : Nat) (p1 : Int32) {R : zS} (h : fX1_addNumber σ p0 p1 = some R) (K : zRet Γ cX1_addNumber 2 0 0 (none) R) : zJ Γ 2 0 0 σ 0 [(0, .ref p0), (1, .int p1)] [] := by
  unfold fX1_addNumber at h
  refine zj_aload_n E dX1_addNumber_0 rfl 0 rfl ?_
  refine zj_iload_n E dX1_addNumber_1 rfl 1 rfl ?_
  refine zj_bipush (v := 24) E dX1_addNumber_2 (by decide) ?_
  refine zj_iushr E dX1_addNumber_4 ?_
  obtain ⟨hk, h⟩ := oA_some h
  obtain ⟨σ1, hc, h⟩ := oB_some h
  refine zs_callV (As := [.int ((p1.toUInt32 >>> ((24 : Int32).toUInt32 &&& Int32.toUInt32 31)).toInt32)]) (rest := []) E zc1 zyX1_add zw_7_18 (kX1_add _ _ _ _ _ hc) rfl rfl hk rfl ⟨by decide, by decide⟩ ⟨by decide, by decide⟩ (Nat.le_of_ble_eq_true rfl) dX1_addNumber_5 rfl (show zJ Γ 2 0 0 σ1 8 [(0, .ref p0), (1, .int p1)] [] from ?_)
  refine zj_aload_n E dX1_addNumber_8 rfl 0 rfl ?_
  refine zj_iload_n E dX1_addNumber_9 rfl 1 rfl ?_
  refine zj_bipush (v := 16) E dX1_addNumber_10 (by decide) ?_
  refine zj_iushr E dX1_addNumber_12 ?_
  obtain ⟨hk, h⟩ := oA_some h
  obtain ⟨σ2, hc, h⟩ := oB_some h
  refine zs_callV (As := [.int ((p1.toUInt32 >>> ((16 : Int32).toUInt32 &&& Int32.toUInt32 31)).toInt32)]) (rest := []) E zc1 zyX1_add zw_7_18 (kX1_add _ _ _ _ _ hc) rfl rfl hk rfl ⟨by decide, by decide⟩ ⟨by decide, by decide⟩ (Nat.le_of_ble_eq_true rfl) dX1_addNumber_13 rfl (show zJ Γ 2 0 0 σ2 16 [(0, .ref p0), (1, .int p1)] [] from ?_)
  refine zj_aload_n E dX1_addNumber_16 rfl 0 rfl ?_
  refine zj_iload_n E dX1_addNumber_17 rfl 1 rfl ?_
  refine zj_bipush (v := 8) E dX1_addNumber_18 (by decide) ?_
  refine zj_iushr E dX1_addNumber_20 ?_
  obtain ⟨hk, h⟩ := oA_some h
  obtain ⟨σ3, hc, h⟩ := oB_some h
  refine zs_callV (As := [.int ((p1.toUInt32 >>> ((8 : Int32).toUInt32 &&& Int32.toUInt32 31)).toInt32)]) (rest := []) E zc1 zyX1_add zw_7_18 (kX1_add _ _ _ _ _ hc) rfl rfl hk rfl ⟨by decide, by decide⟩ ⟨by decide, by decide⟩ (Nat.le_of_ble_eq_true rfl) dX1_addNumber_21 rfl (show zJ Γ 2 0 0 σ3 24 [(0, .ref p0), (1, .int p1)] [] from ?_)
  refine zj_aload_n E dX1_addNumber_24 rfl 0 rfl ?_
  refine zj_iload_n E dX1_addNumber_25 rfl 1 rfl ?_
  obtain ⟨hk, h⟩ := oA_some h
  obtain ⟨σ4, hc, h⟩ := oB_some h
  refine zs_callV (As := [.int p1]) (rest := []) E zc1 zyX1_add zw_7_18 (kX1_add _ _ _ _ _ hc) rfl rfl hk rfl ⟨by decide, by decide⟩ ⟨by decide, by decide⟩ (Nat.le_of_ble_eq_true rfl) dX1_addNumber_26 rfl (show zJ Γ 2 0 0 σ4 29 [(0, .ref p0), (1, .int p1)] [] from ?_)
  have e9 := Option.some.inj h
  subst e9
  exact (show zRet Γ cX1_addNumber 2 0 0 (none) σ4 from K) _ _ dX1_addNumber_29
set_option maxRecDepth 100000 in
theorem kX1_addNumber (l : Launch) (D : va_G) (cs : zCs) (z0 : Nat) (σ : zS) {p0 : Nat} {p1 : Int32}  {σ' : zS} (h : fX1_addNumber σ p0 p1 = some σ') : zM l D cs z0 yX1_addNumber cX1_addNumber 2 none { frames := 1, cells := 0, slots := 0, locals := 21 } [.ref p0, .int p1] σ none σ' 0 0 := by
  exact zM_of (by decide) rfl rfl (Nat.le_of_ble_eq_true rfl) rfl (fun Γ e1 e2 e3 e4 E hN K => wX1_addNumber E σ _ _ h K)
/-! X1_at -/
def fX1_at (σ : zS) (p0 : Nat) (p1 : Int32) : Option Int32 := (if p1 < 0 then some (-1 : Int32) else oGI σ 2 p0 1 (fun x1 => (if x1 ≤ p1 then some (-1 : Int32) else oGR σ 2 p0 0 (fun a1 => oLd σ 20 a1 p1 (fun x2 => some (x2 &&& (255 : Int32)))))))
set_option maxRecDepth 100000 in
theorem wX1_at {Γ : zG} (E : zE Γ cX1_at RX1 2 { frames := 0, cells := 0, slots := 0, locals := 0 }) (σ : zS) (p0 : Nat) (p1 : Int32) {R : Int32} (h : fX1_at σ p0 p1 = some R) (K : zRet Γ cX1_at 2 0 0 (some (.int R)) σ) : zJ Γ 2 0 0 σ 0 [(0, .ref p0), (1, .int p1)] [] := by
  unfold fX1_at at h
  refine zj_iload_n E dX1_at_0 rfl 1 rfl ?_
  refine zj_if_lt (tgt := 25) E dX1_at_1 (by decide) h (fun h => ?_) (fun h => ?_)
  · refine zj_iconst (v := (-1 : Int32)) E dX1_at_25 (by decide) ?_
    have e9 := Option.some.inj h
    subst e9
    exact (show zRet Γ cX1_at 2 0 0 (some (.int (-1 : Int32))) σ from K) _ _ dX1_at_26
  · refine zj_iload_n E dX1_at_4 rfl 1 rfl ?_
    refine zj_aload_n E dX1_at_5 rfl 0 rfl ?_
    refine zs_getI E zc1 1 (by decide) zw_7_0 rfl dX1_at_6 h (fun x1 h => ?_)
    refine zj_icmp_ge (tgt := 25) E dX1_at_9 (by decide) h (fun h => ?_) (fun h => ?_)
    · refine zj_iconst (v := (-1 : Int32)) E dX1_at_25 (by decide) ?_
      have e9 := Option.some.inj h
      subst e9
      exact (show zRet Γ cX1_at 2 0 0 (some (.int (-1 : Int32))) σ from K) _ _ dX1_at_26
    · refine zj_aload_n E dX1_at_12 rfl 0 rfl ?_
      refine zs_getR E zc1 0 (by decide) zw_3_1 rfl dX1_at_13 h (fun a1 h => ?_)
      refine zj_iload_n E dX1_at_16 rfl 1 rfl ?_
      refine zs_bald E dX1_at_17 h (fun x2 h => ?_)
      refine zj_sipush (v := 255) E dX1_at_18 (by decide) ?_
      refine zj_iand E dX1_at_21 ?_
      refine zj_goto (tgt := 26) E dX1_at_22 (by decide) ?_
      have e9 := Option.some.inj h
      subst e9
      exact (show zRet Γ cX1_at 2 0 0 (some (.int (x2 &&& (255 : Int32)))) σ from K) _ _ dX1_at_26
set_option maxRecDepth 100000 in
theorem kX1_at (l : Launch) (D : va_G) (cs : zCs) (z0 : Nat) (σ : zS) {p0 : Nat} {p1 : Int32} {r : Int32} (h : fX1_at σ p0 p1 = some r) : zM l D cs z0 yX1_at cX1_at 2 (some .int) { frames := 0, cells := 0, slots := 0, locals := 0 } [.ref p0, .int p1] σ (some (.int r)) σ 0 0 := by
  exact zM_of (by decide) rfl (Or.inl rfl) (Nat.le_of_ble_eq_true rfl) rfl (fun Γ e1 e2 e3 e4 E hN K => wX1_at E σ _ _ h K)
/-! X1_addPart -/
def jX1_addPart_3 (Γ : zG) (l0 : Nat) (l1 : Nat) (l3 : Int32) : (Int32 × zS) → Prop := fun x => zJ Γ 5 0 0 x.2 3 [(0, .ref l0), (1, .ref l1), (3, .int l3), (4, .int x.1)] []
def eX1_addPart_3 (Γ : zG) (l0 : Nat) (l1 : Nat) (l3 : Int32) : zS → Prop := fun b => zJ Γ 5 0 0 b 25 [] []
def bX1_addPart_3 (l0 : Nat) (l1 : Nat) (l3 : Int32) (l4 : Int32) (σ : zS) : Option ((Int32 × zS) ⊕ zS) := (if l3 ≤ l4 then some (.inr σ) else oA (zk σ l1 = 2) (oB (fX1_at σ l1 l4) (fun x1 => oA (zk σ l0 = 2) (oB (fX1_add σ l0 x1) (fun σ1 => oL (l4 + 1) (fun v1 => some (.inl (v1, σ1))))))))
set_option maxRecDepth 100000 in
theorem wX1_addPart_L3 {Γ : zG} (E : zE Γ cX1_addPart RX1 5 { frames := 1, cells := 0, slots := 0, locals := 21 }) (l0 : Nat) (l1 : Nat) (l3 : Int32) : ∀ x R, (fun x => bX1_addPart_3 l0 l1 l3 x.1 x.2) x = some R → Sum.elim (jX1_addPart_3 Γ l0 l1 l3) (eX1_addPart_3 Γ l0 l1 l3) R → jX1_addPart_3 Γ l0 l1 l3 x := by
  intro x R h K
  obtain ⟨l4, σ⟩ := x
  have h : bX1_addPart_3 l0 l1 l3 l4 σ = some R := h
  show zJ Γ 5 0 0 σ 3 [(0, .ref l0), (1, .ref l1), (3, .int l3), (4, .int l4)] []
  unfold bX1_addPart_3 at h
  refine zj_iload E dX1_addPart_3 3 rfl ?_
  refine zj_iload_n E dX1_addPart_5 rfl 2 rfl ?_
  refine zj_icmp_ge (tgt := 25) E dX1_addPart_6 (by decide) h (fun h => ?_) (fun h => ?_)
  · have e9 := Option.some.inj h
    subst e9
    refine zj_lv [] rfl ?_
    exact K
  · refine zj_aload_n E dX1_addPart_9 rfl 0 rfl ?_
    refine zj_aload_n E dX1_addPart_10 rfl 1 rfl ?_
    refine zj_iload E dX1_addPart_11 3 rfl ?_
    obtain ⟨hk, h⟩ := oA_some h
    obtain ⟨x1, hc, h⟩ := oB_some h
    refine zs_callV (As := [.int l4]) (rest := [.ref l0]) E zc1 zyX1_at zw_11_0 (kX1_at _ _ _ _ _ hc) rfl rfl hk rfl ⟨by decide, by decide⟩ ⟨by decide, by decide⟩ (Nat.le_of_ble_eq_true rfl) dX1_addPart_13 rfl (show zJ Γ 5 0 0 σ 16 [(0, .ref l0), (1, .ref l1), (3, .int l3), (4, .int l4)] [.int x1, .ref l0] from ?_)
    obtain ⟨hk, h⟩ := oA_some h
    obtain ⟨σ1, hc, h⟩ := oB_some h
    refine zs_callV (As := [.int x1]) (rest := []) E zc1 zyX1_add zw_7_18 (kX1_add _ _ _ _ _ hc) rfl rfl hk rfl ⟨by decide, by decide⟩ ⟨by decide, by decide⟩ (Nat.le_of_ble_eq_true rfl) dX1_addPart_16 rfl (show zJ Γ 5 0 0 σ1 19 [(0, .ref l0), (1, .ref l1), (3, .int l3), (4, .int l4)] [] from ?_)
    refine zs_iinc (lv2 := fun v1 => [(4, .int v1), (0, .ref l0), (1, .ref l1), (3, .int l3)]) E dX1_addPart_19 3 rfl (by decide) (by decide) (fun _ => rfl) h (fun v1 h => ?_)
    refine zj_goto (tgt := 3) E dX1_addPart_22 (by decide) ?_
    have e9 := Option.some.inj h
    subst e9
    refine zj_lv [1, 2, 3, 0] rfl ?_
    exact K
def fX1_addPart (σ : zS) (p0 : Nat) (p1 : Nat) (p2 : Int32) (p3 : Int32) : Option zS := oB (zloop zF (fun x => bX1_addPart_3 p0 p1 p3 x.1 x.2) (p2, σ)) (fun b1 => (fun σ2 => some σ2) b1)
set_option maxRecDepth 100000 in
theorem wX1_addPart {Γ : zG} (E : zE Γ cX1_addPart RX1 5 { frames := 1, cells := 0, slots := 0, locals := 21 }) (σ : zS) (p0 : Nat) (p1 : Nat) (p2 : Int32) (p3 : Int32) {R : zS} (h : fX1_addPart σ p0 p1 p2 p3 = some R) (K : zRet Γ cX1_addPart 5 0 0 (none) R) : zJ Γ 5 0 0 σ 0 [(0, .ref p0), (1, .ref p1), (2, .int p2), (3, .int p3)] [] := by
  unfold fX1_addPart at h
  refine zj_iload_n E dX1_addPart_0 rfl 2 rfl ?_
  refine zj_istore (lv2 := [(4, .int p2), (0, .ref p0), (1, .ref p1), (2, .int p2), (3, .int p3)]) E dX1_addPart_1 (by decide) rfl ?_
  obtain ⟨b1, hb1, h⟩ := oB_some h
  refine zj_lv [1, 2, 4, 0] rfl ?_
  refine zj_loop (wX1_addPart_L3 E p0 p1 p3) zF (p2, σ) b1 hb1 ?_
  obtain ⟨σ2, rfl⟩ : ∃ z, z = b1 := ⟨_, rfl⟩
  try dsimp only at h
  show zJ Γ 5 0 0 σ2 25 [] []
  have e9 := Option.some.inj h
  subst e9
  exact (show zRet Γ cX1_addPart 5 0 0 (none) σ2 from K) _ _ dX1_addPart_25
set_option maxRecDepth 100000 in
theorem kX1_addPart (l : Launch) (D : va_G) (cs : zCs) (z0 : Nat) (σ : zS) {p0 : Nat} {p1 : Nat} {p2 : Int32} {p3 : Int32}  {σ' : zS} (h : fX1_addPart σ p0 p1 p2 p3 = some σ') : zM l D cs z0 yX1_addPart cX1_addPart 5 none { frames := 1, cells := 0, slots := 0, locals := 21 } [.ref p0, .ref p1, .int p2, .int p3] σ none σ' 0 0 := by
  exact zM_of (by decide) rfl rfl (Nat.le_of_ble_eq_true rfl) rfl (fun Γ e1 e2 e3 e4 E hN K => wX1_addPart E σ _ _ _ _ h K)
/-! X1_number -/
def fX1_number (σ : zS) (p0 : Nat) (p1 : Int32) : Option Int32 := (if p1 < 0 then some (-1 : Int32) else oGI σ 2 p0 1 (fun x1 => (if p1 ≤ (x1 - (4 : Int32)) then oGR σ 2 p0 0 (fun a1 => oLd σ 20 a1 p1 (fun x2 => oGR σ 2 p0 0 (fun a2 => oLd σ 20 a2 (p1 + (1 : Int32)) (fun x3 => oGR σ 2 p0 0 (fun a3 => oLd σ 20 a3 (p1 + (2 : Int32)) (fun x4 => oGR σ 2 p0 0 (fun a4 => oLd σ 20 a4 (p1 + (3 : Int32)) (fun x5 => some (((((x2 &&& (255 : Int32)) <<< ((24 : Int32) &&& 31)) ||| ((x3 &&& (255 : Int32)) <<< ((16 : Int32) &&& 31))) ||| ((x4 &&& (255 : Int32)) <<< ((8 : Int32) &&& 31))) ||| (x5 &&& (255 : Int32))))))))))) else some (-1 : Int32))))
set_option maxRecDepth 100000 in
theorem wX1_number {Γ : zG} (E : zE Γ cX1_number RX1 2 { frames := 0, cells := 0, slots := 0, locals := 0 }) (σ : zS) (p0 : Nat) (p1 : Int32) {R : Int32} (h : fX1_number σ p0 p1 = some R) (K : zRet Γ cX1_number 2 0 0 (some (.int R)) σ) : zJ Γ 2 0 0 σ 0 [(0, .ref p0), (1, .int p1)] [] := by
  unfold fX1_number at h
  refine zj_iload_n E dX1_number_0 rfl 1 rfl ?_
  refine zj_if_lt (tgt := 14) E dX1_number_1 (by decide) h (fun h => ?_) (fun h => ?_)
  · refine zj_iconst (v := (-1 : Int32)) E dX1_number_14 (by decide) ?_
    have e9 := Option.some.inj h
    subst e9
    exact (show zRet Γ cX1_number 2 0 0 (some (.int (-1 : Int32))) σ from K) _ _ dX1_number_15
  · refine zj_iload_n E dX1_number_4 rfl 1 rfl ?_
    refine zj_aload_n E dX1_number_5 rfl 0 rfl ?_
    refine zs_getI E zc1 1 (by decide) zw_7_0 rfl dX1_number_6 h (fun x1 h => ?_)
    refine zj_iconst (v := 4) E dX1_number_9 (by decide) ?_
    refine zj_isub E dX1_number_10 ?_
    refine zj_icmp_le (tgt := 16) E dX1_number_11 (by decide) h (fun h => ?_) (fun h => ?_)
    · refine zj_aload_n E dX1_number_16 rfl 0 rfl ?_
      refine zs_getR E zc1 0 (by decide) zw_3_1 rfl dX1_number_17 h (fun a1 h => ?_)
      refine zj_iload_n E dX1_number_20 rfl 1 rfl ?_
      refine zs_bald E dX1_number_21 h (fun x2 h => ?_)
      refine zj_sipush (v := 255) E dX1_number_22 (by decide) ?_
      refine zj_iand E dX1_number_25 ?_
      refine zj_bipush (v := 24) E dX1_number_26 (by decide) ?_
      refine zj_ishl E dX1_number_28 ?_
      refine zj_aload_n E dX1_number_29 rfl 0 rfl ?_
      refine zs_getR E zc1 0 (by decide) zw_3_1 rfl dX1_number_30 h (fun a2 h => ?_)
      refine zj_iload_n E dX1_number_33 rfl 1 rfl ?_
      refine zj_iconst (v := 1) E dX1_number_34 (by decide) ?_
      refine zj_iadd E dX1_number_35 ?_
      refine zs_bald E dX1_number_36 h (fun x3 h => ?_)
      refine zj_sipush (v := 255) E dX1_number_37 (by decide) ?_
      refine zj_iand E dX1_number_40 ?_
      refine zj_bipush (v := 16) E dX1_number_41 (by decide) ?_
      refine zj_ishl E dX1_number_43 ?_
      refine zj_ior E dX1_number_44 ?_
      refine zj_aload_n E dX1_number_45 rfl 0 rfl ?_
      refine zs_getR E zc1 0 (by decide) zw_3_1 rfl dX1_number_46 h (fun a3 h => ?_)
      refine zj_iload_n E dX1_number_49 rfl 1 rfl ?_
      refine zj_iconst (v := 2) E dX1_number_50 (by decide) ?_
      refine zj_iadd E dX1_number_51 ?_
      refine zs_bald E dX1_number_52 h (fun x4 h => ?_)
      refine zj_sipush (v := 255) E dX1_number_53 (by decide) ?_
      refine zj_iand E dX1_number_56 ?_
      refine zj_bipush (v := 8) E dX1_number_57 (by decide) ?_
      refine zj_ishl E dX1_number_59 ?_
      refine zj_ior E dX1_number_60 ?_
      refine zj_aload_n E dX1_number_61 rfl 0 rfl ?_
      refine zs_getR E zc1 0 (by decide) zw_3_1 rfl dX1_number_62 h (fun a4 h => ?_)
      refine zj_iload_n E dX1_number_65 rfl 1 rfl ?_
      refine zj_iconst (v := 3) E dX1_number_66 (by decide) ?_
      refine zj_iadd E dX1_number_67 ?_
      refine zs_bald E dX1_number_68 h (fun x5 h => ?_)
      refine zj_sipush (v := 255) E dX1_number_69 (by decide) ?_
      refine zj_iand E dX1_number_72 ?_
      refine zj_ior E dX1_number_73 ?_
      have e9 := Option.some.inj h
      subst e9
      exact (show zRet Γ cX1_number 2 0 0 (some (.int (((((x2 &&& (255 : Int32)) <<< ((24 : Int32) &&& 31)) ||| ((x3 &&& (255 : Int32)) <<< ((16 : Int32) &&& 31))) ||| ((x4 &&& (255 : Int32)) <<< ((8 : Int32) &&& 31))) ||| (x5 &&& (255 : Int32))))) σ from K) _ _ dX1_number_74
    · refine zj_iconst (v := (-1 : Int32)) E dX1_number_14 (by decide) ?_
      have e9 := Option.some.inj h
      subst e9
      exact (show zRet Γ cX1_number 2 0 0 (some (.int (-1 : Int32))) σ from K) _ _ dX1_number_15
set_option maxRecDepth 100000 in
theorem kX1_number (l : Launch) (D : va_G) (cs : zCs) (z0 : Nat) (σ : zS) {p0 : Nat} {p1 : Int32} {r : Int32} (h : fX1_number σ p0 p1 = some r) : zM l D cs z0 yX1_number cX1_number 2 (some .int) { frames := 0, cells := 0, slots := 0, locals := 0 } [.ref p0, .int p1] σ (some (.int r)) σ 0 0 := by
  exact zM_of (by decide) rfl (Or.inl rfl) (Nat.le_of_ble_eq_true rfl) rfl (fun Γ e1 e2 e3 e4 E hN K => wX1_number E σ _ _ h K)
/-! X2_init -/
def fX2_init (σ : zS) (p0 : Nat) : Option zS := oNa σ 21 16 (fun a1 σ1 => oPR σ1 3 p0 0 a1 (fun σ2 => oNa σ2 21 17 (fun a2 σ3 => oPR σ3 3 p0 1 a2 (fun σ4 => oNa σ4 21 288 (fun a3 σ5 => oPR σ5 3 p0 2 a3 (fun σ6 => some σ6))))))
set_option maxRecDepth 100000 in
theorem wX2_init {Γ : zG} (E : zE Γ cX2_init RX2 1 { frames := 1, cells := 3, slots := 321, locals := 20 }) (hN : (zgt Γ).name = "<init>") (σ : zS) (p0 : Nat) {R : zS} (h : fX2_init σ p0 = some R) (K : zRet Γ cX2_init 1 3 321 (none) R) : zJ Γ 1 0 0 σ 0 [(0, .ref p0)] [] := by
  unfold fX2_init at h
  refine zj_aload_n E dX2_init_0 rfl 0 rfl ?_
  refine zs_obj E zw_4_16 zw_1_11 zw_1_12 (by decide) (Nat.le_of_ble_eq_true rfl) dX2_init_1 ?_
  refine zj_aload_n E dX2_init_4 rfl 0 rfl ?_
  refine zj_bipush (v := 16) E dX2_init_5 (by decide) ?_
  refine zt_newI (N := 16) E zw_2_17 (by decide) ⟨by decide, by decide⟩ dX2_init_7 h (fun a1 σ1 h => ?_)
  show zJ Γ 1 1 16 σ1 9 [(0, .ref p0)] [.ref a1, .ref p0]
  refine zs_putFR E zc2 hN 0 (by decide) zw_4_17 rfl rfl rfl dX2_init_9 h (fun σ2 h => ?_)
  refine zj_aload_n E dX2_init_12 rfl 0 rfl ?_
  refine zj_bipush (v := 17) E dX2_init_13 (by decide) ?_
  refine zt_newI (N := 17) E zw_2_17 (by decide) ⟨by decide, by decide⟩ dX2_init_15 h (fun a2 σ3 h => ?_)
  show zJ Γ 1 2 33 σ3 17 [(0, .ref p0)] [.ref a2, .ref p0]
  refine zs_putFR E zc2 hN 1 (by decide) zw_4_18 rfl rfl rfl dX2_init_17 h (fun σ4 h => ?_)
  refine zj_aload_n E dX2_init_20 rfl 0 rfl ?_
  refine zj_sipush (v := 288) E dX2_init_21 (by decide) ?_
  refine zt_newI (N := 288) E zw_2_17 (by decide) ⟨by decide, by decide⟩ dX2_init_24 h (fun a3 σ5 h => ?_)
  show zJ Γ 1 3 321 σ5 26 [(0, .ref p0)] [.ref a3, .ref p0]
  refine zs_putFR E zc2 hN 2 (by decide) zw_4_19 rfl rfl rfl dX2_init_26 h (fun σ6 h => ?_)
  have e9 := Option.some.inj h
  subst e9
  exact (show zRet Γ cX2_init 1 3 321 (none) σ6 from K) _ _ dX2_init_29
set_option maxRecDepth 100000 in
theorem kX2_init (l : Launch) (D : va_G) (cs : zCs) (z0 : Nat) (σ : zS) {p0 : Nat}  {σ' : zS} (h : fX2_init σ p0 = some σ') : zM l D cs z0 yX2_init cX2_init 1 none { frames := 1, cells := 3, slots := 321, locals := 20 } [.ref p0] σ none σ' 3 321 := by
  exact zM_of (by decide) rfl rfl (Nat.le_of_ble_eq_true rfl) rfl (fun Γ e1 e2 e3 e4 E hN K => wX2_init E hN σ _ h K)
/-! J7_fill_53178 -/
def jJ7_fill_53178_5 (Γ : zG) (l0 : Nat) (l1 : Int32) (l3 : Int32) : (Int32 × zS) → Prop := fun x => zJ Γ 4 0 0 x.2 5 [(0, .ref l0), (1, .int l1), (3, .int l3), (2, .int x.1)] []
def eJ7_fill_53178_5 (Γ : zG) (l0 : Nat) (l1 : Int32) (l3 : Int32) : zS → Prop := fun b => zJ Γ 4 0 0 b 20 [] []
def bJ7_fill_53178_5 (l0 : Nat) (l1 : Int32) (l3 : Int32) (l2 : Int32) (σ : zS) : Option ((Int32 × zS) ⊕ zS) := (if l3 ≤ l2 then some (.inr σ) else oSt σ 21 l0 l2 l1 (fun σ1 => oL (l2 + 1) (fun v1 => some (.inl (v1, σ1)))))
set_option maxRecDepth 100000 in
theorem wJ7_fill_53178_L5 {Γ : zG} (E : zE Γ cJ7_fill_53178 RJ7 4 { frames := 0, cells := 0, slots := 0, locals := 0 }) (l0 : Nat) (l1 : Int32) (l3 : Int32) : ∀ x R, (fun x => bJ7_fill_53178_5 l0 l1 l3 x.1 x.2) x = some R → Sum.elim (jJ7_fill_53178_5 Γ l0 l1 l3) (eJ7_fill_53178_5 Γ l0 l1 l3) R → jJ7_fill_53178_5 Γ l0 l1 l3 x := by
  intro x R h K
  obtain ⟨l2, σ⟩ := x
  have h : bJ7_fill_53178_5 l0 l1 l3 l2 σ = some R := h
  show zJ Γ 4 0 0 σ 5 [(0, .ref l0), (1, .int l1), (3, .int l3), (2, .int l2)] []
  unfold bJ7_fill_53178_5 at h
  refine zj_iload_n E dJ7_fill_53178_5 rfl 3 rfl ?_
  refine zj_iload_n E dJ7_fill_53178_6 rfl 2 rfl ?_
  refine zj_icmp_ge (tgt := 20) E dJ7_fill_53178_7 (by decide) h (fun h => ?_) (fun h => ?_)
  · have e9 := Option.some.inj h
    subst e9
    refine zj_lv [] rfl ?_
    exact K
  · refine zj_aload_n E dJ7_fill_53178_10 rfl 0 rfl ?_
    refine zj_iload_n E dJ7_fill_53178_11 rfl 3 rfl ?_
    refine zj_iload_n E dJ7_fill_53178_12 rfl 1 rfl ?_
    refine zs_iast E dJ7_fill_53178_13 h (fun σ1 h => ?_)
    refine zs_iinc (lv2 := fun v1 => [(2, .int v1), (0, .ref l0), (1, .int l1), (3, .int l3)]) E dJ7_fill_53178_14 3 rfl (by decide) (by decide) (fun _ => rfl) h (fun v1 h => ?_)
    refine zj_goto (tgt := 5) E dJ7_fill_53178_17 (by decide) ?_
    have e9 := Option.some.inj h
    subst e9
    refine zj_lv [1, 2, 3, 0] rfl ?_
    exact K
def fJ7_fill_53178 (σ : zS) (p0 : Nat) (p1 : Int32) : Option zS := oLn σ 21 p0 (fun x1 => oB (zloop zF (fun x => bJ7_fill_53178_5 p0 p1 x1 x.1 x.2) (0, σ)) (fun b1 => (fun σ2 => some σ2) b1))
set_option maxRecDepth 100000 in
theorem wJ7_fill_53178 {Γ : zG} (E : zE Γ cJ7_fill_53178 RJ7 4 { frames := 0, cells := 0, slots := 0, locals := 0 }) (σ : zS) (p0 : Nat) (p1 : Int32) {R : zS} (h : fJ7_fill_53178 σ p0 p1 = some R) (K : zRet Γ cJ7_fill_53178 4 0 0 (none) R) : zJ Γ 4 0 0 σ 0 [(0, .ref p0), (1, .int p1)] [] := by
  unfold fJ7_fill_53178 at h
  refine zj_iconst (v := 0) E dJ7_fill_53178_0 (by decide) ?_
  refine zj_istore_n (lv2 := [(2, .int 0), (0, .ref p0), (1, .int p1)]) E dJ7_fill_53178_1 rfl (by decide) rfl ?_
  refine zj_aload_n E dJ7_fill_53178_2 rfl 1 rfl ?_
  refine zs_lenI E dJ7_fill_53178_3 h (fun x1 h => ?_)
  refine zj_istore_n (lv2 := [(3, .int x1), (2, .int 0), (0, .ref p0), (1, .int p1)]) E dJ7_fill_53178_4 rfl (by decide) rfl ?_
  obtain ⟨b1, hb1, h⟩ := oB_some h
  refine zj_lv [2, 3, 0, 1] rfl ?_
  refine zj_loop (wJ7_fill_53178_L5 E p0 p1 x1) zF (0, σ) b1 hb1 ?_
  obtain ⟨σ2, rfl⟩ : ∃ z, z = b1 := ⟨_, rfl⟩
  try dsimp only at h
  show zJ Γ 4 0 0 σ2 20 [] []
  have e9 := Option.some.inj h
  subst e9
  exact (show zRet Γ cJ7_fill_53178 4 0 0 (none) σ2 from K) _ _ dJ7_fill_53178_20
set_option maxRecDepth 100000 in
theorem kJ7_fill_53178 (l : Launch) (D : va_G) (cs : zCs) (z0 : Nat) (σ : zS) {p0 : Nat} {p1 : Int32}  {σ' : zS} (h : fJ7_fill_53178 σ p0 p1 = some σ') : zM l D cs z0 yJ7_fill_53178 cJ7_fill_53178 4 none { frames := 0, cells := 0, slots := 0, locals := 0 } [.ref p0, .int p1] σ none σ' 0 0 := by
  exact zM_of (by decide) rfl rfl (Nat.le_of_ble_eq_true rfl) rfl (fun Γ e1 e2 e3 e4 E hN K => wJ7_fill_53178 E σ _ _ h K)
/-! X2_build -/
def jX2_build_11 (Γ : zG) (l0 : Nat) (l1 : Nat) (l2 : Int32) (l3 : Int32) : (Int32 × zS) → Prop := fun x => zJ Γ 7 0 0 x.2 11 [(0, .ref l0), (1, .ref l1), (2, .int l2), (3, .int l3), (4, .int x.1)] []
def eX2_build_11 (Γ : zG) (l0 : Nat) (l1 : Nat) (l2 : Int32) (l3 : Int32) : zS → Prop := fun b => zJ Γ 7 0 0 b 38 [(0, .ref l0), (1, .ref l1), (2, .int l2), (3, .int l3)] []
def bX2_build_11 (l0 : Nat) (l1 : Nat) (l2 : Int32) (l3 : Int32) (l4 : Int32) (σ : zS) : Option ((Int32 × zS) ⊕ zS) := (if l3 ≤ l4 then some (.inr σ) else oGR σ 3 l0 0 (fun a2 => oLd σ 21 l1 (l2 + l4) (fun x1 => oLd σ 21 a2 x1 (fun x2 => oSt σ 21 a2 x1 (x2 + (1 : Int32)) (fun σ2 => oL (l4 + 1) (fun v1 => some (.inl (v1, σ2))))))))
set_option maxRecDepth 100000 in
theorem wX2_build_L11 {Γ : zG} (E : zE Γ cX2_build RX2 7 { frames := 1, cells := 0, slots := 0, locals := 23 }) (l0 : Nat) (l1 : Nat) (l2 : Int32) (l3 : Int32) : ∀ x R, (fun x => bX2_build_11 l0 l1 l2 l3 x.1 x.2) x = some R → Sum.elim (jX2_build_11 Γ l0 l1 l2 l3) (eX2_build_11 Γ l0 l1 l2 l3) R → jX2_build_11 Γ l0 l1 l2 l3 x := by
  intro x R h K
  obtain ⟨l4, σ⟩ := x
  have h : bX2_build_11 l0 l1 l2 l3 l4 σ = some R := h
  show zJ Γ 7 0 0 σ 11 [(0, .ref l0), (1, .ref l1), (2, .int l2), (3, .int l3), (4, .int l4)] []
  unfold bX2_build_11 at h
  refine zj_iload E dX2_build_11 4 rfl ?_
  refine zj_iload_n E dX2_build_13 rfl 3 rfl ?_
  refine zj_icmp_ge (tgt := 38) E dX2_build_14 (by decide) h (fun h => ?_) (fun h => ?_)
  · have e9 := Option.some.inj h
    subst e9
    refine zj_lv [0, 1, 2, 3] rfl ?_
    exact K
  · refine zj_aload_n E dX2_build_17 rfl 0 rfl ?_
    refine zs_getR E zc2 0 (by decide) zw_4_17 rfl dX2_build_18 h (fun a2 h => ?_)
    refine zj_aload_n E dX2_build_21 rfl 1 rfl ?_
    refine zj_iload_n E dX2_build_22 rfl 2 rfl ?_
    refine zj_iload E dX2_build_23 4 rfl ?_
    refine zj_iadd E dX2_build_25 ?_
    refine zs_iald E dX2_build_26 h (fun x1 h => ?_)
    refine zj_dup2 E dX2_build_27 rfl rfl ?_
    refine zs_iald E dX2_build_28 h (fun x2 h => ?_)
    refine zj_iconst (v := 1) E dX2_build_29 (by decide) ?_
    refine zj_iadd E dX2_build_30 ?_
    refine zs_iast E dX2_build_31 h (fun σ2 h => ?_)
    refine zs_iinc (lv2 := fun v1 => [(4, .int v1), (0, .ref l0), (1, .ref l1), (2, .int l2), (3, .int l3)]) E dX2_build_32 4 rfl (by decide) (by decide) (fun _ => rfl) h (fun v1 h => ?_)
    refine zj_goto (tgt := 11) E dX2_build_35 (by decide) ?_
    have e9 := Option.some.inj h
    subst e9
    refine zj_lv [1, 2, 3, 4, 0] rfl ?_
    exact K
def jX2_build_63 (Γ : zG) (l0 : Nat) (l1 : Nat) (l2 : Int32) (l3 : Int32) : (Int32 × Int32 × zS) → Prop := fun x => zJ Γ 7 0 0 x.2.2 63 [(0, .ref l0), (1, .ref l1), (2, .int l2), (3, .int l3), (4, .int x.1), (5, .int x.2.1)] []
def eX2_build_63 (Γ : zG) (l0 : Nat) (l1 : Nat) (l2 : Int32) (l3 : Int32) : ((Int32 × zS) ⊕ (Int32 × zS)) → Prop := Sum.elim (fun b => zJ Γ 7 0 0 b.2 121 [(0, .ref l0), (1, .ref l1), (2, .int l2), (3, .int l3), (4, .int b.1)] []) (fun r => zRet Γ cX2_build 7 0 0 (some (.int r.1)) r.2)
def bX2_build_63 (l0 : Nat) (l1 : Nat) (l2 : Int32) (l3 : Int32) (l4 : Int32) (l5 : Int32) (σ : zS) : Option ((Int32 × Int32 × zS) ⊕ ((Int32 × zS) ⊕ (Int32 × zS))) := (if (15 : Int32) < l5 then some (.inr (.inl (l4, σ))) else oGR σ 3 l0 0 (fun a5 => oLd σ 21 a5 l5 (fun x4 => oL ((l4 * (2 : Int32)) - x4) (fun v2 => (if 0 ≤ v2 then oGR σ 3 l0 1 (fun a6 => oGR σ 3 l0 1 (fun a7 => oLd σ 21 a7 l5 (fun x5 => oGR σ 3 l0 0 (fun a8 => oLd σ 21 a8 l5 (fun x6 => oSt σ 21 a6 (l5 + (1 : Int32)) (x5 + x6) (fun σ6 => oL (l5 + 1) (fun v3 => some (.inl (v2, v3, σ6))))))))) else some (.inr (.inr ((-1 : Int32), σ))))))))
set_option maxRecDepth 100000 in
theorem wX2_build_L63 {Γ : zG} (E : zE Γ cX2_build RX2 7 { frames := 1, cells := 0, slots := 0, locals := 23 }) (l0 : Nat) (l1 : Nat) (l2 : Int32) (l3 : Int32) : ∀ x R, (fun x => bX2_build_63 l0 l1 l2 l3 x.1 x.2.1 x.2.2) x = some R → Sum.elim (jX2_build_63 Γ l0 l1 l2 l3) (eX2_build_63 Γ l0 l1 l2 l3) R → jX2_build_63 Γ l0 l1 l2 l3 x := by
  intro x R h K
  obtain ⟨l4, l5, σ⟩ := x
  have h : bX2_build_63 l0 l1 l2 l3 l4 l5 σ = some R := h
  show zJ Γ 7 0 0 σ 63 [(0, .ref l0), (1, .ref l1), (2, .int l2), (3, .int l3), (4, .int l4), (5, .int l5)] []
  unfold bX2_build_63 at h
  refine zj_iload E dX2_build_63 5 rfl ?_
  refine zj_bipush (v := 15) E dX2_build_65 (by decide) ?_
  refine zj_icmp_gt (tgt := 121) E dX2_build_67 (by decide) h (fun h => ?_) (fun h => ?_)
  · have e9 := Option.some.inj h
    subst e9
    refine zj_lv [0, 1, 2, 3, 4] rfl ?_
    exact K
  · refine zj_iload E dX2_build_70 4 rfl ?_
    refine zj_iconst (v := 2) E dX2_build_72 (by decide) ?_
    refine zj_imul E dX2_build_73 ?_
    refine zj_aload_n E dX2_build_74 rfl 0 rfl ?_
    refine zs_getR E zc2 0 (by decide) zw_4_17 rfl dX2_build_75 h (fun a5 h => ?_)
    refine zj_iload E dX2_build_78 5 rfl ?_
    refine zs_iald E dX2_build_80 h (fun x4 h => ?_)
    refine zj_isub E dX2_build_81 ?_
    refine zs_istore (lv2 := fun v2 => [(4, .int v2), (0, .ref l0), (1, .ref l1), (2, .int l2), (3, .int l3), (5, .int l5)]) E dX2_build_82 (by decide) (fun _ => rfl) h (fun v2 h => ?_)
    refine zj_iload E dX2_build_84 0 rfl ?_
    refine zj_if_ge (tgt := 91) E dX2_build_86 (by decide) h (fun h => ?_) (fun h => ?_)
    · refine zj_aload_n E dX2_build_91 rfl 1 rfl ?_
      refine zs_getR E zc2 1 (by decide) zw_4_18 rfl dX2_build_92 h (fun a6 h => ?_)
      refine zj_iload E dX2_build_95 5 rfl ?_
      refine zj_iconst (v := 1) E dX2_build_97 (by decide) ?_
      refine zj_iadd E dX2_build_98 ?_
      refine zj_aload_n E dX2_build_99 rfl 1 rfl ?_
      refine zs_getR E zc2 1 (by decide) zw_4_18 rfl dX2_build_100 h (fun a7 h => ?_)
      refine zj_iload E dX2_build_103 5 rfl ?_
      refine zs_iald E dX2_build_105 h (fun x5 h => ?_)
      refine zj_aload_n E dX2_build_106 rfl 1 rfl ?_
      refine zs_getR E zc2 0 (by decide) zw_4_17 rfl dX2_build_107 h (fun a8 h => ?_)
      refine zj_iload E dX2_build_110 5 rfl ?_
      refine zs_iald E dX2_build_112 h (fun x6 h => ?_)
      refine zj_iadd E dX2_build_113 ?_
      refine zs_iast E dX2_build_114 h (fun σ6 h => ?_)
      refine zs_iinc (lv2 := fun v3 => [(5, .int v3), (4, .int v2), (0, .ref l0), (1, .ref l1), (2, .int l2), (3, .int l3)]) E dX2_build_115 5 rfl (by decide) (by decide) (fun _ => rfl) h (fun v3 h => ?_)
      refine zj_goto (tgt := 63) E dX2_build_118 (by decide) ?_
      have e9 := Option.some.inj h
      subst e9
      refine zj_lv [2, 3, 4, 5, 1, 0] rfl ?_
      exact K
    · refine zj_iconst (v := (-1 : Int32)) E dX2_build_89 (by decide) ?_
      have e9 := Option.some.inj h
      subst e9
      exact (show zRet Γ cX2_build 7 0 0 (some (.int (-1 : Int32))) σ from K) _ _ dX2_build_90
def jX2_build_124 (Γ : zG) (l0 : Nat) (l1 : Nat) (l2 : Int32) (l3 : Int32) (l4 : Int32) : (Int32 × zS) → Prop := fun x => zJ Γ 7 0 0 x.2 124 [(0, .ref l0), (1, .ref l1), (2, .int l2), (3, .int l3), (4, .int l4), (5, .int x.1)] []
def eX2_build_124 (Γ : zG) (l0 : Nat) (l1 : Nat) (l2 : Int32) (l3 : Int32) (l4 : Int32) : zS → Prop := fun b => zJ Γ 7 0 0 b 174 [(4, .int l4)] []
def fX2_build_168 (σ : zS) (l0 : Nat) (l1 : Nat) (l2 : Int32) (l3 : Int32) (l4 : Int32) (l5 : Int32) : Option ((Int32 × zS) ⊕ zS) := oL (l5 + 1) (fun v5 => some (.inl (v5, σ)))
set_option maxRecDepth 100000 in
theorem wX2_build_168 {Γ : zG} (E : zE Γ cX2_build RX2 7 { frames := 1, cells := 0, slots := 0, locals := 23 }) (σ : zS) (l0 : Nat) (l1 : Nat) (l2 : Int32) (l3 : Int32) (l4 : Int32) (l5 : Int32) {R : ((Int32 × zS) ⊕ zS)} (h : fX2_build_168 σ l0 l1 l2 l3 l4 l5 = some R) (K : Sum.elim (jX2_build_124 Γ l0 l1 l2 l3 l4) (eX2_build_124 Γ l0 l1 l2 l3 l4) R) : zJ Γ 7 0 0 σ 168 [(0, .ref l0), (1, .ref l1), (2, .int l2), (3, .int l3), (4, .int l4), (5, .int l5)] [] := by
  unfold fX2_build_168 at h
  refine zs_iinc (lv2 := fun v5 => [(5, .int v5), (0, .ref l0), (1, .ref l1), (2, .int l2), (3, .int l3), (4, .int l4)]) E dX2_build_168 5 rfl (by decide) (by decide) (fun _ => rfl) h (fun v5 h => ?_)
  refine zj_goto (tgt := 124) E dX2_build_171 (by decide) ?_
  have e9 := Option.some.inj h
  subst e9
  refine zj_lv [1, 2, 3, 4, 5, 0] rfl ?_
  exact K
def bX2_build_124 (l0 : Nat) (l1 : Nat) (l2 : Int32) (l3 : Int32) (l4 : Int32) (l5 : Int32) (σ : zS) : Option ((Int32 × zS) ⊕ zS) := (if l3 ≤ l5 then some (.inr σ) else oLd σ 21 l1 (l2 + l5) (fun x7 => (if x7 = 0 then fX2_build_168 σ l0 l1 l2 l3 l4 l5 else oGR σ 3 l0 2 (fun a9 => oGR σ 3 l0 1 (fun a10 => oLd σ 21 a10 x7 (fun x8 => oSt σ 21 a9 x8 l5 (fun σ8 => oGR σ8 3 l0 1 (fun a11 => oLd σ8 21 a11 x7 (fun x9 => oSt σ8 21 a11 x7 (x9 + (1 : Int32)) (fun σ9 => fX2_build_168 σ9 l0 l1 l2 l3 l4 l5))))))))))
set_option maxRecDepth 100000 in
theorem wX2_build_L124 {Γ : zG} (E : zE Γ cX2_build RX2 7 { frames := 1, cells := 0, slots := 0, locals := 23 }) (l0 : Nat) (l1 : Nat) (l2 : Int32) (l3 : Int32) (l4 : Int32) : ∀ x R, (fun x => bX2_build_124 l0 l1 l2 l3 l4 x.1 x.2) x = some R → Sum.elim (jX2_build_124 Γ l0 l1 l2 l3 l4) (eX2_build_124 Γ l0 l1 l2 l3 l4) R → jX2_build_124 Γ l0 l1 l2 l3 l4 x := by
  intro x R h K
  obtain ⟨l5, σ⟩ := x
  have h : bX2_build_124 l0 l1 l2 l3 l4 l5 σ = some R := h
  show zJ Γ 7 0 0 σ 124 [(0, .ref l0), (1, .ref l1), (2, .int l2), (3, .int l3), (4, .int l4), (5, .int l5)] []
  unfold bX2_build_124 at h
  refine zj_iload E dX2_build_124 5 rfl ?_
  refine zj_iload_n E dX2_build_126 rfl 3 rfl ?_
  refine zj_icmp_ge (tgt := 174) E dX2_build_127 (by decide) h (fun h => ?_) (fun h => ?_)
  · have e9 := Option.some.inj h
    subst e9
    refine zj_lv [4] rfl ?_
    exact K
  · refine zj_aload_n E dX2_build_130 rfl 1 rfl ?_
    refine zj_iload_n E dX2_build_131 rfl 2 rfl ?_
    refine zj_iload E dX2_build_132 5 rfl ?_
    refine zj_iadd E dX2_build_134 ?_
    refine zs_iald E dX2_build_135 h (fun x7 h => ?_)
    refine zj_istore (lv2 := [(6, .int x7), (0, .ref l0), (1, .ref l1), (2, .int l2), (3, .int l3), (4, .int l4), (5, .int l5)]) E dX2_build_136 (by decide) rfl ?_
    refine zj_iload E dX2_build_138 0 rfl ?_
    refine zj_if_eq (tgt := 168) E dX2_build_140 (by decide) h (fun h => ?_) (fun h => ?_)
    · refine zj_lv [1, 2, 3, 4, 5, 6] rfl ?_
      exact wX2_build_168 E _ _ _ _ _ _ _ h K
    · refine zj_aload_n E dX2_build_143 rfl 1 rfl ?_
      refine zs_getR E zc2 2 (by decide) zw_4_19 rfl dX2_build_144 h (fun a9 h => ?_)
      refine zj_aload_n E dX2_build_147 rfl 1 rfl ?_
      refine zs_getR E zc2 1 (by decide) zw_4_18 rfl dX2_build_148 h (fun a10 h => ?_)
      refine zj_iload E dX2_build_151 0 rfl ?_
      refine zs_iald E dX2_build_153 h (fun x8 h => ?_)
      refine zj_iload E dX2_build_154 6 rfl ?_
      refine zs_iast E dX2_build_156 h (fun σ8 h => ?_)
      refine zj_aload_n E dX2_build_157 rfl 1 rfl ?_
      refine zs_getR E zc2 1 (by decide) zw_4_18 rfl dX2_build_158 h (fun a11 h => ?_)
      refine zj_iload E dX2_build_161 0 rfl ?_
      refine zj_dup2 E dX2_build_163 rfl rfl ?_
      refine zs_iald E dX2_build_164 h (fun x9 h => ?_)
      refine zj_iconst (v := 1) E dX2_build_165 (by decide) ?_
      refine zj_iadd E dX2_build_166 ?_
      refine zs_iast E dX2_build_167 h (fun σ9 h => ?_)
      refine zj_lv [1, 2, 3, 4, 5, 6] rfl ?_
      exact wX2_build_168 E _ _ _ _ _ _ _ h K
def fX2_build (σ : zS) (p0 : Nat) (p1 : Nat) (p2 : Int32) (p3 : Int32) : Option (Int32 × zS) := oGR σ 3 p0 0 (fun a1 => oB (fJ7_fill_53178 σ a1 0) (fun σ1 => oB (zloop zF (fun x => bX2_build_11 p0 p1 p2 p3 x.1 x.2) (0, σ1)) (fun b1 => (fun σ3 => oGR σ3 3 p0 0 (fun a3 => oLd σ3 21 a3 0 (fun x3 => oPI σ3 3 p0 3 (p3 - x3) (fun σ4 => oGR σ4 3 p0 1 (fun a4 => oSt σ4 21 a4 1 0 (fun σ5 => oB (zloop zF (fun x => bX2_build_63 p0 p1 p2 p3 x.1 x.2.1 x.2.2) (1, 1, σ5)) (fun b2 => oS b2 (fun c1 => (fun v4 σ7 => oB (zloop zF (fun x => bX2_build_124 p0 p1 p2 p3 v4 x.1 x.2) (0, σ7)) (fun b3 => (fun σ10 => some (v4, σ10)) b3)) c1.1 c1.2) (fun r1 => some r1)))))))) b1)))
set_option maxRecDepth 100000 in
theorem wX2_build {Γ : zG} (E : zE Γ cX2_build RX2 7 { frames := 1, cells := 0, slots := 0, locals := 23 }) (σ : zS) (p0 : Nat) (p1 : Nat) (p2 : Int32) (p3 : Int32) {R : (Int32 × zS)} (h : fX2_build σ p0 p1 p2 p3 = some R) (K : zRet Γ cX2_build 7 0 0 (some (.int R.1)) R.2) : zJ Γ 7 0 0 σ 0 [(0, .ref p0), (1, .ref p1), (2, .int p2), (3, .int p3)] [] := by
  unfold fX2_build at h
  refine zj_aload_n E dX2_build_0 rfl 0 rfl ?_
  refine zs_getR E zc2 0 (by decide) zw_4_17 rfl dX2_build_1 h (fun a1 h => ?_)
  refine zj_iconst (v := 0) E dX2_build_4 (by decide) ?_
  obtain ⟨σ1, hc, h⟩ := oB_some h
  refine zs_callS (As := [.ref a1, .int 0]) (rest := []) E zyJ7_fill_53178 zw_11_14 (kJ7_fill_53178 _ _ _ _ _ hc) rfl rfl rfl ⟨by decide, by decide⟩ ⟨by decide, by decide⟩ (Nat.le_of_ble_eq_true rfl) dX2_build_5 rfl (show zJ Γ 7 0 0 σ1 8 [(0, .ref p0), (1, .ref p1), (2, .int p2), (3, .int p3)] [] from ?_)
  refine zj_iconst (v := 0) E dX2_build_8 (by decide) ?_
  refine zj_istore (lv2 := [(4, .int 0), (0, .ref p0), (1, .ref p1), (2, .int p2), (3, .int p3)]) E dX2_build_9 (by decide) rfl ?_
  obtain ⟨b1, hb1, h⟩ := oB_some h
  refine zj_lv [1, 2, 3, 4, 0] rfl ?_
  refine zj_loop (wX2_build_L11 E p0 p1 p2 p3) zF (0, σ1) b1 hb1 ?_
  obtain ⟨σ3, rfl⟩ : ∃ z, z = b1 := ⟨_, rfl⟩
  try dsimp only at h
  show zJ Γ 7 0 0 σ3 38 [(0, .ref p0), (1, .ref p1), (2, .int p2), (3, .int p3)] []
  refine zj_aload_n E dX2_build_38 rfl 0 rfl ?_
  refine zj_iload_n E dX2_build_39 rfl 3 rfl ?_
  refine zj_aload_n E dX2_build_40 rfl 0 rfl ?_
  refine zs_getR E zc2 0 (by decide) zw_4_17 rfl dX2_build_41 h (fun a3 h => ?_)
  refine zj_iconst (v := 0) E dX2_build_44 (by decide) ?_
  refine zs_iald E dX2_build_45 h (fun x3 h => ?_)
  refine zj_isub E dX2_build_46 ?_
  refine zs_putI E zc2 3 (by decide) zw_11_13 rfl rfl dX2_build_47 h (fun σ4 h => ?_)
  refine zj_aload_n E dX2_build_50 rfl 0 rfl ?_
  refine zs_getR E zc2 1 (by decide) zw_4_18 rfl dX2_build_51 h (fun a4 h => ?_)
  refine zj_iconst (v := 1) E dX2_build_54 (by decide) ?_
  refine zj_iconst (v := 0) E dX2_build_55 (by decide) ?_
  refine zs_iast E dX2_build_56 h (fun σ5 h => ?_)
  refine zj_iconst (v := 1) E dX2_build_57 (by decide) ?_
  refine zj_istore (lv2 := [(4, .int 1), (0, .ref p0), (1, .ref p1), (2, .int p2), (3, .int p3)]) E dX2_build_58 (by decide) rfl ?_
  refine zj_iconst (v := 1) E dX2_build_60 (by decide) ?_
  refine zj_istore (lv2 := [(5, .int 1), (4, .int 1), (0, .ref p0), (1, .ref p1), (2, .int p2), (3, .int p3)]) E dX2_build_61 (by decide) rfl ?_
  obtain ⟨b2, hb2, h⟩ := oB_some h
  refine zj_lv [2, 3, 4, 5, 1, 0] rfl ?_
  refine zj_loop (wX2_build_L63 E p0 p1 p2 p3) zF (1, 1, σ5) b2 hb2 ?_
  cases b2 with
  | inr r1 =>
    have e9 := Option.some.inj h
    subst e9
    exact K
  | inl c1 =>
    obtain ⟨v4, σ7⟩ := c1
    dsimp only [oS] at h
    show zJ Γ 7 0 0 σ7 121 [(0, .ref p0), (1, .ref p1), (2, .int p2), (3, .int p3), (4, .int v4)] []
    refine zj_iconst (v := 0) E dX2_build_121 (by decide) ?_
    refine zj_istore (lv2 := [(5, .int 0), (0, .ref p0), (1, .ref p1), (2, .int p2), (3, .int p3), (4, .int v4)]) E dX2_build_122 (by decide) rfl ?_
    obtain ⟨b3, hb3, h⟩ := oB_some h
    refine zj_lv [1, 2, 3, 4, 5, 0] rfl ?_
    refine zj_loop (wX2_build_L124 E p0 p1 p2 p3 v4) zF (0, σ7) b3 hb3 ?_
    obtain ⟨σ10, rfl⟩ : ∃ z, z = b3 := ⟨_, rfl⟩
    try dsimp only at h
    show zJ Γ 7 0 0 σ10 174 [(4, .int v4)] []
    refine zj_iload E dX2_build_174 0 rfl ?_
    have e9 := Option.some.inj h
    subst e9
    exact (show zRet Γ cX2_build 7 0 0 (some (.int v4)) σ10 from K) _ _ dX2_build_176
set_option maxRecDepth 100000 in
theorem kX2_build (l : Launch) (D : va_G) (cs : zCs) (z0 : Nat) (σ : zS) {p0 : Nat} {p1 : Nat} {p2 : Int32} {p3 : Int32} {r : Int32} {σ' : zS} (h : fX2_build σ p0 p1 p2 p3 = some (r, σ')) : zM l D cs z0 yX2_build cX2_build 7 (some .int) { frames := 1, cells := 0, slots := 0, locals := 23 } [.ref p0, .ref p1, .int p2, .int p3] σ (some (.int r)) σ' 0 0 := by
  exact zM_of (by decide) rfl (Or.inl rfl) (Nat.le_of_ble_eq_true rfl) rfl (fun Γ e1 e2 e3 e4 E hN K => wX2_build E σ _ _ _ _ h K)
