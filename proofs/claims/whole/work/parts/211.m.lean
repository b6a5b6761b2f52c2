/-! X12_orderOf -/
def fX12_orderOf (σ : zS) (p0 : Int32) : Option Int32 := (if p0 = 0 then some 16 else (if p0 = 1 then some 17 else (if p0 = 2 then some 18 else (if p0 = 3 then some 0 else (if (p0 - p0 / (2 : Int32) * (2 : Int32)) = 0 then some ((8 : Int32) + ((p0 - (4 : Int32)) / (2 : Int32))) else some ((7 : Int32) - ((p0 - (5 : Int32)) / (2 : Int32))))))))
set_option maxRecDepth 100000 in
theorem wX12_orderOf {Γ : zG} (E : zE Γ cX12_orderOf RX12 1 { frames := 0, cells := 0, slots := 0, locals := 0 }) (σ : zS) (p0 : Int32) {R : Int32} (h : fX12_orderOf σ p0 = some R) (K : zRet Γ cX12_orderOf 1 0 0 (some (.int R)) σ) : zJ Γ 1 0 0 σ 0 [(0, .int p0)] [] := by
  unfold fX12_orderOf at h
  refine zj_iload_n E dX12_orderOf_0 rfl 0 rfl ?_
  by_cases e0 : p0 = 0
  · rw [if_pos e0] at h
    refine zj_tIn (tgt := 32) E e0 dX12_orderOf_1 (by decide) (by decide) rfl (by decide) ?_
    refine zj_bipush (v := 16) E dX12_orderOf_32 (by decide) ?_
    have e9 := Option.some.inj h
    subst e9
    exact (show zRet Γ cX12_orderOf 1 0 0 (some (.int 16)) σ from K) _ _ dX12_orderOf_34
  rw [if_neg e0] at h
  by_cases e1 : p0 = 1
  · rw [if_pos e1] at h
    refine zj_tIn (tgt := 35) E e1 dX12_orderOf_1 (by decide) (by decide) rfl (by decide) ?_
    refine zj_bipush (v := 17) E dX12_orderOf_35 (by decide) ?_
    have e9 := Option.some.inj h
    subst e9
    exact (show zRet Γ cX12_orderOf 1 0 0 (some (.int 17)) σ from K) _ _ dX12_orderOf_37
  rw [if_neg e1] at h
  by_cases e2 : p0 = 2
  · rw [if_pos e2] at h
    refine zj_tIn (tgt := 38) E e2 dX12_orderOf_1 (by decide) (by decide) rfl (by decide) ?_
    refine zj_bipush (v := 18) E dX12_orderOf_38 (by decide) ?_
    have e9 := Option.some.inj h
    subst e9
    exact (show zRet Γ cX12_orderOf 1 0 0 (some (.int 18)) σ from K) _ _ dX12_orderOf_40
  rw [if_neg e2] at h
  by_cases e3 : p0 = 3
  · rw [if_pos e3] at h
    refine zj_tIn (tgt := 41) E e3 dX12_orderOf_1 (by decide) (by decide) rfl (by decide) ?_
    refine zj_iconst (v := 0) E dX12_orderOf_41 (by decide) ?_
    have e9 := Option.some.inj h
    subst e9
    exact (show zRet Γ cX12_orderOf 1 0 0 (some (.int 0)) σ from K) _ _ dX12_orderOf_42
  rw [if_neg e3] at h
  refine zj_tOut (tgt := 43) E dX12_orderOf_1 (by have := And.intro (lv_neT (a := 0) e0 (by decide)) (And.intro (lv_neT (a := 1) e1 (by decide)) (And.intro (lv_neT (a := 2) e2 (by decide)) (lv_neT (a := 3) e3 (by decide)))); omega) (by decide) ?_
  refine zj_iload_n E dX12_orderOf_43 rfl 0 rfl ?_
  refine zj_iconst (v := 2) E dX12_orderOf_44 (by decide) ?_
  refine zj_irem E dX12_orderOf_45 (by decide) ?_
  refine zj_if_ne (tgt := 60) E dX12_orderOf_46 (by decide) h (fun h => ?_) (fun h => ?_)
  · refine zj_bipush (v := 7) E dX12_orderOf_60 (by decide) ?_
    refine zj_iload_n E dX12_orderOf_62 rfl 0 rfl ?_
    refine zj_iconst (v := 5) E dX12_orderOf_63 (by decide) ?_
    refine zj_isub E dX12_orderOf_64 ?_
    refine zj_iconst (v := 2) E dX12_orderOf_65 (by decide) ?_
    refine zj_idiv E dX12_orderOf_66 (by decide) ?_
    refine zj_isub E dX12_orderOf_67 ?_
    have e9 := Option.some.inj h
    subst e9
    exact (show zRet Γ cX12_orderOf 1 0 0 (some (.int ((7 : Int32) - ((p0 - (5 : Int32)) / (2 : Int32))))) σ from K) _ _ dX12_orderOf_68
  · refine zj_bipush (v := 8) E dX12_orderOf_49 (by decide) ?_
    refine zj_iload_n E dX12_orderOf_51 rfl 0 rfl ?_
    refine zj_iconst (v := 4) E dX12_orderOf_52 (by decide) ?_
    refine zj_isub E dX12_orderOf_53 ?_
    refine zj_iconst (v := 2) E dX12_orderOf_54 (by decide) ?_
    refine zj_idiv E dX12_orderOf_55 (by decide) ?_
    refine zj_iadd E dX12_orderOf_56 ?_
    refine zj_goto (tgt := 68) E dX12_orderOf_57 (by decide) ?_
    have e9 := Option.some.inj h
    subst e9
    exact (show zRet Γ cX12_orderOf 1 0 0 (some (.int ((8 : Int32) + ((p0 - (4 : Int32)) / (2 : Int32))))) σ from K) _ _ dX12_orderOf_68
set_option maxRecDepth 100000 in
theorem kX12_orderOf (l : Launch) (D : va_G) (cs : zCs) (z0 : Nat) (σ : zS) {p0 : Int32} {r : Int32} (h : fX12_orderOf σ p0 = some r) : zM l D cs z0 yX12_orderOf cX12_orderOf 1 (some .int) { frames := 0, cells := 0, slots := 0, locals := 0 } [.int p0] σ (some (.int r)) σ 0 0 := by
  exact zM_of (by decide) rfl (Or.inl rfl) (Nat.le_of_ble_eq_true rfl) rfl (fun Γ e1 e2 e3 e4 E hN K => wX12_orderOf E σ _ h K)
/-! X12_told -/
def jX12_told_58 (Γ : zG) (l0 : Nat) (l1 : Int32) (l2 : Int32) (l3 : Int32) : (Int32 × zS) → Prop := fun x => zJ Γ 10 0 0 x.2 58 [(0, .ref l0), (1, .int l1), (2, .int l2), (3, .int l3), (4, .int x.1)] []
def eX12_told_58 (Γ : zG) (l0 : Nat) (l1 : Int32) (l2 : Int32) (l3 : Int32) : zS → Prop := fun b => zJ Γ 10 0 0 b 83 [(0, .ref l0), (1, .int l1), (2, .int l2), (3, .int l3)] []
def bX12_told_58 (l0 : Nat) (l1 : Int32) (l2 : Int32) (l3 : Int32) (l4 : Int32) (σ : zS) : Option ((Int32 × zS) ⊕ zS) := (if (19 : Int32) ≤ l4 then some (.inr σ) else oGR σ 12 l0 21 (fun a1 => oSt σ 21 a1 ((352 : Int32) + l4) 0 (fun σ5 => oL (l4 + 1) (fun v4 => some (.inl (v4, σ5))))))
set_option maxRecDepth 100000 in
theorem wX12_told_L58 {Γ : zG} (E : zE Γ cX12_told RX12 10 { frames := 4, cells := 0, slots := 0, locals := 98 }) (l0 : Nat) (l1 : Int32) (l2 : Int32) (l3 : Int32) : ∀ x R, (fun x => bX12_told_58 l0 l1 l2 l3 x.1 x.2) x = some R → Sum.elim (jX12_told_58 Γ l0 l1 l2 l3) (eX12_told_58 Γ l0 l1 l2 l3) R → jX12_told_58 Γ l0 l1 l2 l3 x := by
  intro x R h K
  obtain ⟨l4, σ⟩ := x
  have h : bX12_told_58 l0 l1 l2 l3 l4 σ = some R := h
  show zJ Γ 10 0 0 σ 58 [(0, .ref l0), (1, .int l1), (2, .int l2), (3, .int l3), (4, .int l4)] []
  unfold bX12_told_58 at h
  refine zj_iload E dX12_told_58 4 rfl ?_
  refine zj_bipush (v := 19) E dX12_told_60 (by decide) ?_
  refine zj_icmp_ge (tgt := 83) E dX12_told_62 (by decide) h (fun h => ?_) (fun h => ?_)
  · have e9 := Option.some.inj h
    subst e9
    refine zj_lv [0, 1, 2, 3] rfl ?_
    exact K
  · refine zj_aload_n E dX12_told_65 rfl 0 rfl ?_
    refine zs_getR E zc11 21 (by decide) zw_6_13 rfl dX12_told_66 h (fun a1 h => ?_)
    refine zj_sipush (v := 352) E dX12_told_69 (by decide) ?_
    refine zj_iload E dX12_told_72 4 rfl ?_
    refine zj_iadd E dX12_told_74 ?_
    refine zj_iconst (v := 0) E dX12_told_75 (by decide) ?_
    refine zs_iast E dX12_told_76 h (fun σ5 h => ?_)
    refine zs_iinc (lv2 := fun v4 => [(4, .int v4), (0, .ref l0), (1, .int l1), (2, .int l2), (3, .int l3)]) E dX12_told_77 4 rfl (by decide) (by decide) (fun _ => rfl) h (fun v4 h => ?_)
    refine zj_goto (tgt := 58) E dX12_told_80 (by decide) ?_
    have e9 := Option.some.inj h
    subst e9
    refine zj_lv [1, 2, 3, 4, 0] rfl ?_
    exact K
def jX12_told_86 (Γ : zG) (l0 : Nat) (l1 : Int32) (l2 : Int32) (l3 : Int32) : (Int32 × zS) → Prop := fun x => zJ Γ 10 0 0 x.2 86 [(0, .ref l0), (1, .int l1), (2, .int l2), (3, .int l3), (4, .int x.1)] []
def eX12_told_86 (Γ : zG) (l0 : Nat) (l1 : Int32) (l2 : Int32) (l3 : Int32) : zS → Prop := fun b => zJ Γ 10 0 0 b 124 [(0, .ref l0), (1, .int l1), (2, .int l2)] []
def bX12_told_86 (l0 : Nat) (l1 : Int32) (l2 : Int32) (l3 : Int32) (l4 : Int32) (σ : zS) : Option ((Int32 × zS) ⊕ zS) := (if l3 ≤ l4 then some (.inr σ) else oGI σ 12 l0 18 (fun x5 => (if x5 = 0 then oGR σ 12 l0 21 (fun a2 => oB (fX12_orderOf σ l4) (fun x6 => oA (zk σ l0 = 12) (oC (fX12_bits σ l0 3) (fun x7 σ7 => oSt σ7 21 a2 ((352 : Int32) + x6) x7 (fun σ8 => oL (l4 + 1) (fun v5 => some (.inl (v5, σ8)))))))) else some (.inr σ))))
set_option maxRecDepth 100000 in
theorem wX12_told_L86 {Γ : zG} (E : zE Γ cX12_told RX12 10 { frames := 4, cells := 0, slots := 0, locals := 98 }) (l0 : Nat) (l1 : Int32) (l2 : Int32) (l3 : Int32) : ∀ x R, (fun x => bX12_told_86 l0 l1 l2 l3 x.1 x.2) x = some R → Sum.elim (jX12_told_86 Γ l0 l1 l2 l3) (eX12_told_86 Γ l0 l1 l2 l3) R → jX12_told_86 Γ l0 l1 l2 l3 x := by
  intro x R h K
  obtain ⟨l4, σ⟩ := x
  have h : bX12_told_86 l0 l1 l2 l3 l4 σ = some R := h
  show zJ Γ 10 0 0 σ 86 [(0, .ref l0), (1, .int l1), (2, .int l2), (3, .int l3), (4, .int l4)] []
  unfold bX12_told_86 at h
  refine zj_iload E dX12_told_86 4 rfl ?_
  refine zj_iload_n E dX12_told_88 rfl 3 rfl ?_
  refine zj_icmp_ge (tgt := 124) E dX12_told_89 (by decide) h (fun h => ?_) (fun h => ?_)
  · have e9 := Option.some.inj h
    subst e9
    refine zj_lv [0, 1, 2] rfl ?_
    exact K
  · refine zj_aload_n E dX12_told_92 rfl 0 rfl ?_
    refine zs_getI E zc11 18 (by decide) zw_19_13 rfl dX12_told_93 h (fun x5 h => ?_)
    refine zj_if_ne (tgt := 124) E dX12_told_96 (by decide) h (fun h => ?_) (fun h => ?_)
    · have e9 := Option.some.inj h
      subst e9
      refine zj_lv [0, 1, 2] rfl ?_
      exact K
    · refine zj_aload_n E dX12_told_99 rfl 0 rfl ?_
      refine zs_getR E zc11 21 (by decide) zw_6_13 rfl dX12_told_100 h (fun a2 h => ?_)
      refine zj_sipush (v := 352) E dX12_told_103 (by decide) ?_
      refine zj_iload E dX12_told_106 4 rfl ?_
      obtain ⟨x6, hc, h⟩ := oB_some h
      refine zs_callS (As := [.int l4]) (rest := [.int 352, .ref a2]) E zyX12_orderOf zw_21_22 (kX12_orderOf _ _ _ _ _ hc) rfl rfl rfl ⟨by decide, by decide⟩ ⟨by decide, by decide⟩ (Nat.le_of_ble_eq_true rfl) dX12_told_108 rfl (show zJ Γ 10 0 0 σ 111 [(0, .ref l0), (1, .int l1), (2, .int l2), (3, .int l3), (4, .int l4)] [.int x6, .int 352, .ref a2] from ?_)
      refine zj_iadd E dX12_told_111 ?_
      refine zj_aload_n E dX12_told_112 rfl 0 rfl ?_
      refine zj_iconst (v := 3) E dX12_told_113 (by decide) ?_
      obtain ⟨hk, h⟩ := oA_some h
      obtain ⟨x7, σ7, hc, h⟩ := oC_some h
      refine zs_callV (As := [.int 3]) (rest := [.int ((352 : Int32) + x6), .ref a2]) E zc11 zyX12_bits zw_19_16 (kX12_bits _ _ _ _ _ hc) rfl rfl hk rfl ⟨by decide, by decide⟩ ⟨by decide, by decide⟩ (Nat.le_of_ble_eq_true rfl) dX12_told_114 rfl (show zJ Γ 10 0 0 σ7 117 [(0, .ref l0), (1, .int l1), (2, .int l2), (3, .int l3), (4, .int l4)] [.int x7, .int ((352 : Int32) + x6), .ref a2] from ?_)
      refine zs_iast E dX12_told_117 h (fun σ8 h => ?_)
      refine zs_iinc (lv2 := fun v5 => [(4, .int v5), (0, .ref l0), (1, .int l1), (2, .int l2), (3, .int l3)]) E dX12_told_118 4 rfl (by decide) (by decide) (fun _ => rfl) h (fun v5 h => ?_)
      refine zj_goto (tgt := 86) E dX12_told_121 (by decide) ?_
      have e9 := Option.some.inj h
      subst e9
      refine zj_lv [1, 2, 3, 4, 0] rfl ?_
      exact K
def jX12_told_140 (Γ : zG) (l0 : Nat) (l1 : Int32) (l2 : Int32) : (Int32 × Int32 × zS) → Prop := fun x => zJ Γ 10 0 0 x.2.2 140 [(0, .ref l0), (1, .int l1), (2, .int l2), (4, .int x.1), (5, .int x.2.1)] []
def eX12_told_140 (Γ : zG) (l0 : Nat) (l1 : Int32) (l2 : Int32) : zS → Prop := fun b => zJ Γ 10 0 0 b 340 [(0, .ref l0), (1, .int l1), (2, .int l2)] []
def jX12_told_284 (Γ : zG) (l0 : Nat) (l1 : Int32) (l2 : Int32) (l7 : Int32) (l8 : Int32) : (Int32 × Int32 × zS) → Prop := fun x => zJ Γ 10 0 0 x.2.2 284 [(0, .ref l0), (1, .int l1), (2, .int l2), (7, .int l7), (8, .int l8), (4, .int x.1), (9, .int x.2.1)] []
def eX12_told_284 (Γ : zG) (l0 : Nat) (l1 : Int32) (l2 : Int32) (l7 : Int32) (l8 : Int32) : (Int32 × zS) → Prop := fun b => zJ Γ 10 0 0 b.2 333 [(0, .ref l0), (1, .int l1), (2, .int l2), (7, .int l7), (4, .int b.1)] []
def fX12_told_321 (σ : zS) (l0 : Nat) (l1 : Int32) (l2 : Int32) (l4 : Int32) (l7 : Int32) (l8 : Int32) (l9 : Int32) (s0 : Int32) (s1 : Nat) : Option ((Int32 × Int32 × zS) ⊕ (Int32 × zS)) := oSt σ 21 s1 s0 l7 (fun σ14 => oL (l4 + 1) (fun v6 => oL (l9 + 1) (fun v7 => some (.inl (v6, v7, σ14)))))
set_option maxRecDepth 100000 in
theorem wX12_told_321 {Γ : zG} (E : zE Γ cX12_told RX12 10 { frames := 4, cells := 0, slots := 0, locals := 98 }) (σ : zS) (l0 : Nat) (l1 : Int32) (l2 : Int32) (l4 : Int32) (l7 : Int32) (l8 : Int32) (l9 : Int32) (s0 : Int32) (s1 : Nat) {R : ((Int32 × Int32 × zS) ⊕ (Int32 × zS))} (h : fX12_told_321 σ l0 l1 l2 l4 l7 l8 l9 s0 s1 = some R) (K : Sum.elim (jX12_told_284 Γ l0 l1 l2 l7 l8) (eX12_told_284 Γ l0 l1 l2 l7 l8) R) : zJ Γ 10 0 0 σ 321 [(0, .ref l0), (1, .int l1), (2, .int l2), (4, .int l4), (7, .int l7), (8, .int l8), (9, .int l9)] [.int s0, .ref s1] := by
  unfold fX12_told_321 at h
  refine zj_iload E dX12_told_321 4 rfl ?_
  refine zs_iast E dX12_told_323 h (fun σ14 h => ?_)
  refine zs_iinc (lv2 := fun v6 => [(4, .int v6), (0, .ref l0), (1, .int l1), (2, .int l2), (7, .int l7), (8, .int l8), (9, .int l9)]) E dX12_told_324 3 rfl (by decide) (by decide) (fun _ => rfl) h (fun v6 h => ?_)
  refine zs_iinc (lv2 := fun v7 => [(9, .int v7), (4, .int v6), (0, .ref l0), (1, .int l1), (2, .int l2), (7, .int l7), (8, .int l8)]) E dX12_told_327 6 rfl (by decide) (by decide) (fun _ => rfl) h (fun v7 h => ?_)
  refine zj_goto (tgt := 284) E dX12_told_330 (by decide) ?_
  have e9 := Option.some.inj h
  subst e9
  refine zj_lv [2, 3, 4, 5, 6, 1, 0] rfl ?_
  exact K
def bX12_told_284 (l0 : Nat) (l1 : Int32) (l2 : Int32) (l7 : Int32) (l8 : Int32) (l4 : Int32) (l9 : Int32) (σ : zS) : Option ((Int32 × Int32 × zS) ⊕ (Int32 × zS)) := (if l8 ≤ l9 then some (.inr (l4, σ)) else oGI σ 12 l0 18 (fun x12 => (if x12 = 0 then oGR σ 12 l0 21 (fun a3 => (if l1 ≤ l4 then fX12_told_321 σ l0 l1 l2 l4 l7 l8 l9 (((320 : Int32) + l4) - l1) a3 else fX12_told_321 σ l0 l1 l2 l4 l7 l8 l9 l4 a3)) else some (.inr (l4, σ)))))
set_option maxRecDepth 100000 in
theorem wX12_told_L284 {Γ : zG} (E : zE Γ cX12_told RX12 10 { frames := 4, cells := 0, slots := 0, locals := 98 }) (l0 : Nat) (l1 : Int32) (l2 : Int32) (l7 : Int32) (l8 : Int32) : ∀ x R, (fun x => bX12_told_284 l0 l1 l2 l7 l8 x.1 x.2.1 x.2.2) x = some R → Sum.elim (jX12_told_284 Γ l0 l1 l2 l7 l8) (eX12_told_284 Γ l0 l1 l2 l7 l8) R → jX12_told_284 Γ l0 l1 l2 l7 l8 x := by
  intro x R h K
  obtain ⟨l4, l9, σ⟩ := x
  have h : bX12_told_284 l0 l1 l2 l7 l8 l4 l9 σ = some R := h
  show zJ Γ 10 0 0 σ 284 [(0, .ref l0), (1, .int l1), (2, .int l2), (7, .int l7), (8, .int l8), (4, .int l4), (9, .int l9)] []
  unfold bX12_told_284 at h
  refine zj_iload E dX12_told_284 6 rfl ?_
  refine zj_iload E dX12_told_286 4 rfl ?_
  refine zj_icmp_ge (tgt := 333) E dX12_told_288 (by decide) h (fun h => ?_) (fun h => ?_)
  · have e9 := Option.some.inj h
    subst e9
    refine zj_lv [0, 1, 2, 3, 5] rfl ?_
    exact K
  · refine zj_aload_n E dX12_told_291 rfl 0 rfl ?_
    refine zs_getI E zc11 18 (by decide) zw_19_13 rfl dX12_told_292 h (fun x12 h => ?_)
    refine zj_if_ne (tgt := 333) E dX12_told_295 (by decide) h (fun h => ?_) (fun h => ?_)
    · have e9 := Option.some.inj h
      subst e9
      refine zj_lv [0, 1, 2, 3, 5] rfl ?_
      exact K
    · refine zj_aload_n E dX12_told_298 rfl 0 rfl ?_
      refine zs_getR E zc11 21 (by decide) zw_6_13 rfl dX12_told_299 h (fun a3 h => ?_)
      refine zj_iload E dX12_told_302 5 rfl ?_
      refine zj_iload_n E dX12_told_304 rfl 1 rfl ?_
      refine zj_icmp_ge (tgt := 313) E dX12_told_305 (by decide) h (fun h => ?_) (fun h => ?_)
      · refine zj_sipush (v := 320) E dX12_told_313 (by decide) ?_
        refine zj_iload E dX12_told_316 5 rfl ?_
        refine zj_iadd E dX12_told_318 ?_
        refine zj_iload_n E dX12_told_319 rfl 1 rfl ?_
        refine zj_isub E dX12_told_320 ?_
        refine zj_lv [0, 1, 2, 5, 3, 4, 6] rfl ?_
        exact wX12_told_321 E _ _ _ _ _ _ _ _ _ _ h K
      · refine zj_iload E dX12_told_308 5 rfl ?_
        refine zj_goto (tgt := 321) E dX12_told_310 (by decide) ?_
        refine zj_lv [0, 1, 2, 5, 3, 4, 6] rfl ?_
        exact wX12_told_321 E _ _ _ _ _ _ _ _ _ _ h K
def fX12_told_278 (σ : zS) (l0 : Nat) (l1 : Int32) (l2 : Int32) (l4 : Int32) (l7 : Int32) (l8 : Int32) (s0 : Int32) (s1 : Nat) : Option ((Int32 × Int32 × zS) ⊕ zS) := oPZ σ 12 s1 18 s0 (fun σ13 => oB (zloop zF (fun x => bX12_told_284 l0 l1 l2 l7 l8 x.1 x.2.1 x.2.2) (l4, 0, σ13)) (fun b3 => (fun v8 σ15 => some (.inl (v8, l7, σ15))) b3.1 b3.2))
set_option maxRecDepth 100000 in
theorem wX12_told_278 {Γ : zG} (E : zE Γ cX12_told RX12 10 { frames := 4, cells := 0, slots := 0, locals := 98 }) (σ : zS) (l0 : Nat) (l1 : Int32) (l2 : Int32) (l4 : Int32) (l7 : Int32) (l8 : Int32) (s0 : Int32) (s1 : Nat) {R : ((Int32 × Int32 × zS) ⊕ zS)} (h : fX12_told_278 σ l0 l1 l2 l4 l7 l8 s0 s1 = some R) (K : Sum.elim (jX12_told_140 Γ l0 l1 l2) (eX12_told_140 Γ l0 l1 l2) R) : zJ Γ 10 0 0 σ 278 [(0, .ref l0), (1, .int l1), (2, .int l2), (4, .int l4), (7, .int l7), (8, .int l8)] [.int s0, .ref s1] := by
  unfold fX12_told_278 at h
  refine zs_putZ E zc11 18 (by decide) zw_19_13 rfl rfl dX12_told_278 h (fun σ13 h => ?_)
  refine zj_iconst (v := 0) E dX12_told_281 (by decide) ?_
  refine zj_istore (lv2 := [(9, .int 0), (0, .ref l0), (1, .int l1), (2, .int l2), (4, .int l4), (7, .int l7), (8, .int l8)]) E dX12_told_282 (by decide) rfl ?_
  obtain ⟨b3, hb3, h⟩ := oB_some h
  refine zj_lv [1, 2, 3, 5, 6, 4, 0] rfl ?_
  refine zj_loop (wX12_told_L284 E l0 l1 l2 l7 l8) zF (l4, 0, σ13) b3 hb3 ?_
  obtain ⟨v8, σ15⟩ := b3
  try dsimp only at h
  show zJ Γ 10 0 0 σ15 333 [(0, .ref l0), (1, .int l1), (2, .int l2), (7, .int l7), (4, .int v8)] []
  refine zj_iload E dX12_told_333 3 rfl ?_
  refine zj_istore (lv2 := [(5, .int l7), (0, .ref l0), (1, .int l1), (2, .int l2), (7, .int l7), (4, .int v8)]) E dX12_told_335 (by decide) rfl ?_
  refine zj_goto (tgt := 140) E dX12_told_337 (by decide) ?_
  have e9 := Option.some.inj h
  subst e9
  refine zj_lv [1, 2, 3, 5, 0] rfl ?_
  exact K
def fX12_told_273 (σ : zS) (l0 : Nat) (l1 : Int32) (l2 : Int32) (l4 : Int32) (l7 : Int32) (l8 : Int32) (s0 : Nat) : Option ((Int32 × Int32 × zS) ⊕ zS) := fX12_told_278 σ l0 l1 l2 l4 l7 l8 1 s0
set_option maxRecDepth 100000 in
theorem wX12_told_273 {Γ : zG} (E : zE Γ cX12_told RX12 10 { frames := 4, cells := 0, slots := 0, locals := 98 }) (σ : zS) (l0 : Nat) (l1 : Int32) (l2 : Int32) (l4 : Int32) (l7 : Int32) (l8 : Int32) (s0 : Nat) {R : ((Int32 × Int32 × zS) ⊕ zS)} (h : fX12_told_273 σ l0 l1 l2 l4 l7 l8 s0 = some R) (K : Sum.elim (jX12_told_140 Γ l0 l1 l2) (eX12_told_140 Γ l0 l1 l2) R) : zJ Γ 10 0 0 σ 273 [(0, .ref l0), (1, .int l1), (2, .int l2), (4, .int l4), (7, .int l7), (8, .int l8)] [.ref s0] := by
  unfold fX12_told_273 at h
  refine zj_iconst (v := 1) E dX12_told_273 (by decide) ?_
  refine zj_goto (tgt := 278) E dX12_told_274 (by decide) ?_
  refine zj_lv [0, 1, 2, 3, 4, 5] rfl ?_
  exact wX12_told_278 E _ _ _ _ _ _ _ _ _ h K
def fX12_told_247 (σ : zS) (l0 : Nat) (l1 : Int32) (l2 : Int32) (l4 : Int32) (l7 : Int32) (s0 : Int32) : Option ((Int32 × Int32 × zS) ⊕ zS) := oGI σ 12 l0 18 (fun x11 => (if x11 = 0 then (if l7 < 0 then fX12_told_273 σ l0 l1 l2 l4 l7 s0 l0 else (if (l4 + s0) ≤ (l1 + l2) then fX12_told_278 σ l0 l1 l2 l4 l7 s0 0 l0 else fX12_told_273 σ l0 l1 l2 l4 l7 s0 l0)) else fX12_told_273 σ l0 l1 l2 l4 l7 s0 l0))
set_option maxRecDepth 100000 in
theorem wX12_told_247 {Γ : zG} (E : zE Γ cX12_told RX12 10 { frames := 4, cells := 0, slots := 0, locals := 98 }) (σ : zS) (l0 : Nat) (l1 : Int32) (l2 : Int32) (l4 : Int32) (l7 : Int32) (s0 : Int32) {R : ((Int32 × Int32 × zS) ⊕ zS)} (h : fX12_told_247 σ l0 l1 l2 l4 l7 s0 = some R) (K : Sum.elim (jX12_told_140 Γ l0 l1 l2) (eX12_told_140 Γ l0 l1 l2) R) : zJ Γ 10 0 0 σ 247 [(0, .ref l0), (1, .int l1), (2, .int l2), (4, .int l4), (7, .int l7)] [.int s0] := by
  unfold fX12_told_247 at h
  refine zj_istore (lv2 := [(8, .int s0), (0, .ref l0), (1, .int l1), (2, .int l2), (4, .int l4), (7, .int l7)]) E dX12_told_247 (by decide) rfl ?_
  refine zj_aload_n E dX12_told_249 rfl 1 rfl ?_
  refine zj_aload_n E dX12_told_250 rfl 1 rfl ?_
  refine zs_getI E zc11 18 (by decide) zw_19_13 rfl dX12_told_251 h (fun x11 h => ?_)
  refine zj_if_ne (tgt := 273) E dX12_told_254 (by decide) h (fun h => ?_) (fun h => ?_)
  · refine zj_lv [1, 2, 3, 4, 5, 0] rfl ?_
    exact wX12_told_273 E _ _ _ _ _ _ _ _ h K
  · refine zj_iload E dX12_told_257 5 rfl ?_
    refine zj_if_lt (tgt := 273) E dX12_told_259 (by decide) h (fun h => ?_) (fun h => ?_)
    · refine zj_lv [1, 2, 3, 4, 5, 0] rfl ?_
      exact wX12_told_273 E _ _ _ _ _ _ _ _ h K
    · refine zj_iload E dX12_told_262 4 rfl ?_
      refine zj_iload E dX12_told_264 0 rfl ?_
      refine zj_iadd E dX12_told_266 ?_
      refine zj_iload_n E dX12_told_267 rfl 2 rfl ?_
      refine zj_iload_n E dX12_told_268 rfl 3 rfl ?_
      refine zj_iadd E dX12_told_269 ?_
      refine zj_icmp_le (tgt := 277) E dX12_told_270 (by decide) h (fun h => ?_) (fun h => ?_)
      · refine zj_iconst (v := 0) E dX12_told_277 (by decide) ?_
        refine zj_lv [1, 2, 3, 4, 5, 0] rfl ?_
        exact wX12_told_278 E _ _ _ _ _ _ _ _ _ h K
      · refine zj_lv [1, 2, 3, 4, 5, 0] rfl ?_
        exact wX12_told_273 E _ _ _ _ _ _ _ _ h K
def fX12_told_191 (σ : zS) (l0 : Nat) (l1 : Int32) (l2 : Int32) (l4 : Int32) (l6 : Int32) (s0 : Int32) : Option ((Int32 × Int32 × zS) ⊕ zS) := (if (16 : Int32) ≤ l6 then (if l6 = (16 : Int32) then oA (zk σ l0 = 12) (oC (fX12_bits σ l0 2) (fun x14 σ17 => fX12_told_247 σ17 l0 l1 l2 l4 s0 ((3 : Int32) + x14))) else (if l6 = (17 : Int32) then oA (zk σ l0 = 12) (oC (fX12_bits σ l0 3) (fun x13 σ16 => fX12_told_247 σ16 l0 l1 l2 l4 s0 ((3 : Int32) + x13))) else oA (zk σ l0 = 12) (oC (fX12_bits σ l0 7) (fun x10 σ12 => fX12_told_247 σ12 l0 l1 l2 l4 s0 ((11 : Int32) + x10))))) else fX12_told_247 σ l0 l1 l2 l4 s0 1)
set_option maxRecDepth 100000 in
theorem wX12_told_191 {Γ : zG} (E : zE Γ cX12_told RX12 10 { frames := 4, cells := 0, slots := 0, locals := 98 }) (σ : zS) (l0 : Nat) (l1 : Int32) (l2 : Int32) (l4 : Int32) (l6 : Int32) (s0 : Int32) {R : ((Int32 × Int32 × zS) ⊕ zS)} (h : fX12_told_191 σ l0 l1 l2 l4 l6 s0 = some R) (K : Sum.elim (jX12_told_140 Γ l0 l1 l2) (eX12_told_140 Γ l0 l1 l2) R) : zJ Γ 10 0 0 σ 191 [(0, .ref l0), (1, .int l1), (2, .int l2), (4, .int l4), (6, .int l6)] [.int s0] := by
  unfold fX12_told_191 at h
  refine zj_istore (lv2 := [(7, .int s0), (0, .ref l0), (1, .int l1), (2, .int l2), (4, .int l4), (6, .int l6)]) E dX12_told_191 (by decide) rfl ?_
  refine zj_iload E dX12_told_193 5 rfl ?_
  refine zj_bipush (v := 16) E dX12_told_195 (by decide) ?_
  refine zj_icmp_ge (tgt := 204) E dX12_told_197 (by decide) h (fun h => ?_) (fun h => ?_)
  · refine zj_iload E dX12_told_204 5 rfl ?_
    refine zj_bipush (v := 16) E dX12_told_206 (by decide) ?_
    refine zj_icmp_ne (tgt := 221) E dX12_told_208 (by decide) h (fun h => ?_) (fun h => ?_)
    · refine zj_iload E dX12_told_221 5 rfl ?_
      refine zj_bipush (v := 17) E dX12_told_223 (by decide) ?_
      refine zj_icmp_ne (tgt := 238) E dX12_told_225 (by decide) h (fun h => ?_) (fun h => ?_)
      · refine zj_bipush (v := 11) E dX12_told_238 (by decide) ?_
        refine zj_aload_n E dX12_told_240 rfl 1 rfl ?_
        refine zj_bipush (v := 7) E dX12_told_241 (by decide) ?_
        obtain ⟨hk, h⟩ := oA_some h
        obtain ⟨x10, σ12, hc, h⟩ := oC_some h
        refine zs_callV (As := [.int 7]) (rest := [.int 11]) E zc11 zyX12_bits zw_19_16 (kX12_bits _ _ _ _ _ hc) rfl rfl hk rfl ⟨by decide, by decide⟩ ⟨by decide, by decide⟩ (Nat.le_of_ble_eq_true rfl) dX12_told_243 rfl (show zJ Γ 10 0 0 σ12 246 [(7, .int s0), (0, .ref l0), (1, .int l1), (2, .int l2), (4, .int l4), (6, .int l6)] [.int x10, .int 11] from ?_)
        refine zj_iadd E dX12_told_246 ?_
        refine zj_lv [1, 2, 3, 4, 0] rfl ?_
        exact wX12_told_247 E _ _ _ _ _ _ _ h K
      · refine zj_iconst (v := 3) E dX12_told_228 (by decide) ?_
        refine zj_aload_n E dX12_told_229 rfl 1 rfl ?_
        refine zj_iconst (v := 3) E dX12_told_230 (by decide) ?_
        obtain ⟨hk, h⟩ := oA_some h
        obtain ⟨x13, σ16, hc, h⟩ := oC_some h
        refine zs_callV (As := [.int 3]) (rest := [.int 3]) E zc11 zyX12_bits zw_19_16 (kX12_bits _ _ _ _ _ hc) rfl rfl hk rfl ⟨by decide, by decide⟩ ⟨by decide, by decide⟩ (Nat.le_of_ble_eq_true rfl) dX12_told_231 rfl (show zJ Γ 10 0 0 σ16 234 [(7, .int s0), (0, .ref l0), (1, .int l1), (2, .int l2), (4, .int l4), (6, .int l6)] [.int x13, .int 3] from ?_)
        refine zj_iadd E dX12_told_234 ?_
        refine zj_goto (tgt := 247) E dX12_told_235 (by decide) ?_
        refine zj_lv [1, 2, 3, 4, 0] rfl ?_
        exact wX12_told_247 E _ _ _ _ _ _ _ h K
    · refine zj_iconst (v := 3) E dX12_told_211 (by decide) ?_
      refine zj_aload_n E dX12_told_212 rfl 1 rfl ?_
      refine zj_iconst (v := 2) E dX12_told_213 (by decide) ?_
      obtain ⟨hk, h⟩ := oA_some h
      obtain ⟨x14, σ17, hc, h⟩ := oC_some h
      refine zs_callV (As := [.int 2]) (rest := [.int 3]) E zc11 zyX12_bits zw_19_16 (kX12_bits _ _ _ _ _ hc) rfl rfl hk rfl ⟨by decide, by decide⟩ ⟨by decide, by decide⟩ (Nat.le_of_ble_eq_true rfl) dX12_told_214 rfl (show zJ Γ 10 0 0 σ17 217 [(7, .int s0), (0, .ref l0), (1, .int l1), (2, .int l2), (4, .int l4), (6, .int l6)] [.int x14, .int 3] from ?_)
      refine zj_iadd E dX12_told_217 ?_
      refine zj_goto (tgt := 247) E dX12_told_218 (by decide) ?_
      refine zj_lv [1, 2, 3, 4, 0] rfl ?_
      exact wX12_told_247 E _ _ _ _ _ _ _ h K
  · refine zj_iconst (v := 1) E dX12_told_200 (by decide) ?_
    refine zj_goto (tgt := 247) E dX12_told_201 (by decide) ?_
    refine zj_lv [1, 2, 3, 4, 0] rfl ?_
    exact wX12_told_247 E _ _ _ _ _ _ _ h K
def bX12_told_140 (l0 : Nat) (l1 : Int32) (l2 : Int32) (l4 : Int32) (l5 : Int32) (σ : zS) : Option ((Int32 × Int32 × zS) ⊕ zS) := (if (l1 + l2) ≤ l4 then some (.inr σ) else oGI σ 12 l0 18 (fun x8 => (if x8 = 0 then oA (zk σ l0 = 12) (oC (fX12_symbol σ l0 352 19) (fun x9 σ11 => (if (16 : Int32) ≤ x9 then (if x9 = (16 : Int32) then fX12_told_191 σ11 l0 l1 l2 l4 x9 l5 else fX12_told_191 σ11 l0 l1 l2 l4 x9 0) else fX12_told_191 σ11 l0 l1 l2 l4 x9 x9))) else some (.inr σ))))
set_option maxRecDepth 100000 in
theorem wX12_told_L140 {Γ : zG} (E : zE Γ cX12_told RX12 10 { frames := 4, cells := 0, slots := 0, locals := 98 }) (l0 : Nat) (l1 : Int32) (l2 : Int32) : ∀ x R, (fun x => bX12_told_140 l0 l1 l2 x.1 x.2.1 x.2.2) x = some R → Sum.elim (jX12_told_140 Γ l0 l1 l2) (eX12_told_140 Γ l0 l1 l2) R → jX12_told_140 Γ l0 l1 l2 x := by
  intro x R h K
  obtain ⟨l4, l5, σ⟩ := x
  have h : bX12_told_140 l0 l1 l2 l4 l5 σ = some R := h
  show zJ Γ 10 0 0 σ 140 [(0, .ref l0), (1, .int l1), (2, .int l2), (4, .int l4), (5, .int l5)] []
  unfold bX12_told_140 at h
  refine zj_iload E dX12_told_140 3 rfl ?_
  refine zj_iload_n E dX12_told_142 rfl 1 rfl ?_
  refine zj_iload_n E dX12_told_143 rfl 2 rfl ?_
  refine zj_iadd E dX12_told_144 ?_
  refine zj_icmp_ge (tgt := 340) E dX12_told_145 (by decide) h (fun h => ?_) (fun h => ?_)
  · have e9 := Option.some.inj h
    subst e9
    refine zj_lv [0, 1, 2] rfl ?_
    exact K
  · refine zj_aload_n E dX12_told_148 rfl 0 rfl ?_
    refine zs_getI E zc11 18 (by decide) zw_19_13 rfl dX12_told_149 h (fun x8 h => ?_)
    refine zj_if_ne (tgt := 340) E dX12_told_152 (by decide) h (fun h => ?_) (fun h => ?_)
    · have e9 := Option.some.inj h
      subst e9
      refine zj_lv [0, 1, 2] rfl ?_
      exact K
    · refine zj_aload_n E dX12_told_155 rfl 0 rfl ?_
      refine zj_sipush (v := 352) E dX12_told_156 (by decide) ?_
      refine zj_bipush (v := 19) E dX12_told_159 (by decide) ?_
      obtain ⟨hk, h⟩ := oA_some h
      obtain ⟨x9, σ11, hc, h⟩ := oC_some h
      refine zs_callV (As := [.int 352, .int 19]) (rest := []) E zc11 zyX12_symbol zw_20_22 (kX12_symbol _ _ _ _ _ hc) rfl rfl hk rfl ⟨by decide, by decide⟩ ⟨by decide, by decide⟩ (Nat.le_of_ble_eq_true rfl) dX12_told_161 rfl (show zJ Γ 10 0 0 σ11 164 [(0, .ref l0), (1, .int l1), (2, .int l2), (4, .int l4), (5, .int l5)] [.int x9] from ?_)
      refine zj_istore (lv2 := [(6, .int x9), (0, .ref l0), (1, .int l1), (2, .int l2), (4, .int l4), (5, .int l5)]) E dX12_told_164 (by decide) rfl ?_
      refine zj_iload E dX12_told_166 0 rfl ?_
      refine zj_bipush (v := 16) E dX12_told_168 (by decide) ?_
      refine zj_icmp_ge (tgt := 178) E dX12_told_170 (by decide) h (fun h => ?_) (fun h => ?_)
      · refine zj_iload E dX12_told_178 0 rfl ?_
        refine zj_bipush (v := 16) E dX12_told_180 (by decide) ?_
        refine zj_icmp_ne (tgt := 190) E dX12_told_182 (by decide) h (fun h => ?_) (fun h => ?_)
        · refine zj_iconst (v := 0) E dX12_told_190 (by decide) ?_
          refine zj_lv [1, 2, 3, 4, 0] rfl ?_
          exact wX12_told_191 E _ _ _ _ _ _ _ h K
        · refine zj_iload E dX12_told_185 5 rfl ?_
          refine zj_goto (tgt := 191) E dX12_told_187 (by decide) ?_
          refine zj_lv [1, 2, 3, 4, 0] rfl ?_
          exact wX12_told_191 E _ _ _ _ _ _ _ h K
      · refine zj_iload E dX12_told_173 0 rfl ?_
        refine zj_goto (tgt := 191) E dX12_told_175 (by decide) ?_
        refine zj_lv [1, 2, 3, 4, 0] rfl ?_
        exact wX12_told_191 E _ _ _ _ _ _ _ h K
def fX12_told_364 (σ : zS) (l0 : Nat) (l1 : Int32) (l2 : Int32) (s0 : Int32) (s1 : Nat) : Option zS := oPZ σ 12 s1 18 s0 (fun σ19 => oGI σ19 12 l0 18 (fun x16 => (if x16 = 0 then oA (zk σ19 l0 = 12) (oB (fX12_makeCodes σ19 l0 0 l1 0) (fun σ20 => oA (zk σ20 l0 = 12) (oB (fX12_makeCodes σ20 l0 320 l2 1) (fun σ21 => oA (zk σ21 l0 = 12) (oB (fX12_coded σ21 l0 l1 l2) (fun σ22 => some σ22)))))) else some σ19)))
set_option maxRecDepth 100000 in
theorem wX12_told_364 {Γ : zG} (E : zE Γ cX12_told RX12 10 { frames := 4, cells := 0, slots := 0, locals := 98 }) (σ : zS) (l0 : Nat) (l1 : Int32) (l2 : Int32) (s0 : Int32) (s1 : Nat) {R : zS} (h : fX12_told_364 σ l0 l1 l2 s0 s1 = some R) (K : zRet Γ cX12_told 10 0 0 (none) R) : zJ Γ 10 0 0 σ 364 [(0, .ref l0), (1, .int l1), (2, .int l2)] [.int s0, .ref s1] := by
  unfold fX12_told_364 at h
  refine zs_putZ E zc11 18 (by decide) zw_19_13 rfl rfl dX12_told_364 h (fun σ19 h => ?_)
  refine zj_aload_n E dX12_told_367 rfl 0 rfl ?_
  refine zs_getI E zc11 18 (by decide) zw_19_13 rfl dX12_told_368 h (fun x16 h => ?_)
  refine zj_if_ne (tgt := 396) E dX12_told_371 (by decide) h (fun h => ?_) (fun h => ?_)
  · have e9 := Option.some.inj h
    subst e9
    exact (show zRet Γ cX12_told 10 0 0 (none) σ19 from K) _ _ dX12_told_396
  · refine zj_aload_n E dX12_told_374 rfl 0 rfl ?_
    refine zj_iconst (v := 0) E dX12_told_375 (by decide) ?_
    refine zj_iload_n E dX12_told_376 rfl 1 rfl ?_
    refine zj_iconst (v := 0) E dX12_told_377 (by decide) ?_
    obtain ⟨hk, h⟩ := oA_some h
    obtain ⟨σ20, hc, h⟩ := oB_some h
    refine zs_callV (As := [.int 0, .int l1, .int 0]) (rest := []) E zc11 zyX12_makeCodes zw_20_13 (kX12_makeCodes _ _ _ _ _ hc) rfl rfl hk rfl ⟨by decide, by decide⟩ ⟨by decide, by decide⟩ (Nat.le_of_ble_eq_true rfl) dX12_told_378 rfl (show zJ Γ 10 0 0 σ20 381 [(0, .ref l0), (1, .int l1), (2, .int l2)] [] from ?_)
    refine zj_aload_n E dX12_told_381 rfl 0 rfl ?_
    refine zj_sipush (v := 320) E dX12_told_382 (by decide) ?_
    refine zj_iload_n E dX12_told_385 rfl 2 rfl ?_
    refine zj_iconst (v := 1) E dX12_told_386 (by decide) ?_
    obtain ⟨hk, h⟩ := oA_some h
    obtain ⟨σ21, hc, h⟩ := oB_some h
    refine zs_callV (As := [.int 320, .int l2, .int 1]) (rest := []) E zc11 zyX12_makeCodes zw_20_13 (kX12_makeCodes _ _ _ _ _ hc) rfl rfl hk rfl ⟨by decide, by decide⟩ ⟨by decide, by decide⟩ (Nat.le_of_ble_eq_true rfl) dX12_told_387 rfl (show zJ Γ 10 0 0 σ21 390 [(0, .ref l0), (1, .int l1), (2, .int l2)] [] from ?_)
    refine zj_aload_n E dX12_told_390 rfl 0 rfl ?_
    refine zj_iload_n E dX12_told_391 rfl 1 rfl ?_
    refine zj_iload_n E dX12_told_392 rfl 2 rfl ?_
    obtain ⟨hk, h⟩ := oA_some h
    obtain ⟨σ22, hc, h⟩ := oB_some h
    refine zs_callV (As := [.int l1, .int l2]) (rest := []) E zc11 zyX12_coded zw_20_18 (kX12_coded _ _ _ _ _ hc) rfl rfl hk rfl ⟨by decide, by decide⟩ ⟨by decide, by decide⟩ (Nat.le_of_ble_eq_true rfl) dX12_told_393 rfl (show zJ Γ 10 0 0 σ22 396 [(0, .ref l0), (1, .int l1), (2, .int l2)] [] from ?_)
    have e9 := Option.some.inj h
    subst e9
    exact (show zRet Γ cX12_told 10 0 0 (none) σ22 from K) _ _ dX12_told_396
def fX12_told_359 (σ : zS) (l0 : Nat) (l1 : Int32) (l2 : Int32) (s0 : Nat) : Option zS := fX12_told_364 σ l0 l1 l2 1 s0
set_option maxRecDepth 100000 in
theorem wX12_told_359 {Γ : zG} (E : zE Γ cX12_told RX12 10 { frames := 4, cells := 0, slots := 0, locals := 98 }) (σ : zS) (l0 : Nat) (l1 : Int32) (l2 : Int32) (s0 : Nat) {R : zS} (h : fX12_told_359 σ l0 l1 l2 s0 = some R) (K : zRet Γ cX12_told 10 0 0 (none) R) : zJ Γ 10 0 0 σ 359 [(0, .ref l0), (1, .int l1), (2, .int l2)] [.ref s0] := by
  unfold fX12_told_359 at h
  refine zj_iconst (v := 1) E dX12_told_359 (by decide) ?_
  refine zj_goto (tgt := 364) E dX12_told_360 (by decide) ?_
  refine zj_lv [0, 1, 2] rfl ?_
  exact wX12_told_364 E _ _ _ _ _ _ h K
def fX12_told_52 (σ : zS) (l0 : Nat) (l1 : Int32) (l2 : Int32) (l3 : Int32) (s0 : Int32) (s1 : Nat) : Option zS := oPZ σ 12 s1 18 s0 (fun σ4 => oB (zloop zF (fun x => bX12_told_58 l0 l1 l2 l3 x.1 x.2) (0, σ4)) (fun b1 => (fun σ6 => oB (zloop zF (fun x => bX12_told_86 l0 l1 l2 l3 x.1 x.2) (0, σ6)) (fun b2 => (fun σ9 => oA (zk σ9 l0 = 12) (oB (fX12_makeCodes σ9 l0 352 19 0) (fun σ10 => oB (zloop zF (fun x => bX12_told_140 l0 l1 l2 x.1 x.2.1 x.2.2) (0, (-1 : Int32), σ10)) (fun b4 => (fun σ18 => oGI σ18 12 l0 18 (fun x15 => (if x15 = 0 then oGR σ18 12 l0 21 (fun a4 => oLd σ18 21 a4 256 (fun x17 => (if x17 = 0 then fX12_told_359 σ18 l0 l1 l2 l0 else fX12_told_364 σ18 l0 l1 l2 0 l0))) else fX12_told_359 σ18 l0 l1 l2 l0))) b4)))) b2)) b1))
set_option maxRecDepth 100000 in
theorem wX12_told_52 {Γ : zG} (E : zE Γ cX12_told RX12 10 { frames := 4, cells := 0, slots := 0, locals := 98 }) (σ : zS) (l0 : Nat) (l1 : Int32) (l2 : Int32) (l3 : Int32) (s0 : Int32) (s1 : Nat) {R : zS} (h : fX12_told_52 σ l0 l1 l2 l3 s0 s1 = some R) (K : zRet Γ cX12_told 10 0 0 (none) R) : zJ Γ 10 0 0 σ 52 [(0, .ref l0), (1, .int l1), (2, .int l2), (3, .int l3)] [.int s0, .ref s1] := by
  unfold fX12_told_52 at h
  refine zs_putZ E zc11 18 (by decide) zw_19_13 rfl rfl dX12_told_52 h (fun σ4 h => ?_)
  refine zj_iconst (v := 0) E dX12_told_55 (by decide) ?_
  refine zj_istore (lv2 := [(4, .int 0), (0, .ref l0), (1, .int l1), (2, .int l2), (3, .int l3)]) E dX12_told_56 (by decide) rfl ?_
  obtain ⟨b1, hb1, h⟩ := oB_some h
  refine zj_lv [1, 2, 3, 4, 0] rfl ?_
  refine zj_loop (wX12_told_L58 E l0 l1 l2 l3) zF (0, σ4) b1 hb1 ?_
  obtain ⟨σ6, rfl⟩ : ∃ z, z = b1 := ⟨_, rfl⟩
  try dsimp only at h
  show zJ Γ 10 0 0 σ6 83 [(0, .ref l0), (1, .int l1), (2, .int l2), (3, .int l3)] []
  refine zj_iconst (v := 0) E dX12_told_83 (by decide) ?_
  refine zj_istore (lv2 := [(4, .int 0), (0, .ref l0), (1, .int l1), (2, .int l2), (3, .int l3)]) E dX12_told_84 (by decide) rfl ?_
  obtain ⟨b2, hb2, h⟩ := oB_some h
  refine zj_lv [1, 2, 3, 4, 0] rfl ?_
  refine zj_loop (wX12_told_L86 E l0 l1 l2 l3) zF (0, σ6) b2 hb2 ?_
  obtain ⟨σ9, rfl⟩ : ∃ z, z = b2 := ⟨_, rfl⟩
  try dsimp only at h
  show zJ Γ 10 0 0 σ9 124 [(0, .ref l0), (1, .int l1), (2, .int l2)] []
  refine zj_aload_n E dX12_told_124 rfl 0 rfl ?_
  refine zj_sipush (v := 352) E dX12_told_125 (by decide) ?_
  refine zj_bipush (v := 19) E dX12_told_128 (by decide) ?_
  refine zj_iconst (v := 0) E dX12_told_130 (by decide) ?_
  obtain ⟨hk, h⟩ := oA_some h
  obtain ⟨σ10, hc, h⟩ := oB_some h
  refine zs_callV (As := [.int 352, .int 19, .int 0]) (rest := []) E zc11 zyX12_makeCodes zw_20_13 (kX12_makeCodes _ _ _ _ _ hc) rfl rfl hk rfl ⟨by decide, by decide⟩ ⟨by decide, by decide⟩ (Nat.le_of_ble_eq_true rfl) dX12_told_131 rfl (show zJ Γ 10 0 0 σ10 134 [(0, .ref l0), (1, .int l1), (2, .int l2)] [] from ?_)
  refine zj_iconst (v := 0) E dX12_told_134 (by decide) ?_
  refine zj_istore (lv2 := [(4, .int 0), (0, .ref l0), (1, .int l1), (2, .int l2)]) E dX12_told_135 (by decide) rfl ?_
  refine zj_iconst (v := (-1 : Int32)) E dX12_told_137 (by decide) ?_
  refine zj_istore (lv2 := [(5, .int (-1 : Int32)), (4, .int 0), (0, .ref l0), (1, .int l1), (2, .int l2)]) E dX12_told_138 (by decide) rfl ?_
  obtain ⟨b4, hb4, h⟩ := oB_some h
  refine zj_lv [2, 3, 4, 1, 0] rfl ?_
  refine zj_loop (wX12_told_L140 E l0 l1 l2) zF (0, (-1 : Int32), σ10) b4 hb4 ?_
  obtain ⟨σ18, rfl⟩ : ∃ z, z = b4 := ⟨_, rfl⟩
  try dsimp only at h
  show zJ Γ 10 0 0 σ18 340 [(0, .ref l0), (1, .int l1), (2, .int l2)] []
  refine zj_aload_n E dX12_told_340 rfl 0 rfl ?_
  refine zj_aload_n E dX12_told_341 rfl 0 rfl ?_
  refine zs_getI E zc11 18 (by decide) zw_19_13 rfl dX12_told_342 h (fun x15 h => ?_)
  refine zj_if_ne (tgt := 359) E dX12_told_345 (by decide) h (fun h => ?_) (fun h => ?_)
  · refine zj_lv [0, 1, 2] rfl ?_
    exact wX12_told_359 E _ _ _ _ _ h K
  · refine zj_aload_n E dX12_told_348 rfl 0 rfl ?_
    refine zs_getR E zc11 21 (by decide) zw_6_13 rfl dX12_told_349 h (fun a4 h => ?_)
    refine zj_sipush (v := 256) E dX12_told_352 (by decide) ?_
    refine zs_iald E dX12_told_355 h (fun x17 h => ?_)
    refine zj_if_ne (tgt := 363) E dX12_told_356 (by decide) h (fun h => ?_) (fun h => ?_)
    · refine zj_iconst (v := 0) E dX12_told_363 (by decide) ?_
      refine zj_lv [0, 1, 2] rfl ?_
      exact wX12_told_364 E _ _ _ _ _ _ h K
    · refine zj_lv [0, 1, 2] rfl ?_
      exact wX12_told_359 E _ _ _ _ _ h K
def fX12_told_47 (σ : zS) (l0 : Nat) (l1 : Int32) (l2 : Int32) (l3 : Int32) (s0 : Nat) : Option zS := fX12_told_52 σ l0 l1 l2 l3 1 s0
set_option maxRecDepth 100000 in
theorem wX12_told_47 {Γ : zG} (E : zE Γ cX12_told RX12 10 { frames := 4, cells := 0, slots := 0, locals := 98 }) (σ : zS) (l0 : Nat) (l1 : Int32) (l2 : Int32) (l3 : Int32) (s0 : Nat) {R : zS} (h : fX12_told_47 σ l0 l1 l2 l3 s0 = some R) (K : zRet Γ cX12_told 10 0 0 (none) R) : zJ Γ 10 0 0 σ 47 [(0, .ref l0), (1, .int l1), (2, .int l2), (3, .int l3)] [.ref s0] := by
  unfold fX12_told_47 at h
  refine zj_iconst (v := 1) E dX12_told_47 (by decide) ?_
  refine zj_goto (tgt := 52) E dX12_told_48 (by decide) ?_
  refine zj_lv [0, 1, 2, 3] rfl ?_
  exact wX12_told_52 E _ _ _ _ _ _ _ h K
def fX12_told (σ : zS) (p0 : Nat) : Option zS := oA (zk σ p0 = 12) (oC (fX12_bits σ p0 5) (fun x1 σ1 => oL (x1 + (257 : Int32)) (fun v1 => oA (zk σ1 p0 = 12) (oC (fX12_bits σ1 p0 5) (fun x2 σ2 => oL (x2 + (1 : Int32)) (fun v2 => oA (zk σ2 p0 = 12) (oC (fX12_bits σ2 p0 4) (fun x3 σ3 => oL (x3 + (4 : Int32)) (fun v3 => oGI σ3 12 p0 18 (fun x4 => (if x4 = 0 then (if (286 : Int32) < v1 then fX12_told_47 σ3 p0 v1 v2 v3 p0 else (if v2 ≤ (30 : Int32) then fX12_told_52 σ3 p0 v1 v2 v3 0 p0 else fX12_told_47 σ3 p0 v1 v2 v3 p0)) else fX12_told_47 σ3 p0 v1 v2 v3 p0)))))))))))
set_option maxRecDepth 100000 in
theorem wX12_told {Γ : zG} (E : zE Γ cX12_told RX12 10 { frames := 4, cells := 0, slots := 0, locals := 98 }) (σ : zS) (p0 : Nat) {R : zS} (h : fX12_told σ p0 = some R) (K : zRet Γ cX12_told 10 0 0 (none) R) : zJ Γ 10 0 0 σ 0 [(0, .ref p0)] [] := by
  unfold fX12_told at h
  refine zj_aload_n E dX12_told_0 rfl 0 rfl ?_
  refine zj_iconst (v := 5) E dX12_told_1 (by decide) ?_
  obtain ⟨hk, h⟩ := oA_some h
  obtain ⟨x1, σ1, hc, h⟩ := oC_some h
  refine zs_callV (As := [.int 5]) (rest := []) E zc11 zyX12_bits zw_19_16 (kX12_bits _ _ _ _ _ hc) rfl rfl hk rfl ⟨by decide, by decide⟩ ⟨by decide, by decide⟩ (Nat.le_of_ble_eq_true rfl) dX12_told_2 rfl (show zJ Γ 10 0 0 σ1 5 [(0, .ref p0)] [.int x1] from ?_)
  refine zj_sipush (v := 257) E dX12_told_5 (by decide) ?_
  refine zj_iadd E dX12_told_8 ?_
  refine zs_istore_n (lv2 := fun v1 => [(1, .int v1), (0, .ref p0)]) E dX12_told_9 rfl (by decide) (fun _ => rfl) h (fun v1 h => ?_)
  refine zj_aload_n E dX12_told_10 rfl 1 rfl ?_
  refine zj_iconst (v := 5) E dX12_told_11 (by decide) ?_
  obtain ⟨hk, h⟩ := oA_some h
  obtain ⟨x2, σ2, hc, h⟩ := oC_some h
  refine zs_callV (As := [.int 5]) (rest := []) E zc11 zyX12_bits zw_19_16 (kX12_bits _ _ _ _ _ hc) rfl rfl hk rfl ⟨by decide, by decide⟩ ⟨by decide, by decide⟩ (Nat.le_of_ble_eq_true rfl) dX12_told_12 rfl (show zJ Γ 10 0 0 σ2 15 [(1, .int v1), (0, .ref p0)] [.int x2] from ?_)
  refine zj_iconst (v := 1) E dX12_told_15 (by decide) ?_
  refine zj_iadd E dX12_told_16 ?_
  refine zs_istore_n (lv2 := fun v2 => [(2, .int v2), (1, .int v1), (0, .ref p0)]) E dX12_told_17 rfl (by decide) (fun _ => rfl) h (fun v2 h => ?_)
  refine zj_aload_n E dX12_told_18 rfl 2 rfl ?_
  refine zj_iconst (v := 4) E dX12_told_19 (by decide) ?_
  obtain ⟨hk, h⟩ := oA_some h
  obtain ⟨x3, σ3, hc, h⟩ := oC_some h
  refine zs_callV (As := [.int 4]) (rest := []) E zc11 zyX12_bits zw_19_16 (kX12_bits _ _ _ _ _ hc) rfl rfl hk rfl ⟨by decide, by decide⟩ ⟨by decide, by decide⟩ (Nat.le_of_ble_eq_true rfl) dX12_told_20 rfl (show zJ Γ 10 0 0 σ3 23 [(2, .int v2), (1, .int v1), (0, .ref p0)] [.int x3] from ?_)
  refine zj_iconst (v := 4) E dX12_told_23 (by decide) ?_
  refine zj_iadd E dX12_told_24 ?_
  refine zs_istore_n (lv2 := fun v3 => [(3, .int v3), (2, .int v2), (1, .int v1), (0, .ref p0)]) E dX12_told_25 rfl (by decide) (fun _ => rfl) h (fun v3 h => ?_)
  refine zj_aload_n E dX12_told_26 rfl 3 rfl ?_
  refine zj_aload_n E dX12_told_27 rfl 3 rfl ?_
  refine zs_getI E zc11 18 (by decide) zw_19_13 rfl dX12_told_28 h (fun x4 h => ?_)
  refine zj_if_ne (tgt := 47) E dX12_told_31 (by decide) h (fun h => ?_) (fun h => ?_)
  · refine zj_lv [3, 2, 1, 0] rfl ?_
    exact wX12_told_47 E _ _ _ _ _ _ h K
  · refine zj_iload_n E dX12_told_34 rfl 2 rfl ?_
    refine zj_sipush (v := 286) E dX12_told_35 (by decide) ?_
    refine zj_icmp_gt (tgt := 47) E dX12_told_38 (by decide) h (fun h => ?_) (fun h => ?_)
    · refine zj_lv [3, 2, 1, 0] rfl ?_
      exact wX12_told_47 E _ _ _ _ _ _ h K
    · refine zj_iload_n E dX12_told_41 rfl 1 rfl ?_
      refine zj_bipush (v := 30) E dX12_told_42 (by decide) ?_
      refine zj_icmp_le (tgt := 51) E dX12_told_44 (by decide) h (fun h => ?_) (fun h => ?_)
      · refine zj_iconst (v := 0) E dX12_told_51 (by decide) ?_
        refine zj_lv [3, 2, 1, 0] rfl ?_
        exact wX12_told_52 E _ _ _ _ _ _ _ h K
      · refine zj_lv [3, 2, 1, 0] rfl ?_
        exact wX12_told_47 E _ _ _ _ _ _ h K
set_option maxRecDepth 100000 in
theorem kX12_told (l : Launch) (D : va_G) (cs : zCs) (z0 : Nat) (σ : zS) {p0 : Nat}  {σ' : zS} (h : fX12_told σ p0 = some σ') : zM l D cs z0 yX12_told cX12_told 10 none { frames := 4, cells := 0, slots := 0, locals := 98 } [.ref p0] σ none σ' 0 0 := by
  exact zM_of (by decide) rfl rfl (Nat.le_of_ble_eq_true rfl) rfl (fun Γ e1 e2 e3 e4 E hN K => wX12_told E σ _ h K)
/-! X12_unpack -/
def jX12_unpack_79 (Γ : zG) (l0 : Nat) : (Int32 × zS) → Prop := fun x => zJ Γ 7 0 0 x.2 79 [(0, .ref l0), (1, .int x.1)] []
def eX12_unpack_79 (Γ : zG) (l0 : Nat) : zS → Prop := fun b => zJ Γ 7 0 0 b 161 [(0, .ref l0)] []
def fX12_unpack_158 (σ : zS) (l0 : Nat) (l1 : Int32) : Option ((Int32 × zS) ⊕ zS) := some (.inl (l1, σ))
set_option maxRecDepth 100000 in
theorem wX12_unpack_158 {Γ : zG} (E : zE Γ cX12_unpack RX12 7 { frames := 5, cells := 0, slots := 0, locals := 127 }) (σ : zS) (l0 : Nat) (l1 : Int32) {R : ((Int32 × zS) ⊕ zS)} (h : fX12_unpack_158 σ l0 l1 = some R) (K : Sum.elim (jX12_unpack_79 Γ l0) (eX12_unpack_79 Γ l0) R) : zJ Γ 7 0 0 σ 158 [(0, .ref l0), (1, .int l1)] [] := by
  unfold fX12_unpack_158 at h
  refine zj_goto (tgt := 79) E dX12_unpack_158 (by decide) ?_
  have e9 := Option.some.inj h
  subst e9
  refine zj_lv [0, 1] rfl ?_
  exact K
def fX12_unpack_123 (σ : zS) (l0 : Nat) (l1 : Int32) : Option ((Int32 × zS) ⊕ zS) := oPZ σ 12 l0 18 1 (fun σ7 => fX12_unpack_158 σ7 l0 l1)
set_option maxRecDepth 100000 in
theorem wX12_unpack_123 {Γ : zG} (E : zE Γ cX12_unpack RX12 7 { frames := 5, cells := 0, slots := 0, locals := 127 }) (σ : zS) (l0 : Nat) (l1 : Int32) {R : ((Int32 × zS) ⊕ zS)} (h : fX12_unpack_123 σ l0 l1 = some R) (K : Sum.elim (jX12_unpack_79 Γ l0) (eX12_unpack_79 Γ l0) R) : zJ Γ 7 0 0 σ 123 [(0, .ref l0), (1, .int l1)] [] := by
  unfold fX12_unpack_123 at h
  refine zj_aload_n E dX12_unpack_123 rfl 0 rfl ?_
  refine zj_iconst (v := 1) E dX12_unpack_124 (by decide) ?_
  refine zs_putZ E zc11 18 (by decide) zw_19_13 rfl rfl dX12_unpack_125 h (fun σ7 h => ?_)
  refine zj_goto (tgt := 158) E dX12_unpack_128 (by decide) ?_
  refine zj_lv [0, 1] rfl ?_
  exact wX12_unpack_158 E _ _ _ h K
def fX12_unpack_104 (σ : zS) (l0 : Nat) (s0 : Int32) : Option ((Int32 × zS) ⊕ zS) := oA (zk σ l0 = 12) (oC (fX12_bits σ l0 2) (fun x4 σ6 => oGI σ6 12 l0 18 (fun x5 => (if x5 = 0 then (if x4 = (3 : Int32) then fX12_unpack_123 σ6 l0 s0 else (if x4 = 0 then oA (zk σ6 l0 = 12) (oB (fX12_plain σ6 l0) (fun σ10 => fX12_unpack_158 σ10 l0 s0)) else (if x4 = (1 : Int32) then oA (zk σ6 l0 = 12) (oB (fX12_fixed σ6 l0) (fun σ9 => fX12_unpack_158 σ9 l0 s0)) else oA (zk σ6 l0 = 12) (oB (fX12_told σ6 l0) (fun σ8 => fX12_unpack_158 σ8 l0 s0))))) else fX12_unpack_123 σ6 l0 s0))))
set_option maxRecDepth 100000 in
theorem wX12_unpack_104 {Γ : zG} (E : zE Γ cX12_unpack RX12 7 { frames := 5, cells := 0, slots := 0, locals := 127 }) (σ : zS) (l0 : Nat) (s0 : Int32) {R : ((Int32 × zS) ⊕ zS)} (h : fX12_unpack_104 σ l0 s0 = some R) (K : Sum.elim (jX12_unpack_79 Γ l0) (eX12_unpack_79 Γ l0) R) : zJ Γ 7 0 0 σ 104 [(0, .ref l0)] [.int s0] := by
  unfold fX12_unpack_104 at h
  refine zj_istore_n (lv2 := [(1, .int s0), (0, .ref l0)]) E dX12_unpack_104 rfl (by decide) rfl ?_
  refine zj_aload_n E dX12_unpack_105 rfl 1 rfl ?_
  refine zj_iconst (v := 2) E dX12_unpack_106 (by decide) ?_
  obtain ⟨hk, h⟩ := oA_some h
  obtain ⟨x4, σ6, hc, h⟩ := oC_some h
  refine zs_callV (As := [.int 2]) (rest := []) E zc11 zyX12_bits zw_19_16 (kX12_bits _ _ _ _ _ hc) rfl rfl hk rfl ⟨by decide, by decide⟩ ⟨by decide, by decide⟩ (Nat.le_of_ble_eq_true rfl) dX12_unpack_107 rfl (show zJ Γ 7 0 0 σ6 110 [(1, .int s0), (0, .ref l0)] [.int x4] from ?_)
  refine zj_istore_n (lv2 := [(2, .int x4), (1, .int s0), (0, .ref l0)]) E dX12_unpack_110 rfl (by decide) rfl ?_
  refine zj_aload_n E dX12_unpack_111 rfl 2 rfl ?_
  refine zs_getI E zc11 18 (by decide) zw_19_13 rfl dX12_unpack_112 h (fun x5 h => ?_)
  refine zj_if_ne (tgt := 123) E dX12_unpack_115 (by decide) h (fun h => ?_) (fun h => ?_)
  · refine zj_lv [2, 1] rfl ?_
    exact wX12_unpack_123 E _ _ _ h K
  · refine zj_iload_n E dX12_unpack_118 rfl 0 rfl ?_
    refine zj_iconst (v := 3) E dX12_unpack_119 (by decide) ?_
    refine zj_icmp_ne (tgt := 131) E dX12_unpack_120 (by decide) h (fun h => ?_) (fun h => ?_)
    · refine zj_iload_n E dX12_unpack_131 rfl 0 rfl ?_
      refine zj_if_ne (tgt := 142) E dX12_unpack_132 (by decide) h (fun h => ?_) (fun h => ?_)
      · refine zj_iload_n E dX12_unpack_142 rfl 0 rfl ?_
        refine zj_iconst (v := 1) E dX12_unpack_143 (by decide) ?_
        refine zj_icmp_ne (tgt := 154) E dX12_unpack_144 (by decide) h (fun h => ?_) (fun h => ?_)
        · refine zj_aload_n E dX12_unpack_154 rfl 2 rfl ?_
          obtain ⟨hk, h⟩ := oA_some h
          obtain ⟨σ8, hc, h⟩ := oB_some h
          refine zs_callV (As := []) (rest := []) E zc11 zyX12_told zw_21_18 (kX12_told _ _ _ _ _ hc) rfl rfl hk rfl ⟨by decide, by decide⟩ ⟨by decide, by decide⟩ (Nat.le_of_ble_eq_true rfl) dX12_unpack_155 rfl (show zJ Γ 7 0 0 σ8 158 [(2, .int x4), (1, .int s0), (0, .ref l0)] [] from ?_)
          refine zj_lv [2, 1] rfl ?_
          exact wX12_unpack_158 E _ _ _ h K
        · refine zj_aload_n E dX12_unpack_147 rfl 2 rfl ?_
          obtain ⟨hk, h⟩ := oA_some h
          obtain ⟨σ9, hc, h⟩ := oB_some h
          refine zs_callV (As := []) (rest := []) E zc11 zyX12_fixed zw_20_9 (kX12_fixed _ _ _ _ _ hc) rfl rfl hk rfl ⟨by decide, by decide⟩ ⟨by decide, by decide⟩ (Nat.le_of_ble_eq_true rfl) dX12_unpack_148 rfl (show zJ Γ 7 0 0 σ9 151 [(2, .int x4), (1, .int s0), (0, .ref l0)] [] from ?_)
          refine zj_goto (tgt := 158) E dX12_unpack_151 (by decide) ?_
          refine zj_lv [2, 1] rfl ?_
          exact wX12_unpack_158 E _ _ _ h K
      · refine zj_aload_n E dX12_unpack_135 rfl 2 rfl ?_
        obtain ⟨hk, h⟩ := oA_some h
        obtain ⟨σ10, hc, h⟩ := oB_some h
        refine zs_callV (As := []) (rest := []) E zc11 zyX12_plain zw_19_20 (kX12_plain _ _ _ _ _ hc) rfl rfl hk rfl ⟨by decide, by decide⟩ ⟨by decide, by decide⟩ (Nat.le_of_ble_eq_true rfl) dX12_unpack_136 rfl (show zJ Γ 7 0 0 σ10 139 [(2, .int x4), (1, .int s0), (0, .ref l0)] [] from ?_)
        refine zj_goto (tgt := 158) E dX12_unpack_139 (by decide) ?_
        refine zj_lv [2, 1] rfl ?_
        exact wX12_unpack_158 E _ _ _ h K
    · refine zj_lv [2, 1] rfl ?_
      exact wX12_unpack_123 E _ _ _ h K
def bX12_unpack_79 (l0 : Nat) (l1 : Int32) (σ : zS) : Option ((Int32 × zS) ⊕ zS) := (if l1 = 0 then oGI σ 12 l0 18 (fun x2 => (if x2 = 0 then oA (zk σ l0 = 12) (oC (fX12_bits σ l0 1) (fun x3 σ5 => (if x3 = (1 : Int32) then fX12_unpack_104 σ5 l0 1 else fX12_unpack_104 σ5 l0 0))) else some (.inr σ))) else some (.inr σ))
set_option maxRecDepth 100000 in
theorem wX12_unpack_L79 {Γ : zG} (E : zE Γ cX12_unpack RX12 7 { frames := 5, cells := 0, slots := 0, locals := 127 }) (l0 : Nat) : ∀ x R, (fun x => bX12_unpack_79 l0 x.1 x.2) x = some R → Sum.elim (jX12_unpack_79 Γ l0) (eX12_unpack_79 Γ l0) R → jX12_unpack_79 Γ l0 x := by
  intro x R h K
  obtain ⟨l1, σ⟩ := x
  have h : bX12_unpack_79 l0 l1 σ = some R := h
  show zJ Γ 7 0 0 σ 79 [(0, .ref l0), (1, .int l1)] []
  unfold bX12_unpack_79 at h
  refine zj_iload_n E dX12_unpack_79 rfl 1 rfl ?_
  refine zj_if_ne (tgt := 161) E dX12_unpack_80 (by decide) h (fun h => ?_) (fun h => ?_)
  · have e9 := Option.some.inj h
    subst e9
    refine zj_lv [0] rfl ?_
    exact K
  · refine zj_aload_n E dX12_unpack_83 rfl 0 rfl ?_
    refine zs_getI E zc11 18 (by decide) zw_19_13 rfl dX12_unpack_84 h (fun x2 h => ?_)
    refine zj_if_ne (tgt := 161) E dX12_unpack_87 (by decide) h (fun h => ?_) (fun h => ?_)
    · have e9 := Option.some.inj h
      subst e9
      refine zj_lv [0] rfl ?_
      exact K
    · refine zj_aload_n E dX12_unpack_90 rfl 0 rfl ?_
      refine zj_iconst (v := 1) E dX12_unpack_91 (by decide) ?_
      obtain ⟨hk, h⟩ := oA_some h
      obtain ⟨x3, σ5, hc, h⟩ := oC_some h
      refine zs_callV (As := [.int 1]) (rest := []) E zc11 zyX12_bits zw_19_16 (kX12_bits _ _ _ _ _ hc) rfl rfl hk rfl ⟨by decide, by decide⟩ ⟨by decide, by decide⟩ (Nat.le_of_ble_eq_true rfl) dX12_unpack_92 rfl (show zJ Γ 7 0 0 σ5 95 [(0, .ref l0), (1, .int l1)] [.int x3] from ?_)
      refine zj_iconst (v := 1) E dX12_unpack_95 (by decide) ?_
      refine zj_icmp_ne (tgt := 103) E dX12_unpack_96 (by decide) h (fun h => ?_) (fun h => ?_)
      · refine zj_iconst (v := 0) E dX12_unpack_103 (by decide) ?_
        refine zj_lv [0] rfl ?_
        exact wX12_unpack_104 E _ _ _ h K
      · refine zj_iconst (v := 1) E dX12_unpack_99 (by decide) ?_
        refine zj_goto (tgt := 104) E dX12_unpack_100 (by decide) ?_
        refine zj_lv [0] rfl ?_
        exact wX12_unpack_104 E _ _ _ h K
def jX12_unpack_181 (Γ : zG) (σ : zS) (l0 : Nat) : (Int32 × Int32 × Int32) → Prop := fun x => zJ Γ 7 0 0 σ 181 [(0, .ref l0), (2, .int x.1), (3, .int x.2.1), (4, .int x.2.2)] []
def eX12_unpack_181 (Γ : zG) (σ : zS) (l0 : Nat) : (Int32 × Int32) → Prop := fun b => zJ Γ 7 0 0 σ 220 [(0, .ref l0), (2, .int b.1), (3, .int b.2)] []
def bX12_unpack_181 (σ : zS) (l0 : Nat) (l2 : Int32) (l3 : Int32) (l4 : Int32) : Option ((Int32 × Int32 × Int32) ⊕ (Int32 × Int32)) := oGI σ 12 l0 19 (fun x7 => (if x7 ≤ l4 then some (.inr (l2, l3)) else oGR σ 12 l0 20 (fun a1 => oLd σ 20 a1 l4 (fun x8 => oL ((l2 + (x8 &&& (255 : Int32))) - (l2 + (x8 &&& (255 : Int32))) / (65521 : Int32) * (65521 : Int32)) (fun v1 => oL ((l3 + v1) - (l3 + v1) / (65521 : Int32) * (65521 : Int32)) (fun v2 => oL (l4 + 1) (fun v3 => some (.inl (v1, v2, v3)))))))))
set_option maxRecDepth 100000 in
theorem wX12_unpack_L181 {Γ : zG} (E : zE Γ cX12_unpack RX12 7 { frames := 5, cells := 0, slots := 0, locals := 127 }) (σ : zS) (l0 : Nat) : ∀ x R, (fun x => bX12_unpack_181 σ l0 x.1 x.2.1 x.2.2) x = some R → Sum.elim (jX12_unpack_181 Γ σ l0) (eX12_unpack_181 Γ σ l0) R → jX12_unpack_181 Γ σ l0 x := by
  intro x R h K
  obtain ⟨l2, l3, l4⟩ := x
  have h : bX12_unpack_181 σ l0 l2 l3 l4 = some R := h
  show zJ Γ 7 0 0 σ 181 [(0, .ref l0), (2, .int l2), (3, .int l3), (4, .int l4)] []
  unfold bX12_unpack_181 at h
  refine zj_iload E dX12_unpack_181 3 rfl ?_
  refine zj_aload_n E dX12_unpack_183 rfl 0 rfl ?_
  refine zs_getI E zc11 19 (by decide) zw_19_14 rfl dX12_unpack_184 h (fun x7 h => ?_)
  refine zj_icmp_ge (tgt := 220) E dX12_unpack_187 (by decide) h (fun h => ?_) (fun h => ?_)
  · have e9 := Option.some.inj h
    subst e9
    refine zj_lv [0, 1, 2] rfl ?_
    exact K
  · refine zj_iload_n E dX12_unpack_190 rfl 1 rfl ?_
    refine zj_aload_n E dX12_unpack_191 rfl 0 rfl ?_
    refine zs_getR E zc11 20 (by decide) zw_6_12 rfl dX12_unpack_192 h (fun a1 h => ?_)
    refine zj_iload E dX12_unpack_195 3 rfl ?_
    refine zs_bald E dX12_unpack_197 h (fun x8 h => ?_)
    refine zj_sipush (v := 255) E dX12_unpack_198 (by decide) ?_
    refine zj_iand E dX12_unpack_201 ?_
    refine zj_iadd E dX12_unpack_202 ?_
    refine zj_ldc (v := 65521) E zw_19_15 dX12_unpack_203 ?_
    refine zj_irem E dX12_unpack_205 (by decide) ?_
    refine zs_istore_n (lv2 := fun v1 => [(2, .int v1), (0, .ref l0), (3, .int l3), (4, .int l4)]) E dX12_unpack_206 rfl (by decide) (fun _ => rfl) h (fun v1 h => ?_)
    refine zj_iload_n E dX12_unpack_207 rfl 2 rfl ?_
    refine zj_iload_n E dX12_unpack_208 rfl 0 rfl ?_
    refine zj_iadd E dX12_unpack_209 ?_
    refine zj_ldc (v := 65521) E zw_19_15 dX12_unpack_210 ?_
    refine zj_irem E dX12_unpack_212 (by decide) ?_
    refine zs_istore_n (lv2 := fun v2 => [(3, .int v2), (2, .int v1), (0, .ref l0), (4, .int l4)]) E dX12_unpack_213 rfl (by decide) (fun _ => rfl) h (fun v2 h => ?_)
    refine zs_iinc (lv2 := fun v3 => [(4, .int v3), (3, .int v2), (2, .int v1), (0, .ref l0)]) E dX12_unpack_214 3 rfl (by decide) (by decide) (fun _ => rfl) h (fun v3 h => ?_)
    refine zj_goto (tgt := 181) E dX12_unpack_217 (by decide) ?_
    have e9 := Option.some.inj h
    subst e9
    refine zj_lv [3, 2, 1, 0] rfl ?_
    exact K
def jX12_unpack_246 (Γ : zG) (σ : zS) (l0 : Nat) (l2 : Int32) (l3 : Int32) (l4 : Int32) : (Int32 × Int32) → Prop := fun x => zJ Γ 7 0 0 σ 246 [(0, .ref l0), (2, .int l2), (3, .int l3), (4, .int l4), (5, .int x.1), (6, .int x.2)] []
def eX12_unpack_246 (Γ : zG) (σ : zS) (l0 : Nat) (l2 : Int32) (l3 : Int32) (l4 : Int32) : Int32 → Prop := fun b => zJ Γ 7 0 0 σ 287 [(2, .int l2), (3, .int l3), (4, .int l4), (5, .int b)] []
def bX12_unpack_246 (σ : zS) (l0 : Nat) (l2 : Int32) (l3 : Int32) (l4 : Int32) (l5 : Int32) (l6 : Int32) : Option ((Int32 × Int32) ⊕ Int32) := (if (4 : Int32) ≤ l6 then some (.inr l5) else (if l4 = 0 then some (.inr l5) else oGR σ 12 l0 15 (fun a2 => oGI σ 12 l0 16 (fun x11 => oLd σ 20 a2 (x11 + l6) (fun x12 => oL ((l5 <<< ((8 : Int32) &&& 31)) ||| (x12 &&& (255 : Int32))) (fun v6 => oL (l6 + 1) (fun v7 => some (.inl (v6, v7)))))))))
set_option maxRecDepth 100000 in
theorem wX12_unpack_L246 {Γ : zG} (E : zE Γ cX12_unpack RX12 7 { frames := 5, cells := 0, slots := 0, locals := 127 }) (σ : zS) (l0 : Nat) (l2 : Int32) (l3 : Int32) (l4 : Int32) : ∀ x R, (fun x => bX12_unpack_246 σ l0 l2 l3 l4 x.1 x.2) x = some R → Sum.elim (jX12_unpack_246 Γ σ l0 l2 l3 l4) (eX12_unpack_246 Γ σ l0 l2 l3 l4) R → jX12_unpack_246 Γ σ l0 l2 l3 l4 x := by
  intro x R h K
  obtain ⟨l5, l6⟩ := x
  have h : bX12_unpack_246 σ l0 l2 l3 l4 l5 l6 = some R := h
  show zJ Γ 7 0 0 σ 246 [(0, .ref l0), (2, .int l2), (3, .int l3), (4, .int l4), (5, .int l5), (6, .int l6)] []
  unfold bX12_unpack_246 at h
  refine zj_iload E dX12_unpack_246 5 rfl ?_
  refine zj_iconst (v := 4) E dX12_unpack_248 (by decide) ?_
  refine zj_icmp_ge (tgt := 287) E dX12_unpack_249 (by decide) h (fun h => ?_) (fun h => ?_)
  · have e9 := Option.some.inj h
    subst e9
    refine zj_lv [1, 2, 3, 4] rfl ?_
    exact K
  · refine zj_iload E dX12_unpack_252 3 rfl ?_
    refine zj_if_eq (tgt := 287) E dX12_unpack_254 (by decide) h (fun h => ?_) (fun h => ?_)
    · have e9 := Option.some.inj h
      subst e9
      refine zj_lv [1, 2, 3, 4] rfl ?_
      exact K
    · refine zj_iload E dX12_unpack_257 4 rfl ?_
      refine zj_bipush (v := 8) E dX12_unpack_259 (by decide) ?_
      refine zj_ishl E dX12_unpack_261 ?_
      refine zj_aload_n E dX12_unpack_262 rfl 0 rfl ?_
      refine zs_getR E zc11 15 (by decide) zw_6_11 rfl dX12_unpack_263 h (fun a2 h => ?_)
      refine zj_aload_n E dX12_unpack_266 rfl 0 rfl ?_
      refine zs_getI E zc11 16 (by decide) zw_19_10 rfl dX12_unpack_267 h (fun x11 h => ?_)
      refine zj_iload E dX12_unpack_270 5 rfl ?_
      refine zj_iadd E dX12_unpack_272 ?_
      refine zs_bald E dX12_unpack_273 h (fun x12 h => ?_)
      refine zj_sipush (v := 255) E dX12_unpack_274 (by decide) ?_
      refine zj_iand E dX12_unpack_277 ?_
      refine zj_ior E dX12_unpack_278 ?_
      refine zs_istore (lv2 := fun v6 => [(5, .int v6), (0, .ref l0), (2, .int l2), (3, .int l3), (4, .int l4), (6, .int l6)]) E dX12_unpack_279 (by decide) (fun _ => rfl) h (fun v6 h => ?_)
      refine zs_iinc (lv2 := fun v7 => [(6, .int v7), (5, .int v6), (0, .ref l0), (2, .int l2), (3, .int l3), (4, .int l4)]) E dX12_unpack_281 5 rfl (by decide) (by decide) (fun _ => rfl) h (fun v7 h => ?_)
      refine zj_goto (tgt := 246) E dX12_unpack_284 (by decide) ?_
      have e9 := Option.some.inj h
      subst e9
      refine zj_lv [2, 3, 4, 5, 1, 0] rfl ?_
      exact K
def fX12_unpack_238 (σ : zS) (l0 : Nat) (l2 : Int32) (l3 : Int32) (s0 : Int32) : Option (Int32 × zS) := oB (zloop zF (fun x => bX12_unpack_246 σ l0 l2 l3 s0 x.1 x.2) (0, 0)) (fun b3 => (fun v8 => (if s0 = 0 then some (0, σ) else (if v8 = ((l3 <<< ((16 : Int32) &&& 31)) ||| l2) then some (1, σ) else some (0, σ)))) b3)
set_option maxRecDepth 100000 in
theorem wX12_unpack_238 {Γ : zG} (E : zE Γ cX12_unpack RX12 7 { frames := 5, cells := 0, slots := 0, locals := 127 }) (σ : zS) (l0 : Nat) (l2 : Int32) (l3 : Int32) (s0 : Int32) {R : (Int32 × zS)} (h : fX12_unpack_238 σ l0 l2 l3 s0 = some R) (K : zRet Γ cX12_unpack 7 0 0 (some (.int R.1)) R.2) : zJ Γ 7 0 0 σ 238 [(0, .ref l0), (2, .int l2), (3, .int l3)] [.int s0] := by
  unfold fX12_unpack_238 at h
  refine zj_istore (lv2 := [(4, .int s0), (0, .ref l0), (2, .int l2), (3, .int l3)]) E dX12_unpack_238 (by decide) rfl ?_
  refine zj_iconst (v := 0) E dX12_unpack_240 (by decide) ?_
  refine zj_istore (lv2 := [(5, .int 0), (4, .int s0), (0, .ref l0), (2, .int l2), (3, .int l3)]) E dX12_unpack_241 (by decide) rfl ?_
  refine zj_iconst (v := 0) E dX12_unpack_243 (by decide) ?_
  refine zj_istore (lv2 := [(6, .int 0), (5, .int 0), (4, .int s0), (0, .ref l0), (2, .int l2), (3, .int l3)]) E dX12_unpack_244 (by decide) rfl ?_
  obtain ⟨b3, hb3, h⟩ := oB_some h
  refine zj_lv [3, 4, 5, 2, 1, 0] rfl ?_
  refine zj_loop (wX12_unpack_L246 E σ l0 l2 l3 s0) zF (0, 0) b3 hb3 ?_
  obtain ⟨v8, rfl⟩ : ∃ z, z = b3 := ⟨_, rfl⟩
  try dsimp only at h
  show zJ Γ 7 0 0 σ 287 [(2, .int l2), (3, .int l3), (4, .int s0), (5, .int v8)] []
  refine zj_iload E dX12_unpack_287 2 rfl ?_
  refine zj_if_eq (tgt := 307) E dX12_unpack_289 (by decide) h (fun h => ?_) (fun h => ?_)
  · refine zj_iconst (v := 0) E dX12_unpack_307 (by decide) ?_
    have e9 := Option.some.inj h
    subst e9
    exact (show zRet Γ cX12_unpack 7 0 0 (some (.int 0)) σ from K) _ _ dX12_unpack_308
  · refine zj_iload E dX12_unpack_292 3 rfl ?_
    refine zj_iload_n E dX12_unpack_294 rfl 1 rfl ?_
    refine zj_bipush (v := 16) E dX12_unpack_295 (by decide) ?_
    refine zj_ishl E dX12_unpack_297 ?_
    refine zj_iload_n E dX12_unpack_298 rfl 0 rfl ?_
    refine zj_ior E dX12_unpack_299 ?_
    refine zj_icmp_ne (tgt := 307) E dX12_unpack_300 (by decide) h (fun h => ?_) (fun h => ?_)
    · refine zj_iconst (v := 0) E dX12_unpack_307 (by decide) ?_
      have e9 := Option.some.inj h
      subst e9
      exact (show zRet Γ cX12_unpack 7 0 0 (some (.int 0)) σ from K) _ _ dX12_unpack_308
    · refine zj_iconst (v := 1) E dX12_unpack_303 (by decide) ?_
      refine zj_goto (tgt := 308) E dX12_unpack_304 (by decide) ?_
      have e9 := Option.some.inj h
      subst e9
      exact (show zRet Γ cX12_unpack 7 0 0 (some (.int 1)) σ from K) _ _ dX12_unpack_308
def fX12_unpack_69 (σ : zS) (l0 : Nat) (s0 : Int32) (s1 : Nat) : Option (Int32 × zS) := oPZ σ 12 s1 18 s0 (fun σ3 => oPI σ3 12 l0 19 0 (fun σ4 => oB (zloop zF (fun x => bX12_unpack_79 l0 x.1 x.2) (0, σ4)) (fun b1 => (fun σ11 => oGI σ11 12 l0 18 (fun x6 => (if x6 = 0 then oA (zk σ11 l0 = 12) (oB (fX12_evenOut σ11 l0) (fun σ12 => oB (zloop zF (fun x => bX12_unpack_181 σ12 l0 x.1 x.2.1 x.2.2) (1, 0, 0)) (fun b2 => (fun v4 v5 => oGI σ12 12 l0 14 (fun x9 => oGI σ12 12 l0 16 (fun x10 => (if x9 = (x10 + (4 : Int32)) then fX12_unpack_238 σ12 l0 v4 v5 1 else fX12_unpack_238 σ12 l0 v4 v5 0)))) b2.1 b2.2))) else some (0, σ11)))) b1)))
set_option maxRecDepth 100000 in
theorem wX12_unpack_69 {Γ : zG} (E : zE Γ cX12_unpack RX12 7 { frames := 5, cells := 0, slots := 0, locals := 127 }) (σ : zS) (l0 : Nat) (s0 : Int32) (s1 : Nat) {R : (Int32 × zS)} (h : fX12_unpack_69 σ l0 s0 s1 = some R) (K : zRet Γ cX12_unpack 7 0 0 (some (.int R.1)) R.2) : zJ Γ 7 0 0 σ 69 [(0, .ref l0)] [.int s0, .ref s1] := by
  unfold fX12_unpack_69 at h
  refine zs_putZ E zc11 18 (by decide) zw_19_13 rfl rfl dX12_unpack_69 h (fun σ3 h => ?_)
  refine zj_aload_n E dX12_unpack_72 rfl 0 rfl ?_
  refine zj_iconst (v := 0) E dX12_unpack_73 (by decide) ?_
  refine zs_putI E zc11 19 (by decide) zw_19_14 rfl rfl dX12_unpack_74 h (fun σ4 h => ?_)
  refine zj_iconst (v := 0) E dX12_unpack_77 (by decide) ?_
  refine zj_istore_n (lv2 := [(1, .int 0), (0, .ref l0)]) E dX12_unpack_78 rfl (by decide) rfl ?_
  obtain ⟨b1, hb1, h⟩ := oB_some h
  refine zj_lv [1, 0] rfl ?_
  refine zj_loop (wX12_unpack_L79 E l0) zF (0, σ4) b1 hb1 ?_
  obtain ⟨σ11, rfl⟩ : ∃ z, z = b1 := ⟨_, rfl⟩
  try dsimp only at h
  show zJ Γ 7 0 0 σ11 161 [(0, .ref l0)] []
  refine zj_aload_n E dX12_unpack_161 rfl 0 rfl ?_
  refine zs_getI E zc11 18 (by decide) zw_19_13 rfl dX12_unpack_162 h (fun x6 h => ?_)
  refine zj_if_eq (tgt := 170) E dX12_unpack_165 (by decide) h (fun h => ?_) (fun h => ?_)
  · refine zj_aload_n E dX12_unpack_170 rfl 0 rfl ?_
    obtain ⟨hk, h⟩ := oA_some h
    obtain ⟨σ12, hc, h⟩ := oB_some h
    refine zs_callV (As := []) (rest := []) E zc11 zyX12_evenOut zw_20_1 (kX12_evenOut _ _ _ _ _ hc) rfl rfl hk rfl ⟨by decide, by decide⟩ ⟨by decide, by decide⟩ (Nat.le_of_ble_eq_true rfl) dX12_unpack_171 rfl (show zJ Γ 7 0 0 σ12 174 [(0, .ref l0)] [] from ?_)
    refine zj_iconst (v := 1) E dX12_unpack_174 (by decide) ?_
    refine zj_istore_n (lv2 := [(2, .int 1), (0, .ref l0)]) E dX12_unpack_175 rfl (by decide) rfl ?_
    refine zj_iconst (v := 0) E dX12_unpack_176 (by decide) ?_
    refine zj_istore_n (lv2 := [(3, .int 0), (2, .int 1), (0, .ref l0)]) E dX12_unpack_177 rfl (by decide) rfl ?_
    refine zj_iconst (v := 0) E dX12_unpack_178 (by decide) ?_
    refine zj_istore (lv2 := [(4, .int 0), (3, .int 0), (2, .int 1), (0, .ref l0)]) E dX12_unpack_179 (by decide) rfl ?_
    obtain ⟨b2, hb2, h⟩ := oB_some h
    refine zj_lv [3, 2, 1, 0] rfl ?_
    refine zj_loop (wX12_unpack_L181 E σ12 l0) zF (1, 0, 0) b2 hb2 ?_
    obtain ⟨v4, v5⟩ := b2
    try dsimp only at h
    show zJ Γ 7 0 0 σ12 220 [(0, .ref l0), (2, .int v4), (3, .int v5)] []
    refine zj_aload_n E dX12_unpack_220 rfl 0 rfl ?_
    refine zs_getI E zc11 14 (by decide) zw_19_12 rfl dX12_unpack_221 h (fun x9 h => ?_)
    refine zj_aload_n E dX12_unpack_224 rfl 0 rfl ?_
    refine zs_getI E zc11 16 (by decide) zw_19_10 rfl dX12_unpack_225 h (fun x10 h => ?_)
    refine zj_iconst (v := 4) E dX12_unpack_228 (by decide) ?_
    refine zj_iadd E dX12_unpack_229 ?_
    refine zj_icmp_ne (tgt := 237) E dX12_unpack_230 (by decide) h (fun h => ?_) (fun h => ?_)
    · refine zj_iconst (v := 0) E dX12_unpack_237 (by decide) ?_
      refine zj_lv [0, 1, 2] rfl ?_
      exact wX12_unpack_238 E _ _ _ _ _ h K
    · refine zj_iconst (v := 1) E dX12_unpack_233 (by decide) ?_
      refine zj_goto (tgt := 238) E dX12_unpack_234 (by decide) ?_
      refine zj_lv [0, 1, 2] rfl ?_
      exact wX12_unpack_238 E _ _ _ _ _ h K
  · refine zj_iconst (v := 0) E dX12_unpack_168 (by decide) ?_
    have e9 := Option.some.inj h
    subst e9
    exact (show zRet Γ cX12_unpack 7 0 0 (some (.int 0)) σ11 from K) _ _ dX12_unpack_169
def fX12_unpack_64 (σ : zS) (l0 : Nat) (s0 : Nat) : Option (Int32 × zS) := fX12_unpack_69 σ l0 1 s0
set_option maxRecDepth 100000 in
theorem wX12_unpack_64 {Γ : zG} (E : zE Γ cX12_unpack RX12 7 { frames := 5, cells := 0, slots := 0, locals := 127 }) (σ : zS) (l0 : Nat) (s0 : Nat) {R : (Int32 × zS)} (h : fX12_unpack_64 σ l0 s0 = some R) (K : zRet Γ cX12_unpack 7 0 0 (some (.int R.1)) R.2) : zJ Γ 7 0 0 σ 64 [(0, .ref l0)] [.ref s0] := by
  unfold fX12_unpack_64 at h
  refine zj_iconst (v := 1) E dX12_unpack_64 (by decide) ?_
  refine zj_goto (tgt := 69) E dX12_unpack_65 (by decide) ?_
  refine zj_lv [0] rfl ?_
  exact wX12_unpack_69 E _ _ _ _ h K
def gX12_unpack (σ : zS) (p0 : Nat) : Option (Int32 × zS) := oPI σ 12 p0 16 2 (fun σ1 => oPI σ1 12 p0 17 0 (fun σ2 => oGI σ2 12 p0 14 (fun x1 => (if x1 < (2 : Int32) then fX12_unpack_64 σ2 p0 p0 else oGR σ2 12 p0 15 (fun a3 => oLd σ2 20 a3 0 (fun x13 => (if x13 = (120 : Int32) then oGR σ2 12 p0 15 (fun a4 => oLd σ2 20 a4 1 (fun x14 => (if (((30720 : Int32) + (x14 &&& (255 : Int32))) - ((30720 : Int32) + (x14 &&& (255 : Int32))) / (31 : Int32) * (31 : Int32)) = 0 then oGR σ2 12 p0 15 (fun a5 => oLd σ2 20 a5 1 (fun x15 => (if ((x15 >>> ((5 : Int32) &&& 31)) &&& (1 : Int32)) = (1 : Int32) then fX12_unpack_64 σ2 p0 p0 else fX12_unpack_69 σ2 p0 0 p0))) else fX12_unpack_64 σ2 p0 p0))) else fX12_unpack_64 σ2 p0 p0)))))))
def fX12_unpack (σ : zS) (p0 : Nat) : Option (Int32 × zS) := oC (gX12_unpack σ p0) (fun r s => oA (r = 0 ∨ r = 1) (some (r, s)))
set_option maxRecDepth 100000 in
theorem wX12_unpack {Γ : zG} (E : zE Γ cX12_unpack RX12 7 { frames := 5, cells := 0, slots := 0, locals := 127 }) (σ : zS) (p0 : Nat) {R : (Int32 × zS)} (h : gX12_unpack σ p0 = some R) (K : zRet Γ cX12_unpack 7 0 0 (some (.int R.1)) R.2) : zJ Γ 7 0 0 σ 0 [(0, .ref p0)] [] := by
  unfold gX12_unpack at h
  refine zj_aload_n E dX12_unpack_0 rfl 0 rfl ?_
  refine zj_iconst (v := 2) E dX12_unpack_1 (by decide) ?_
  refine zs_putI E zc11 16 (by decide) zw_19_10 rfl rfl dX12_unpack_2 h (fun σ1 h => ?_)
  refine zj_aload_n E dX12_unpack_5 rfl 0 rfl ?_
  refine zj_iconst (v := 0) E dX12_unpack_6 (by decide) ?_
  refine zs_putI E zc11 17 (by decide) zw_19_11 rfl rfl dX12_unpack_7 h (fun σ2 h => ?_)
  refine zj_aload_n E dX12_unpack_10 rfl 0 rfl ?_
  refine zj_aload_n E dX12_unpack_11 rfl 0 rfl ?_
  refine zs_getI E zc11 14 (by decide) zw_19_12 rfl dX12_unpack_12 h (fun x1 h => ?_)
  refine zj_iconst (v := 2) E dX12_unpack_15 (by decide) ?_
  refine zj_icmp_lt (tgt := 64) E dX12_unpack_16 (by decide) h (fun h => ?_) (fun h => ?_)
  · refine zj_lv [0] rfl ?_
    exact wX12_unpack_64 E _ _ _ h K
  · refine zj_aload_n E dX12_unpack_19 rfl 0 rfl ?_
    refine zs_getR E zc11 15 (by decide) zw_6_11 rfl dX12_unpack_20 h (fun a3 h => ?_)
    refine zj_iconst (v := 0) E dX12_unpack_23 (by decide) ?_
    refine zs_bald E dX12_unpack_24 h (fun x13 h => ?_)
    refine zj_bipush (v := 120) E dX12_unpack_25 (by decide) ?_
    refine zj_icmp_ne (tgt := 64) E dX12_unpack_27 (by decide) h (fun h => ?_) (fun h => ?_)
    · refine zj_lv [0] rfl ?_
      exact wX12_unpack_64 E _ _ _ h K
    · refine zj_sipush (v := 30720) E dX12_unpack_30 (by decide) ?_
      refine zj_aload_n E dX12_unpack_33 rfl 0 rfl ?_
      refine zs_getR E zc11 15 (by decide) zw_6_11 rfl dX12_unpack_34 h (fun a4 h => ?_)
      refine zj_iconst (v := 1) E dX12_unpack_37 (by decide) ?_
      refine zs_bald E dX12_unpack_38 h (fun x14 h => ?_)
      refine zj_sipush (v := 255) E dX12_unpack_39 (by decide) ?_
      refine zj_iand E dX12_unpack_42 ?_
      refine zj_iadd E dX12_unpack_43 ?_
      refine zj_bipush (v := 31) E dX12_unpack_44 (by decide) ?_
      refine zj_irem E dX12_unpack_46 (by decide) ?_
      refine zj_if_ne (tgt := 64) E dX12_unpack_47 (by decide) h (fun h => ?_) (fun h => ?_)
      · refine zj_lv [0] rfl ?_
        exact wX12_unpack_64 E _ _ _ h K
      · refine zj_aload_n E dX12_unpack_50 rfl 0 rfl ?_
        refine zs_getR E zc11 15 (by decide) zw_6_11 rfl dX12_unpack_51 h (fun a5 h => ?_)
        refine zj_iconst (v := 1) E dX12_unpack_54 (by decide) ?_
        refine zs_bald E dX12_unpack_55 h (fun x15 h => ?_)
        refine zj_iconst (v := 5) E dX12_unpack_56 (by decide) ?_
        refine zj_ishr E dX12_unpack_57 ?_
        refine zj_iconst (v := 1) E dX12_unpack_58 (by decide) ?_
        refine zj_iand E dX12_unpack_59 ?_
        refine zj_iconst (v := 1) E dX12_unpack_60 (by decide) ?_
        refine zj_icmp_ne (tgt := 68) E dX12_unpack_61 (by decide) h (fun h => ?_) (fun h => ?_)
        · refine zj_iconst (v := 0) E dX12_unpack_68 (by decide) ?_
          refine zj_lv [0] rfl ?_
          exact wX12_unpack_69 E _ _ _ _ h K
        · refine zj_lv [0] rfl ?_
          exact wX12_unpack_64 E _ _ _ h K
set_option maxRecDepth 100000 in
theorem kX12_unpack (l : Launch) (D : va_G) (cs : zCs) (z0 : Nat) (σ : zS) {p0 : Nat} {r : Int32} {σ' : zS} (h : fX12_unpack σ p0 = some (r, σ')) : zM l D cs z0 yX12_unpack cX12_unpack 7 (some .boolean) { frames := 5, cells := 0, slots := 0, locals := 127 } [.ref p0] σ (some (.int r)) σ' 0 0 := by
  obtain ⟨r0, s0, h0, h⟩ := oC_some h
  obtain ⟨hz, h⟩ := oA_some h
  cases h
  exact zM_of (by decide) rfl (Or.inr ⟨rfl, hz⟩) (Nat.le_of_ble_eq_true rfl) rfl (fun Γ e1 e2 e3 e4 E hN K => wX12_unpack E σ _ h0 K)
