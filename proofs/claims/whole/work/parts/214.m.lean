/-! X12_mark -/
def fX12_mark (σ : zS) (p0 : Int32) : Option Int32 := (if p0 = 0 then some 137 else (if p0 = (1 : Int32) then some 80 else (if p0 = (2 : Int32) then some 78 else (if p0 = (3 : Int32) then some 71 else (if p0 = (4 : Int32) then some 13 else (if p0 = (5 : Int32) then some 10 else (if p0 = (6 : Int32) then some 26 else some 10)))))))
set_option maxRecDepth 100000 in
theorem wX12_mark {Γ : zG} (E : zE Γ cX12_mark RX12 1 { frames := 0, cells := 0, slots := 0, locals := 0 }) (σ : zS) (p0 : Int32) {R : Int32} (h : fX12_mark σ p0 = some R) (K : zRet Γ cX12_mark 1 0 0 (some (.int R)) σ) : zJ Γ 1 0 0 σ 0 [(0, .int p0)] [] := by
  unfold fX12_mark at h
  refine zj_iload_n E dX12_mark_0 rfl 0 rfl ?_
  refine zj_if_ne (tgt := 10) E dX12_mark_1 (by decide) h (fun h => ?_) (fun h => ?_)
  · refine zj_iload_n E dX12_mark_10 rfl 0 rfl ?_
    refine zj_iconst (v := 1) E dX12_mark_11 (by decide) ?_
    refine zj_icmp_ne (tgt := 20) E dX12_mark_12 (by decide) h (fun h => ?_) (fun h => ?_)
    · refine zj_iload_n E dX12_mark_20 rfl 0 rfl ?_
      refine zj_iconst (v := 2) E dX12_mark_21 (by decide) ?_
      refine zj_icmp_ne (tgt := 30) E dX12_mark_22 (by decide) h (fun h => ?_) (fun h => ?_)
      · refine zj_iload_n E dX12_mark_30 rfl 0 rfl ?_
        refine zj_iconst (v := 3) E dX12_mark_31 (by decide) ?_
        refine zj_icmp_ne (tgt := 40) E dX12_mark_32 (by decide) h (fun h => ?_) (fun h => ?_)
        · refine zj_iload_n E dX12_mark_40 rfl 0 rfl ?_
          refine zj_iconst (v := 4) E dX12_mark_41 (by decide) ?_
          refine zj_icmp_ne (tgt := 50) E dX12_mark_42 (by decide) h (fun h => ?_) (fun h => ?_)
          · refine zj_iload_n E dX12_mark_50 rfl 0 rfl ?_
            refine zj_iconst (v := 5) E dX12_mark_51 (by decide) ?_
            refine zj_icmp_ne (tgt := 60) E dX12_mark_52 (by decide) h (fun h => ?_) (fun h => ?_)
            · refine zj_iload_n E dX12_mark_60 rfl 0 rfl ?_
              refine zj_bipush (v := 6) E dX12_mark_61 (by decide) ?_
              refine zj_icmp_ne (tgt := 71) E dX12_mark_63 (by decide) h (fun h => ?_) (fun h => ?_)
              · refine zj_bipush (v := 10) E dX12_mark_71 (by decide) ?_
                have e9 := Option.some.inj h
                subst e9
                exact (show zRet Γ cX12_mark 1 0 0 (some (.int 10)) σ from K) _ _ dX12_mark_73
              · refine zj_bipush (v := 26) E dX12_mark_66 (by decide) ?_
                refine zj_goto (tgt := 73) E dX12_mark_68 (by decide) ?_
                have e9 := Option.some.inj h
                subst e9
                exact (show zRet Γ cX12_mark 1 0 0 (some (.int 26)) σ from K) _ _ dX12_mark_73
            · refine zj_bipush (v := 10) E dX12_mark_55 (by decide) ?_
              refine zj_goto (tgt := 73) E dX12_mark_57 (by decide) ?_
              have e9 := Option.some.inj h
              subst e9
              exact (show zRet Γ cX12_mark 1 0 0 (some (.int 10)) σ from K) _ _ dX12_mark_73
          · refine zj_bipush (v := 13) E dX12_mark_45 (by decide) ?_
            refine zj_goto (tgt := 73) E dX12_mark_47 (by decide) ?_
            have e9 := Option.some.inj h
            subst e9
            exact (show zRet Γ cX12_mark 1 0 0 (some (.int 13)) σ from K) _ _ dX12_mark_73
        · refine zj_bipush (v := 71) E dX12_mark_35 (by decide) ?_
          refine zj_goto (tgt := 73) E dX12_mark_37 (by decide) ?_
          have e9 := Option.some.inj h
          subst e9
          exact (show zRet Γ cX12_mark 1 0 0 (some (.int 71)) σ from K) _ _ dX12_mark_73
      · refine zj_bipush (v := 78) E dX12_mark_25 (by decide) ?_
        refine zj_goto (tgt := 73) E dX12_mark_27 (by decide) ?_
        have e9 := Option.some.inj h
        subst e9
        exact (show zRet Γ cX12_mark 1 0 0 (some (.int 78)) σ from K) _ _ dX12_mark_73
    · refine zj_bipush (v := 80) E dX12_mark_15 (by decide) ?_
      refine zj_goto (tgt := 73) E dX12_mark_17 (by decide) ?_
      have e9 := Option.some.inj h
      subst e9
      exact (show zRet Γ cX12_mark 1 0 0 (some (.int 80)) σ from K) _ _ dX12_mark_73
  · refine zj_sipush (v := 137) E dX12_mark_4 (by decide) ?_
    refine zj_goto (tgt := 73) E dX12_mark_7 (by decide) ?_
    have e9 := Option.some.inj h
    subst e9
    exact (show zRet Γ cX12_mark 1 0 0 (some (.int 137)) σ from K) _ _ dX12_mark_73
set_option maxRecDepth 100000 in
theorem kX12_mark (l : Launch) (D : va_G) (cs : zCs) (z0 : Nat) (σ : zS) {p0 : Int32} {r : Int32} (h : fX12_mark σ p0 = some r) : zM l D cs z0 yX12_mark cX12_mark 1 (some .int) { frames := 0, cells := 0, slots := 0, locals := 0 } [.int p0] σ (some (.int r)) σ 0 0 := by
  exact zM_of (by decide) rfl (Or.inl rfl) (Nat.le_of_ble_eq_true rfl) rfl (fun Γ e1 e2 e3 e4 E hN K => wX12_mark E σ _ h K)
/-! X12_readAll -/
def jX12_readAll_2 (Γ : zG) (l0 : Nat) : (Int32 × zS) → Prop := fun x => zJ Γ 9 0 0 x.2 2 [(0, .ref l0), (1, .int x.1)] []
def eX12_readAll_2 (Γ : zG) (l0 : Nat) : (zS ⊕ (Int32 × zS)) → Prop := Sum.elim (fun b => zJ Γ 9 0 0 b 41 [(0, .ref l0)] []) (fun r => zRet Γ cX12_readAll 9 0 0 (some (.int r.1)) r.2)
def fX12_readAll_28 (σ : zS) (l0 : Nat) (l1 : Int32) : Option ((Int32 × zS) ⊕ (zS ⊕ (Int32 × zS))) := oPI σ 12 l0 3 l1 (fun σ1 => some (.inr (.inr (1, σ1))))
set_option maxRecDepth 100000 in
theorem wX12_readAll_28 {Γ : zG} (E : zE Γ cX12_readAll RX12 9 { frames := 7, cells := 0, slots := 0, locals := 176 }) (σ : zS) (l0 : Nat) (l1 : Int32) {R : ((Int32 × zS) ⊕ (zS ⊕ (Int32 × zS)))} (h : fX12_readAll_28 σ l0 l1 = some R) (K : Sum.elim (jX12_readAll_2 Γ l0) (eX12_readAll_2 Γ l0) R) : zJ Γ 9 0 0 σ 28 [(0, .ref l0), (1, .int l1)] [] := by
  unfold fX12_readAll_28 at h
  refine zj_aload_n E dX12_readAll_28 rfl 0 rfl ?_
  refine zj_iload_n E dX12_readAll_29 rfl 1 rfl ?_
  refine zs_putI E zc11 3 (by decide) zw_6_4 rfl rfl dX12_readAll_30 h (fun σ1 h => ?_)
  refine zj_iconst (v := 1) E dX12_readAll_33 (by decide) ?_
  have e9 := Option.some.inj h
  subst e9
  exact (show zRet Γ cX12_readAll 9 0 0 (some (.int 1)) σ1 from K) _ _ dX12_readAll_34
def bX12_readAll_2 (l0 : Nat) (l1 : Int32) (σ : zS) : Option ((Int32 × zS) ⊕ (zS ⊕ (Int32 × zS))) := (if (8 : Int32) ≤ l1 then some (.inr (.inl σ)) else oGI σ 12 l0 1 (fun x1 => (if x1 ≤ l1 then fX12_readAll_28 σ l0 l1 else oA (zk σ l0 = 12) (oB (fX12_byteAt σ l0 l1) (fun x2 => oB (fX12_mark σ l1) (fun x3 => (if x2 = x3 then oL (l1 + 1) (fun v1 => some (.inl (v1, σ))) else fX12_readAll_28 σ l0 l1)))))))
set_option maxRecDepth 100000 in
theorem wX12_readAll_L2 {Γ : zG} (E : zE Γ cX12_readAll RX12 9 { frames := 7, cells := 0, slots := 0, locals := 176 }) (l0 : Nat) : ∀ x R, (fun x => bX12_readAll_2 l0 x.1 x.2) x = some R → Sum.elim (jX12_readAll_2 Γ l0) (eX12_readAll_2 Γ l0) R → jX12_readAll_2 Γ l0 x := by
  intro x R h K
  obtain ⟨l1, σ⟩ := x
  have h : bX12_readAll_2 l0 l1 σ = some R := h
  show zJ Γ 9 0 0 σ 2 [(0, .ref l0), (1, .int l1)] []
  unfold bX12_readAll_2 at h
  refine zj_iload_n E dX12_readAll_2 rfl 1 rfl ?_
  refine zj_bipush (v := 8) E dX12_readAll_3 (by decide) ?_
  refine zj_icmp_ge (tgt := 41) E dX12_readAll_5 (by decide) h (fun h => ?_) (fun h => ?_)
  · have e9 := Option.some.inj h
    subst e9
    refine zj_lv [0] rfl ?_
    exact K
  · refine zj_iload_n E dX12_readAll_8 rfl 1 rfl ?_
    refine zj_aload_n E dX12_readAll_9 rfl 0 rfl ?_
    refine zs_getI E zc11 1 (by decide) zw_6_15 rfl dX12_readAll_10 h (fun x1 h => ?_)
    refine zj_icmp_ge (tgt := 28) E dX12_readAll_13 (by decide) h (fun h => ?_) (fun h => ?_)
    · refine zj_lv [0, 1] rfl ?_
      exact wX12_readAll_28 E _ _ _ h K
    · refine zj_aload_n E dX12_readAll_16 rfl 0 rfl ?_
      refine zj_iload_n E dX12_readAll_17 rfl 1 rfl ?_
      obtain ⟨hk, h⟩ := oA_some h
      obtain ⟨x2, hc, h⟩ := oB_some h
      refine zs_callV (As := [.int l1]) (rest := []) E zc11 zyX12_byteAt zw_18_7 (kX12_byteAt _ _ _ _ _ hc) rfl rfl hk rfl ⟨by decide, by decide⟩ ⟨by decide, by decide⟩ (Nat.le_of_ble_eq_true rfl) dX12_readAll_18 rfl (show zJ Γ 9 0 0 σ 21 [(0, .ref l0), (1, .int l1)] [.int x2] from ?_)
      refine zj_iload_n E dX12_readAll_21 rfl 1 rfl ?_
      obtain ⟨x3, hc, h⟩ := oB_some h
      refine zs_callS (As := [.int l1]) (rest := [.int x2]) E zyX12_mark zw_18_11 (kX12_mark _ _ _ _ _ hc) rfl rfl rfl ⟨by decide, by decide⟩ ⟨by decide, by decide⟩ (Nat.le_of_ble_eq_true rfl) dX12_readAll_22 rfl (show zJ Γ 9 0 0 σ 25 [(0, .ref l0), (1, .int l1)] [.int x3, .int x2] from ?_)
      refine zj_icmp_eq (tgt := 35) E dX12_readAll_25 (by decide) h (fun h => ?_) (fun h => ?_)
      · refine zs_iinc (lv2 := fun v1 => [(1, .int v1), (0, .ref l0)]) E dX12_readAll_35 1 rfl (by decide) (by decide) (fun _ => rfl) h (fun v1 h => ?_)
        refine zj_goto (tgt := 2) E dX12_readAll_38 (by decide) ?_
        have e9 := Option.some.inj h
        subst e9
        refine zj_lv [1, 0] rfl ?_
        exact K
      · refine zj_lv [0, 1] rfl ?_
        exact wX12_readAll_28 E _ _ _ h K
def jX12_readAll_91 (Γ : zG) (l0 : Nat) : (Int32 × Int32 × zS) → Prop := fun x => zJ Γ 9 0 0 x.2.2 91 [(0, .ref l0), (1, .int x.1), (2, .int x.2.1)] []
def eX12_readAll_91 (Γ : zG) (l0 : Nat) : ((Int32 × zS) ⊕ (Int32 × zS)) → Prop := Sum.elim (fun b => zJ Γ 9 0 0 b.2 431 [(0, .ref l0), (1, .int b.1)] []) (fun r => zRet Γ cX12_readAll 9 0 0 (some (.int r.1)) r.2)
def fX12_readAll_132 (σ : zS) (l0 : Nat) : Option ((Int32 × Int32 × zS) ⊕ ((Int32 × zS) ⊕ (Int32 × zS))) := oGI σ 12 l0 1 (fun x5 => oPI σ 12 l0 3 x5 (fun σ12 => some (.inr (.inr (2, σ12)))))
set_option maxRecDepth 100000 in
theorem wX12_readAll_132 {Γ : zG} (E : zE Γ cX12_readAll RX12 9 { frames := 7, cells := 0, slots := 0, locals := 176 }) (σ : zS) (l0 : Nat) {R : ((Int32 × Int32 × zS) ⊕ ((Int32 × zS) ⊕ (Int32 × zS)))} (h : fX12_readAll_132 σ l0 = some R) (K : Sum.elim (jX12_readAll_91 Γ l0) (eX12_readAll_91 Γ l0) R) : zJ Γ 9 0 0 σ 132 [(0, .ref l0)] [] := by
  unfold fX12_readAll_132 at h
  refine zj_aload_n E dX12_readAll_132 rfl 0 rfl ?_
  refine zj_aload_n E dX12_readAll_133 rfl 0 rfl ?_
  refine zs_getI E zc11 1 (by decide) zw_6_15 rfl dX12_readAll_134 h (fun x5 h => ?_)
  refine zs_putI E zc11 3 (by decide) zw_6_4 rfl rfl dX12_readAll_137 h (fun σ12 h => ?_)
  refine zj_iconst (v := 2) E dX12_readAll_140 (by decide) ?_
  have e9 := Option.some.inj h
  subst e9
  exact (show zRet Γ cX12_readAll 9 0 0 (some (.int 2)) σ12 from K) _ _ dX12_readAll_141
def jX12_readAll_160 (Γ : zG) (σ : zS) (l0 : Nat) (l1 : Int32) (l2 : Int32) (l3 : Int32) (l4 : Int32) : (Int32 × Int32) → Prop := fun x => zJ Γ 9 0 0 σ 160 [(0, .ref l0), (1, .int l1), (2, .int l2), (3, .int l3), (4, .int l4), (5, .int x.1), (6, .int x.2)] []
def eX12_readAll_160 (Γ : zG) (σ : zS) (l0 : Nat) (l1 : Int32) (l2 : Int32) (l3 : Int32) (l4 : Int32) : Int32 → Prop := fun b => zJ Γ 9 0 0 σ 190 [(0, .ref l0), (1, .int l1), (2, .int l2), (3, .int l3), (4, .int l4), (5, .int b)] []
def bX12_readAll_160 (σ : zS) (l0 : Nat) (l1 : Int32) (l2 : Int32) (l3 : Int32) (l4 : Int32) (l5 : Int32) (l6 : Int32) : Option ((Int32 × Int32) ⊕ Int32) := (if ((l4 + (4 : Int32)) + l3) ≤ l6 then some (.inr l5) else oA (zk σ l0 = 12) (oB (fX12_byteAt σ l0 l6) (fun x7 => oB (fX12_nextSum σ l5 x7) (fun x8 => oL (l6 + 1) (fun v3 => some (.inl (x8, v3)))))))
set_option maxRecDepth 100000 in
theorem wX12_readAll_L160 {Γ : zG} (E : zE Γ cX12_readAll RX12 9 { frames := 7, cells := 0, slots := 0, locals := 176 }) (σ : zS) (l0 : Nat) (l1 : Int32) (l2 : Int32) (l3 : Int32) (l4 : Int32) : ∀ x R, (fun x => bX12_readAll_160 σ l0 l1 l2 l3 l4 x.1 x.2) x = some R → Sum.elim (jX12_readAll_160 Γ σ l0 l1 l2 l3 l4) (eX12_readAll_160 Γ σ l0 l1 l2 l3 l4) R → jX12_readAll_160 Γ σ l0 l1 l2 l3 l4 x := by
  intro x R h K
  obtain ⟨l5, l6⟩ := x
  have h : bX12_readAll_160 σ l0 l1 l2 l3 l4 l5 l6 = some R := h
  show zJ Γ 9 0 0 σ 160 [(0, .ref l0), (1, .int l1), (2, .int l2), (3, .int l3), (4, .int l4), (5, .int l5), (6, .int l6)] []
  unfold bX12_readAll_160 at h
  refine zj_iload E dX12_readAll_160 6 rfl ?_
  refine zj_iload E dX12_readAll_162 4 rfl ?_
  refine zj_iconst (v := 4) E dX12_readAll_164 (by decide) ?_
  refine zj_iadd E dX12_readAll_165 ?_
  refine zj_iload_n E dX12_readAll_166 rfl 3 rfl ?_
  refine zj_iadd E dX12_readAll_167 ?_
  refine zj_icmp_ge (tgt := 190) E dX12_readAll_168 (by decide) h (fun h => ?_) (fun h => ?_)
  · have e9 := Option.some.inj h
    subst e9
    refine zj_lv [0, 1, 2, 3, 4, 5] rfl ?_
    exact K
  · refine zj_iload E dX12_readAll_171 5 rfl ?_
    refine zj_aload_n E dX12_readAll_173 rfl 0 rfl ?_
    refine zj_iload E dX12_readAll_174 6 rfl ?_
    obtain ⟨hk, h⟩ := oA_some h
    obtain ⟨x7, hc, h⟩ := oB_some h
    refine zs_callV (As := [.int l6]) (rest := [.int l5]) E zc11 zyX12_byteAt zw_18_7 (kX12_byteAt _ _ _ _ _ hc) rfl rfl hk rfl ⟨by decide, by decide⟩ ⟨by decide, by decide⟩ (Nat.le_of_ble_eq_true rfl) dX12_readAll_176 rfl (show zJ Γ 9 0 0 σ 179 [(0, .ref l0), (1, .int l1), (2, .int l2), (3, .int l3), (4, .int l4), (5, .int l5), (6, .int l6)] [.int x7, .int l5] from ?_)
    obtain ⟨x8, hc, h⟩ := oB_some h
    refine zs_callS (As := [.int l5, .int x7]) (rest := []) E zyX12_nextSum zw_18_18 (kX12_nextSum _ _ _ _ _ hc) rfl rfl rfl ⟨by decide, by decide⟩ ⟨by decide, by decide⟩ (Nat.le_of_ble_eq_true rfl) dX12_readAll_179 rfl (show zJ Γ 9 0 0 σ 182 [(0, .ref l0), (1, .int l1), (2, .int l2), (3, .int l3), (4, .int l4), (5, .int l5), (6, .int l6)] [.int x8] from ?_)
    refine zj_istore (lv2 := [(5, .int x8), (0, .ref l0), (1, .int l1), (2, .int l2), (3, .int l3), (4, .int l4), (6, .int l6)]) E dX12_readAll_182 (by decide) rfl ?_
    refine zs_iinc (lv2 := fun v3 => [(6, .int v3), (5, .int x8), (0, .ref l0), (1, .int l1), (2, .int l2), (3, .int l3), (4, .int l4)]) E dX12_readAll_184 6 rfl (by decide) (by decide) (fun _ => rfl) h (fun v3 h => ?_)
    refine zj_goto (tgt := 160) E dX12_readAll_187 (by decide) ?_
    have e9 := Option.some.inj h
    subst e9
    refine zj_lv [2, 3, 4, 5, 6, 1, 0] rfl ?_
    exact K
def fX12_readAll_421 (σ : zS) (l0 : Nat) (l1 : Int32) (l2 : Int32) (l3 : Int32) : Option ((Int32 × Int32 × zS) ⊕ ((Int32 × zS) ⊕ (Int32 × zS))) := oL ((l1 + (12 : Int32)) + l3) (fun v5 => some (.inl (v5, l2, σ)))
set_option maxRecDepth 100000 in
theorem wX12_readAll_421 {Γ : zG} (E : zE Γ cX12_readAll RX12 9 { frames := 7, cells := 0, slots := 0, locals := 176 }) (σ : zS) (l0 : Nat) (l1 : Int32) (l2 : Int32) (l3 : Int32) {R : ((Int32 × Int32 × zS) ⊕ ((Int32 × zS) ⊕ (Int32 × zS)))} (h : fX12_readAll_421 σ l0 l1 l2 l3 = some R) (K : Sum.elim (jX12_readAll_91 Γ l0) (eX12_readAll_91 Γ l0) R) : zJ Γ 9 0 0 σ 421 [(0, .ref l0), (1, .int l1), (2, .int l2), (3, .int l3)] [] := by
  unfold fX12_readAll_421 at h
  refine zj_iload_n E dX12_readAll_421 rfl 1 rfl ?_
  refine zj_bipush (v := 12) E dX12_readAll_422 (by decide) ?_
  refine zj_iadd E dX12_readAll_424 ?_
  refine zj_iload_n E dX12_readAll_425 rfl 3 rfl ?_
  refine zj_iadd E dX12_readAll_426 ?_
  refine zs_istore_n (lv2 := fun v5 => [(1, .int v5), (0, .ref l0), (2, .int l2), (3, .int l3)]) E dX12_readAll_427 rfl (by decide) (fun _ => rfl) h (fun v5 h => ?_)
  refine zj_goto (tgt := 91) E dX12_readAll_428 (by decide) ?_
  have e9 := Option.some.inj h
  subst e9
  refine zj_lv [1, 0, 2] rfl ?_
  exact K
def fX12_readAll_306 (σ : zS) (l0 : Nat) (l1 : Int32) (l2 : Int32) (l3 : Int32) (l4 : Int32) : Option ((Int32 × Int32 × zS) ⊕ ((Int32 × zS) ⊕ (Int32 × zS))) := oA (zk σ l0 = 12) (oB (fX12_isType σ l0 l4 73 72 68 82) (fun x13 => oA (zk σ l0 = 12) (oB (fX12_isType σ l0 l4 73 69 78 68) (fun x14 => (if l1 = (8 : Int32) then (if x13 = 0 then some (.inr (.inr (4, σ))) else oA (zk σ l0 = 12) (oC (fX12_takeHead σ l0 (l4 + (4 : Int32)) l3) (fun x20 σ15 => (if x20 = 0 then some (.inr (.inr (4, σ15))) else fX12_readAll_421 σ15 l0 l1 l2 l3)))) else (if x14 = 0 then (if x13 = 0 then oA (zk σ l0 = 12) (oC (fX12_takeChunk σ l0 l4 l3) (fun x15 σ14 => (if x15 = 0 then some (.inr (.inr (4, σ14))) else fX12_readAll_421 σ14 l0 l1 l2 l3))) else some (.inr (.inr (4, σ)))) else (if l3 = 0 then oGI σ 12 l0 27 (fun x16 => (if x16 = 0 then some (.inr (.inr (4, σ))) else oGI σ 12 l0 31 (fun x17 => (if x17 = 0 then oGI σ 12 l0 24 (fun x18 => oGI σ 12 l0 25 (fun x19 => (if x18 = x19 then fX12_readAll_421 σ l0 l1 0 l3 else some (.inr (.inr (4, σ)))))) else some (.inr (.inr (4, σ))))))) else some (.inr (.inr (4, σ))))))))))
set_option maxRecDepth 100000 in
theorem wX12_readAll_306 {Γ : zG} (E : zE Γ cX12_readAll RX12 9 { frames := 7, cells := 0, slots := 0, locals := 176 }) (σ : zS) (l0 : Nat) (l1 : Int32) (l2 : Int32) (l3 : Int32) (l4 : Int32) {R : ((Int32 × Int32 × zS) ⊕ ((Int32 × zS) ⊕ (Int32 × zS)))} (h : fX12_readAll_306 σ l0 l1 l2 l3 l4 = some R) (K : Sum.elim (jX12_readAll_91 Γ l0) (eX12_readAll_91 Γ l0) R) : zJ Γ 9 0 0 σ 306 [(0, .ref l0), (1, .int l1), (2, .int l2), (3, .int l3), (4, .int l4)] [] := by
  unfold fX12_readAll_306 at h
  refine zj_aload_n E dX12_readAll_306 rfl 0 rfl ?_
  refine zj_iload E dX12_readAll_307 4 rfl ?_
  refine zj_bipush (v := 73) E dX12_readAll_309 (by decide) ?_
  refine zj_bipush (v := 72) E dX12_readAll_311 (by decide) ?_
  refine zj_bipush (v := 68) E dX12_readAll_313 (by decide) ?_
  refine zj_bipush (v := 82) E dX12_readAll_315 (by decide) ?_
  obtain ⟨hk, h⟩ := oA_some h
  obtain ⟨x13, hc, h⟩ := oB_some h
  refine zs_callV (As := [.int l4, .int 73, .int 72, .int 68, .int 82]) (rest := []) E zc11 zyX12_isType zw_18_22 (kX12_isType _ _ _ _ _ hc) rfl rfl hk rfl ⟨by decide, by decide⟩ ⟨by decide, by decide⟩ (Nat.le_of_ble_eq_true rfl) dX12_readAll_317 rfl (show zJ Γ 9 0 0 σ 320 [(0, .ref l0), (1, .int l1), (2, .int l2), (3, .int l3), (4, .int l4)] [.int x13] from ?_)
  refine zj_istore (lv2 := [(7, .int x13), (0, .ref l0), (1, .int l1), (2, .int l2), (3, .int l3), (4, .int l4)]) E dX12_readAll_320 (by decide) rfl ?_
  refine zj_aload_n E dX12_readAll_322 rfl 1 rfl ?_
  refine zj_iload E dX12_readAll_323 5 rfl ?_
  refine zj_bipush (v := 73) E dX12_readAll_325 (by decide) ?_
  refine zj_bipush (v := 69) E dX12_readAll_327 (by decide) ?_
  refine zj_bipush (v := 78) E dX12_readAll_329 (by decide) ?_
  refine zj_bipush (v := 68) E dX12_readAll_331 (by decide) ?_
  obtain ⟨hk, h⟩ := oA_some h
  obtain ⟨x14, hc, h⟩ := oB_some h
  refine zs_callV (As := [.int l4, .int 73, .int 69, .int 78, .int 68]) (rest := []) E zc11 zyX12_isType zw_18_22 (kX12_isType _ _ _ _ _ hc) rfl rfl hk rfl ⟨by decide, by decide⟩ ⟨by decide, by decide⟩ (Nat.le_of_ble_eq_true rfl) dX12_readAll_333 rfl (show zJ Γ 9 0 0 σ 336 [(7, .int x13), (0, .ref l0), (1, .int l1), (2, .int l2), (3, .int l3), (4, .int l4)] [.int x14] from ?_)
  refine zj_istore (lv2 := [(8, .int x14), (7, .int x13), (0, .ref l0), (1, .int l1), (2, .int l2), (3, .int l3), (4, .int l4)]) E dX12_readAll_336 (by decide) rfl ?_
  refine zj_iload_n E dX12_readAll_338 rfl 3 rfl ?_
  refine zj_bipush (v := 8) E dX12_readAll_339 (by decide) ?_
  refine zj_icmp_ne (tgt := 363) E dX12_readAll_341 (by decide) h (fun h => ?_) (fun h => ?_)
  · refine zj_iload E dX12_readAll_363 0 rfl ?_
    refine zj_if_eq (tgt := 404) E dX12_readAll_365 (by decide) h (fun h => ?_) (fun h => ?_)
    · refine zj_iload E dX12_readAll_404 1 rfl ?_
      refine zj_if_ne (tgt := 419) E dX12_readAll_406 (by decide) h (fun h => ?_) (fun h => ?_)
      · refine zj_iconst (v := 4) E dX12_readAll_419 (by decide) ?_
        have e9 := Option.some.inj h
        subst e9
        exact (show zRet Γ cX12_readAll 9 0 0 (some (.int 4)) σ from K) _ _ dX12_readAll_420
      · refine zj_aload_n E dX12_readAll_409 rfl 2 rfl ?_
        refine zj_iload E dX12_readAll_410 6 rfl ?_
        refine zj_iload_n E dX12_readAll_412 rfl 5 rfl ?_
        obtain ⟨hk, h⟩ := oA_some h
        obtain ⟨x15, σ14, hc, h⟩ := oC_some h
        refine zs_callV (As := [.int l4, .int l3]) (rest := []) E zc11 zyX12_takeChunk zw_22_16 (kX12_takeChunk _ _ _ _ _ hc) rfl rfl hk rfl ⟨by decide, by decide⟩ ⟨by decide, by decide⟩ (Nat.le_of_ble_eq_true rfl) dX12_readAll_413 rfl (show zJ Γ 9 0 0 σ14 416 [(8, .int x14), (7, .int x13), (0, .ref l0), (1, .int l1), (2, .int l2), (3, .int l3), (4, .int l4)] [.int x15] from ?_)
        refine zj_if_ne (tgt := 421) E dX12_readAll_416 (by decide) h (fun h => ?_) (fun h => ?_)
        · refine zj_lv [2, 3, 4, 5] rfl ?_
          exact wX12_readAll_421 E _ _ _ _ _ h K
        · refine zj_iconst (v := 4) E dX12_readAll_419 (by decide) ?_
          have e9 := Option.some.inj h
          subst e9
          exact (show zRet Γ cX12_readAll 9 0 0 (some (.int 4)) σ14 from K) _ _ dX12_readAll_420
    · refine zj_iload_n E dX12_readAll_368 rfl 5 rfl ?_
      refine zj_if_ne (tgt := 397) E dX12_readAll_369 (by decide) h (fun h => ?_) (fun h => ?_)
      · refine zj_iconst (v := 4) E dX12_readAll_397 (by decide) ?_
        have e9 := Option.some.inj h
        subst e9
        exact (show zRet Γ cX12_readAll 9 0 0 (some (.int 4)) σ from K) _ _ dX12_readAll_398
      · refine zj_aload_n E dX12_readAll_372 rfl 2 rfl ?_
        refine zs_getI E zc11 27 (by decide) zw_18_3 rfl dX12_readAll_373 h (fun x16 h => ?_)
        refine zj_if_eq (tgt := 397) E dX12_readAll_376 (by decide) h (fun h => ?_) (fun h => ?_)
        · refine zj_iconst (v := 4) E dX12_readAll_397 (by decide) ?_
          have e9 := Option.some.inj h
          subst e9
          exact (show zRet Γ cX12_readAll 9 0 0 (some (.int 4)) σ from K) _ _ dX12_readAll_398
        · refine zj_aload_n E dX12_readAll_379 rfl 2 rfl ?_
          refine zs_getI E zc11 31 (by decide) zw_18_6 rfl dX12_readAll_380 h (fun x17 h => ?_)
          refine zj_if_ne (tgt := 397) E dX12_readAll_383 (by decide) h (fun h => ?_) (fun h => ?_)
          · refine zj_iconst (v := 4) E dX12_readAll_397 (by decide) ?_
            have e9 := Option.some.inj h
            subst e9
            exact (show zRet Γ cX12_readAll 9 0 0 (some (.int 4)) σ from K) _ _ dX12_readAll_398
          · refine zj_aload_n E dX12_readAll_386 rfl 2 rfl ?_
            refine zs_getI E zc11 24 (by decide) zw_18_0 rfl dX12_readAll_387 h (fun x18 h => ?_)
            refine zj_aload_n E dX12_readAll_390 rfl 2 rfl ?_
            refine zs_getI E zc11 25 (by decide) zw_18_1 rfl dX12_readAll_391 h (fun x19 h => ?_)
            refine zj_icmp_eq (tgt := 399) E dX12_readAll_394 (by decide) h (fun h => ?_) (fun h => ?_)
            · refine zj_iconst (v := 0) E dX12_readAll_399 (by decide) ?_
              refine zj_istore_n (lv2 := [(2, .int 0), (8, .int x14), (7, .int x13), (0, .ref l0), (1, .int l1), (3, .int l3), (4, .int l4)]) E dX12_readAll_400 rfl (by decide) rfl ?_
              refine zj_goto (tgt := 421) E dX12_readAll_401 (by decide) ?_
              refine zj_lv [3, 4, 0, 5] rfl ?_
              exact wX12_readAll_421 E _ _ _ _ _ h K
            · refine zj_iconst (v := 4) E dX12_readAll_397 (by decide) ?_
              have e9 := Option.some.inj h
              subst e9
              exact (show zRet Γ cX12_readAll 9 0 0 (some (.int 4)) σ from K) _ _ dX12_readAll_398
  · refine zj_iload E dX12_readAll_344 1 rfl ?_
    refine zj_if_eq (tgt := 361) E dX12_readAll_346 (by decide) h (fun h => ?_) (fun h => ?_)
    · refine zj_iconst (v := 4) E dX12_readAll_361 (by decide) ?_
      have e9 := Option.some.inj h
      subst e9
      exact (show zRet Γ cX12_readAll 9 0 0 (some (.int 4)) σ from K) _ _ dX12_readAll_362
    · refine zj_aload_n E dX12_readAll_349 rfl 2 rfl ?_
      refine zj_iload E dX12_readAll_350 6 rfl ?_
      refine zj_iconst (v := 4) E dX12_readAll_352 (by decide) ?_
      refine zj_iadd E dX12_readAll_353 ?_
      refine zj_iload_n E dX12_readAll_354 rfl 5 rfl ?_
      obtain ⟨hk, h⟩ := oA_some h
      obtain ⟨x20, σ15, hc, h⟩ := oC_some h
      refine zs_callV (As := [.int (l4 + (4 : Int32)), .int l3]) (rest := []) E zc11 zyX12_takeHead zw_22_12 (kX12_takeHead _ _ _ _ _ hc) rfl rfl hk rfl ⟨by decide, by decide⟩ ⟨by decide, by decide⟩ (Nat.le_of_ble_eq_true rfl) dX12_readAll_355 rfl (show zJ Γ 9 0 0 σ15 358 [(8, .int x14), (7, .int x13), (0, .ref l0), (1, .int l1), (2, .int l2), (3, .int l3), (4, .int l4)] [.int x20] from ?_)
      refine zj_if_ne (tgt := 421) E dX12_readAll_358 (by decide) h (fun h => ?_) (fun h => ?_)
      · refine zj_lv [2, 3, 4, 5] rfl ?_
        exact wX12_readAll_421 E _ _ _ _ _ h K
      · refine zj_iconst (v := 4) E dX12_readAll_361 (by decide) ?_
        have e9 := Option.some.inj h
        subst e9
        exact (show zRet Γ cX12_readAll 9 0 0 (some (.int 4)) σ15 from K) _ _ dX12_readAll_362
def fX12_readAll_273 (σ : zS) (l0 : Nat) (l1 : Int32) (l2 : Int32) (l3 : Int32) (l4 : Int32) (s0 : Int32) : Option ((Int32 × Int32 × zS) ⊕ ((Int32 × zS) ⊕ (Int32 × zS))) := oGI σ 12 l0 30 (fun x12 => (if x12 < 0 then fX12_readAll_306 σ l0 l1 l2 l3 l4 else (if s0 = 0 then oPZ σ 12 l0 28 1 (fun σ16 => oA (zk σ16 l0 = 12) (oC (fX12_finishPicture σ16 l0) (fun x21 σ17 => (if x21 ≤ 0 then fX12_readAll_306 σ17 l0 l1 l2 l3 l4 else some (.inr (.inr (x21, σ17))))))) else fX12_readAll_306 σ l0 l1 l2 l3 l4)))
set_option maxRecDepth 100000 in
theorem wX12_readAll_273 {Γ : zG} (E : zE Γ cX12_readAll RX12 9 { frames := 7, cells := 0, slots := 0, locals := 176 }) (σ : zS) (l0 : Nat) (l1 : Int32) (l2 : Int32) (l3 : Int32) (l4 : Int32) (s0 : Int32) {R : ((Int32 × Int32 × zS) ⊕ ((Int32 × zS) ⊕ (Int32 × zS)))} (h : fX12_readAll_273 σ l0 l1 l2 l3 l4 s0 = some R) (K : Sum.elim (jX12_readAll_91 Γ l0) (eX12_readAll_91 Γ l0) R) : zJ Γ 9 0 0 σ 273 [(0, .ref l0), (1, .int l1), (2, .int l2), (3, .int l3), (4, .int l4)] [.int s0] := by
  unfold fX12_readAll_273 at h
  refine zj_istore (lv2 := [(6, .int s0), (0, .ref l0), (1, .int l1), (2, .int l2), (3, .int l3), (4, .int l4)]) E dX12_readAll_273 (by decide) rfl ?_
  refine zj_aload_n E dX12_readAll_275 rfl 1 rfl ?_
  refine zs_getI E zc11 30 (by decide) zw_18_5 rfl dX12_readAll_276 h (fun x12 h => ?_)
  refine zj_if_lt (tgt := 306) E dX12_readAll_279 (by decide) h (fun h => ?_) (fun h => ?_)
  · refine zj_lv [1, 2, 3, 4, 5] rfl ?_
    exact wX12_readAll_306 E _ _ _ _ _ _ h K
  · refine zj_iload E dX12_readAll_282 0 rfl ?_
    refine zj_if_ne (tgt := 306) E dX12_readAll_284 (by decide) h (fun h => ?_) (fun h => ?_)
    · refine zj_lv [1, 2, 3, 4, 5] rfl ?_
      exact wX12_readAll_306 E _ _ _ _ _ _ h K
    · refine zj_aload_n E dX12_readAll_287 rfl 1 rfl ?_
      refine zj_iconst (v := 1) E dX12_readAll_288 (by decide) ?_
      refine zs_putZ E zc11 28 (by decide) zw_18_4 rfl rfl dX12_readAll_289 h (fun σ16 h => ?_)
      refine zj_aload_n E dX12_readAll_292 rfl 1 rfl ?_
      obtain ⟨hk, h⟩ := oA_some h
      obtain ⟨x21, σ17, hc, h⟩ := oC_some h
      refine zs_callV (As := []) (rest := []) E zc11 zyX12_finishPicture zw_19_2 (kX12_finishPicture _ _ _ _ _ hc) rfl rfl hk rfl ⟨by decide, by decide⟩ ⟨by decide, by decide⟩ (Nat.le_of_ble_eq_true rfl) dX12_readAll_293 rfl (show zJ Γ 9 0 0 σ17 296 [(6, .int s0), (0, .ref l0), (1, .int l1), (2, .int l2), (3, .int l3), (4, .int l4)] [.int x21] from ?_)
      refine zj_istore (lv2 := [(7, .int x21), (6, .int s0), (0, .ref l0), (1, .int l1), (2, .int l2), (3, .int l3), (4, .int l4)]) E dX12_readAll_296 (by decide) rfl ?_
      refine zj_iload E dX12_readAll_298 0 rfl ?_
      refine zj_if_le (tgt := 306) E dX12_readAll_300 (by decide) h (fun h => ?_) (fun h => ?_)
      · refine zj_lv [2, 3, 4, 5, 6] rfl ?_
        exact wX12_readAll_306 E _ _ _ _ _ _ h K
      · refine zj_iload E dX12_readAll_303 0 rfl ?_
        have e9 := Option.some.inj h
        subst e9
        exact (show zRet Γ cX12_readAll 9 0 0 (some (.int x21)) σ17 from K) _ _ dX12_readAll_305
def fX12_readAll_272 (σ : zS) (l0 : Nat) (l1 : Int32) (l2 : Int32) (l3 : Int32) (l4 : Int32) : Option ((Int32 × Int32 × zS) ⊕ ((Int32 × zS) ⊕ (Int32 × zS))) := fX12_readAll_273 σ l0 l1 l2 l3 l4 0
set_option maxRecDepth 100000 in
theorem wX12_readAll_272 {Γ : zG} (E : zE Γ cX12_readAll RX12 9 { frames := 7, cells := 0, slots := 0, locals := 176 }) (σ : zS) (l0 : Nat) (l1 : Int32) (l2 : Int32) (l3 : Int32) (l4 : Int32) {R : ((Int32 × Int32 × zS) ⊕ ((Int32 × zS) ⊕ (Int32 × zS)))} (h : fX12_readAll_272 σ l0 l1 l2 l3 l4 = some R) (K : Sum.elim (jX12_readAll_91 Γ l0) (eX12_readAll_91 Γ l0) R) : zJ Γ 9 0 0 σ 272 [(0, .ref l0), (1, .int l1), (2, .int l2), (3, .int l3), (4, .int l4)] [] := by
  unfold fX12_readAll_272 at h
  refine zj_iconst (v := 0) E dX12_readAll_272 (by decide) ?_
  refine zj_lv [0, 1, 2, 3, 4] rfl ?_
  exact wX12_readAll_273 E _ _ _ _ _ _ _ h K
def fX12_readAll_268 (σ : zS) (l0 : Nat) (l1 : Int32) (l2 : Int32) (l3 : Int32) (l4 : Int32) : Option ((Int32 × Int32 × zS) ⊕ ((Int32 × zS) ⊕ (Int32 × zS))) := fX12_readAll_273 σ l0 l1 l2 l3 l4 1
set_option maxRecDepth 100000 in
theorem wX12_readAll_268 {Γ : zG} (E : zE Γ cX12_readAll RX12 9 { frames := 7, cells := 0, slots := 0, locals := 176 }) (σ : zS) (l0 : Nat) (l1 : Int32) (l2 : Int32) (l3 : Int32) (l4 : Int32) {R : ((Int32 × Int32 × zS) ⊕ ((Int32 × zS) ⊕ (Int32 × zS)))} (h : fX12_readAll_268 σ l0 l1 l2 l3 l4 = some R) (K : Sum.elim (jX12_readAll_91 Γ l0) (eX12_readAll_91 Γ l0) R) : zJ Γ 9 0 0 σ 268 [(0, .ref l0), (1, .int l1), (2, .int l2), (3, .int l3), (4, .int l4)] [] := by
  unfold fX12_readAll_268 at h
  refine zj_iconst (v := 1) E dX12_readAll_268 (by decide) ?_
  refine zj_goto (tgt := 273) E dX12_readAll_269 (by decide) ?_
  refine zj_lv [0, 1, 2, 3, 4] rfl ?_
  exact wX12_readAll_273 E _ _ _ _ _ _ _ h K
def fX12_readAll_235 (σ : zS) (l0 : Nat) (l1 : Int32) (l2 : Int32) (l3 : Int32) (l4 : Int32) : Option ((Int32 × Int32 × zS) ⊕ ((Int32 × zS) ⊕ (Int32 × zS))) := oGI σ 12 l0 30 (fun x11 => (if x11 < 0 then fX12_readAll_272 σ l0 l1 l2 l3 l4 else oGI σ 12 l0 30 (fun x22 => (if (8 : Int32) ≤ x22 then fX12_readAll_272 σ l0 l1 l2 l3 l4 else oA (zk σ l0 = 12) (oB (fX12_isType σ l0 l4 102 100 65 84) (fun x23 => (if x23 = 0 then fX12_readAll_272 σ l0 l1 l2 l3 l4 else fX12_readAll_268 σ l0 l1 l2 l3 l4)))))))
set_option maxRecDepth 100000 in
theorem wX12_readAll_235 {Γ : zG} (E : zE Γ cX12_readAll RX12 9 { frames := 7, cells := 0, slots := 0, locals := 176 }) (σ : zS) (l0 : Nat) (l1 : Int32) (l2 : Int32) (l3 : Int32) (l4 : Int32) {R : ((Int32 × Int32 × zS) ⊕ ((Int32 × zS) ⊕ (Int32 × zS)))} (h : fX12_readAll_235 σ l0 l1 l2 l3 l4 = some R) (K : Sum.elim (jX12_readAll_91 Γ l0) (eX12_readAll_91 Γ l0) R) : zJ Γ 9 0 0 σ 235 [(0, .ref l0), (1, .int l1), (2, .int l2), (3, .int l3), (4, .int l4)] [] := by
  unfold fX12_readAll_235 at h
  refine zj_aload_n E dX12_readAll_235 rfl 0 rfl ?_
  refine zs_getI E zc11 30 (by decide) zw_18_5 rfl dX12_readAll_236 h (fun x11 h => ?_)
  refine zj_if_lt (tgt := 272) E dX12_readAll_239 (by decide) h (fun h => ?_) (fun h => ?_)
  · refine zj_lv [0, 1, 2, 3, 4] rfl ?_
    exact wX12_readAll_272 E _ _ _ _ _ _ h K
  · refine zj_aload_n E dX12_readAll_242 rfl 0 rfl ?_
    refine zs_getI E zc11 30 (by decide) zw_18_5 rfl dX12_readAll_243 h (fun x22 h => ?_)
    refine zj_bipush (v := 8) E dX12_readAll_246 (by decide) ?_
    refine zj_icmp_ge (tgt := 272) E dX12_readAll_248 (by decide) h (fun h => ?_) (fun h => ?_)
    · refine zj_lv [0, 1, 2, 3, 4] rfl ?_
      exact wX12_readAll_272 E _ _ _ _ _ _ h K
    · refine zj_aload_n E dX12_readAll_251 rfl 0 rfl ?_
      refine zj_iload E dX12_readAll_252 4 rfl ?_
      refine zj_bipush (v := 102) E dX12_readAll_254 (by decide) ?_
      refine zj_bipush (v := 100) E dX12_readAll_256 (by decide) ?_
      refine zj_bipush (v := 65) E dX12_readAll_258 (by decide) ?_
      refine zj_bipush (v := 84) E dX12_readAll_260 (by decide) ?_
      obtain ⟨hk, h⟩ := oA_some h
      obtain ⟨x23, hc, h⟩ := oB_some h
      refine zs_callV (As := [.int l4, .int 102, .int 100, .int 65, .int 84]) (rest := []) E zc11 zyX12_isType zw_18_22 (kX12_isType _ _ _ _ _ hc) rfl rfl hk rfl ⟨by decide, by decide⟩ ⟨by decide, by decide⟩ (Nat.le_of_ble_eq_true rfl) dX12_readAll_262 rfl (show zJ Γ 9 0 0 σ 265 [(0, .ref l0), (1, .int l1), (2, .int l2), (3, .int l3), (4, .int l4)] [.int x23] from ?_)
      refine zj_if_eq (tgt := 272) E dX12_readAll_265 (by decide) h (fun h => ?_) (fun h => ?_)
      · refine zj_lv [0, 1, 2, 3, 4] rfl ?_
        exact wX12_readAll_272 E _ _ _ _ _ _ h K
      · refine zj_lv [0, 1, 2, 3, 4] rfl ?_
        exact wX12_readAll_268 E _ _ _ _ _ _ h K
def fX12_readAll_114 (σ : zS) (l0 : Nat) (l1 : Int32) (l2 : Int32) (s0 : Int32) : Option ((Int32 × Int32 × zS) ⊕ ((Int32 × zS) ⊕ (Int32 × zS))) := (if s0 < 0 then fX12_readAll_132 σ l0 else oGI σ 12 l0 1 (fun x6 => (if s0 ≤ ((x6 - l1) - (12 : Int32)) then oL (l1 + (4 : Int32)) (fun v2 => oPI σ 12 l0 3 v2 (fun σ13 => oB (zloop zF (fun x => bX12_readAll_160 σ13 l0 l1 l2 s0 v2 x.1 x.2) ((-1 : Int32), v2)) (fun b2 => (fun v4 => oA (zk σ13 l0 = 12) (oB (fX12_number σ13 l0 ((v2 + (4 : Int32)) + s0)) (fun x9 => (if x9 = (v4 ^^^ (-1 : Int32)) then oGI σ13 12 l0 30 (fun x10 => (if x10 = (8 : Int32) then oA (zk σ13 l0 = 12) (oB (fX12_isType σ13 l0 v2 73 68 65 84) (fun x24 => (if x24 = 0 then fX12_readAll_235 σ13 l0 l1 l2 s0 v2 else fX12_readAll_268 σ13 l0 l1 l2 s0 v2))) else fX12_readAll_235 σ13 l0 l1 l2 s0 v2)) else some (.inr (.inr (3, σ13))))))) b2))) else fX12_readAll_132 σ l0)))
set_option maxRecDepth 100000 in
theorem wX12_readAll_114 {Γ : zG} (E : zE Γ cX12_readAll RX12 9 { frames := 7, cells := 0, slots := 0, locals := 176 }) (σ : zS) (l0 : Nat) (l1 : Int32) (l2 : Int32) (s0 : Int32) {R : ((Int32 × Int32 × zS) ⊕ ((Int32 × zS) ⊕ (Int32 × zS)))} (h : fX12_readAll_114 σ l0 l1 l2 s0 = some R) (K : Sum.elim (jX12_readAll_91 Γ l0) (eX12_readAll_91 Γ l0) R) : zJ Γ 9 0 0 σ 114 [(0, .ref l0), (1, .int l1), (2, .int l2)] [.int s0] := by
  unfold fX12_readAll_114 at h
  refine zj_istore_n (lv2 := [(3, .int s0), (0, .ref l0), (1, .int l1), (2, .int l2)]) E dX12_readAll_114 rfl (by decide) rfl ?_
  refine zj_iload_n E dX12_readAll_115 rfl 0 rfl ?_
  refine zj_if_lt (tgt := 132) E dX12_readAll_116 (by decide) h (fun h => ?_) (fun h => ?_)
  · refine zj_lv [1] rfl ?_
    exact wX12_readAll_132 E _ _ h K
  · refine zj_iload_n E dX12_readAll_119 rfl 0 rfl ?_
    refine zj_aload_n E dX12_readAll_120 rfl 1 rfl ?_
    refine zs_getI E zc11 1 (by decide) zw_6_15 rfl dX12_readAll_121 h (fun x6 h => ?_)
    refine zj_iload_n E dX12_readAll_124 rfl 2 rfl ?_
    refine zj_isub E dX12_readAll_125 ?_
    refine zj_bipush (v := 12) E dX12_readAll_126 (by decide) ?_
    refine zj_isub E dX12_readAll_128 ?_
    refine zj_icmp_le (tgt := 142) E dX12_readAll_129 (by decide) h (fun h => ?_) (fun h => ?_)
    · refine zj_iload_n E dX12_readAll_142 rfl 2 rfl ?_
      refine zj_iconst (v := 4) E dX12_readAll_143 (by decide) ?_
      refine zj_iadd E dX12_readAll_144 ?_
      refine zs_istore (lv2 := fun v2 => [(4, .int v2), (3, .int s0), (0, .ref l0), (1, .int l1), (2, .int l2)]) E dX12_readAll_145 (by decide) (fun _ => rfl) h (fun v2 h => ?_)
      refine zj_aload_n E dX12_readAll_147 rfl 2 rfl ?_
      refine zj_iload E dX12_readAll_148 0 rfl ?_
      refine zs_putI E zc11 3 (by decide) zw_6_4 rfl rfl dX12_readAll_150 h (fun σ13 h => ?_)
      refine zj_iconst (v := (-1 : Int32)) E dX12_readAll_153 (by decide) ?_
      refine zj_istore (lv2 := [(5, .int (-1 : Int32)), (4, .int v2), (3, .int s0), (0, .ref l0), (1, .int l1), (2, .int l2)]) E dX12_readAll_154 (by decide) rfl ?_
      refine zj_iload E dX12_readAll_156 1 rfl ?_
      refine zj_istore (lv2 := [(6, .int v2), (5, .int (-1 : Int32)), (4, .int v2), (3, .int s0), (0, .ref l0), (1, .int l1), (2, .int l2)]) E dX12_readAll_158 (by decide) rfl ?_
      obtain ⟨b2, hb2, h⟩ := oB_some h
      refine zj_lv [4, 5, 6, 3, 2, 1, 0] rfl ?_
      refine zj_loop (wX12_readAll_L160 E σ13 l0 l1 l2 s0 v2) zF ((-1 : Int32), v2) b2 hb2 ?_
      obtain ⟨v4, rfl⟩ : ∃ z, z = b2 := ⟨_, rfl⟩
      try dsimp only at h
      show zJ Γ 9 0 0 σ13 190 [(0, .ref l0), (1, .int l1), (2, .int l2), (3, .int s0), (4, .int v2), (5, .int v4)] []
      refine zj_aload_n E dX12_readAll_190 rfl 0 rfl ?_
      refine zj_iload E dX12_readAll_191 4 rfl ?_
      refine zj_iconst (v := 4) E dX12_readAll_193 (by decide) ?_
      refine zj_iadd E dX12_readAll_194 ?_
      refine zj_iload_n E dX12_readAll_195 rfl 3 rfl ?_
      refine zj_iadd E dX12_readAll_196 ?_
      obtain ⟨hk, h⟩ := oA_some h
      obtain ⟨x9, hc, h⟩ := oB_some h
      refine zs_callV (As := [.int ((v2 + (4 : Int32)) + s0)]) (rest := []) E zc11 zyX12_number zw_18_14 (kX12_number _ _ _ _ _ hc) rfl rfl hk rfl ⟨by decide, by decide⟩ ⟨by decide, by decide⟩ (Nat.le_of_ble_eq_true rfl) dX12_readAll_197 rfl (show zJ Γ 9 0 0 σ13 200 [(0, .ref l0), (1, .int l1), (2, .int l2), (3, .int s0), (4, .int v2), (5, .int v4)] [.int x9] from ?_)
      refine zj_iload E dX12_readAll_200 5 rfl ?_
      refine zj_iconst (v := (-1 : Int32)) E dX12_readAll_202 (by decide) ?_
      refine zj_ixor E dX12_readAll_203 ?_
      refine zj_icmp_eq (tgt := 209) E dX12_readAll_204 (by decide) h (fun h => ?_) (fun h => ?_)
      · refine zj_aload_n E dX12_readAll_209 rfl 0 rfl ?_
        refine zs_getI E zc11 30 (by decide) zw_18_5 rfl dX12_readAll_210 h (fun x10 h => ?_)
        refine zj_bipush (v := 8) E dX12_readAll_213 (by decide) ?_
        refine zj_icmp_ne (tgt := 235) E dX12_readAll_215 (by decide) h (fun h => ?_) (fun h => ?_)
        · refine zj_lv [0, 1, 2, 3, 4] rfl ?_
          exact wX12_readAll_235 E _ _ _ _ _ _ h K
        · refine zj_aload_n E dX12_readAll_218 rfl 0 rfl ?_
          refine zj_iload E dX12_readAll_219 4 rfl ?_
          refine zj_bipush (v := 73) E dX12_readAll_221 (by decide) ?_
          refine zj_bipush (v := 68) E dX12_readAll_223 (by decide) ?_
          refine zj_bipush (v := 65) E dX12_readAll_225 (by decide) ?_
          refine zj_bipush (v := 84) E dX12_readAll_227 (by decide) ?_
          obtain ⟨hk, h⟩ := oA_some h
          obtain ⟨x24, hc, h⟩ := oB_some h
          refine zs_callV (As := [.int v2, .int 73, .int 68, .int 65, .int 84]) (rest := []) E zc11 zyX12_isType zw_18_22 (kX12_isType _ _ _ _ _ hc) rfl rfl hk rfl ⟨by decide, by decide⟩ ⟨by decide, by decide⟩ (Nat.le_of_ble_eq_true rfl) dX12_readAll_229 rfl (show zJ Γ 9 0 0 σ13 232 [(0, .ref l0), (1, .int l1), (2, .int l2), (3, .int s0), (4, .int v2), (5, .int v4)] [.int x24] from ?_)
          refine zj_if_ne (tgt := 268) E dX12_readAll_232 (by decide) h (fun h => ?_) (fun h => ?_)
          · refine zj_lv [0, 1, 2, 3, 4] rfl ?_
            exact wX12_readAll_268 E _ _ _ _ _ _ h K
          · refine zj_lv [0, 1, 2, 3, 4] rfl ?_
            exact wX12_readAll_235 E _ _ _ _ _ _ h K
      · refine zj_iconst (v := 3) E dX12_readAll_207 (by decide) ?_
        have e9 := Option.some.inj h
        subst e9
        exact (show zRet Γ cX12_readAll 9 0 0 (some (.int 3)) σ13 from K) _ _ dX12_readAll_208
    · refine zj_lv [1] rfl ?_
      exact wX12_readAll_132 E _ _ h K
def bX12_readAll_91 (l0 : Nat) (l1 : Int32) (l2 : Int32) (σ : zS) : Option ((Int32 × Int32 × zS) ⊕ ((Int32 × zS) ⊕ (Int32 × zS))) := (if l2 = 0 then some (.inr (.inl (l1, σ))) else oGI σ 12 l0 1 (fun x4 => (if x4 < (l1 + (4 : Int32)) then fX12_readAll_114 σ l0 l1 l2 (-1 : Int32) else oA (zk σ l0 = 12) (oB (fX12_number σ l0 l1) (fun x25 => fX12_readAll_114 σ l0 l1 l2 x25)))))
set_option maxRecDepth 100000 in
theorem wX12_readAll_L91 {Γ : zG} (E : zE Γ cX12_readAll RX12 9 { frames := 7, cells := 0, slots := 0, locals := 176 }) (l0 : Nat) : ∀ x R, (fun x => bX12_readAll_91 l0 x.1 x.2.1 x.2.2) x = some R → Sum.elim (jX12_readAll_91 Γ l0) (eX12_readAll_91 Γ l0) R → jX12_readAll_91 Γ l0 x := by
  intro x R h K
  obtain ⟨l1, l2, σ⟩ := x
  have h : bX12_readAll_91 l0 l1 l2 σ = some R := h
  show zJ Γ 9 0 0 σ 91 [(0, .ref l0), (1, .int l1), (2, .int l2)] []
  unfold bX12_readAll_91 at h
  refine zj_iload_n E dX12_readAll_91 rfl 2 rfl ?_
  refine zj_if_eq (tgt := 431) E dX12_readAll_92 (by decide) h (fun h => ?_) (fun h => ?_)
  · have e9 := Option.some.inj h
    subst e9
    refine zj_lv [0, 1] rfl ?_
    exact K
  · refine zj_iload_n E dX12_readAll_95 rfl 1 rfl ?_
    refine zj_iconst (v := 4) E dX12_readAll_96 (by decide) ?_
    refine zj_iadd E dX12_readAll_97 ?_
    refine zj_aload_n E dX12_readAll_98 rfl 0 rfl ?_
    refine zs_getI E zc11 1 (by decide) zw_6_15 rfl dX12_readAll_99 h (fun x4 h => ?_)
    refine zj_icmp_gt (tgt := 113) E dX12_readAll_102 (by decide) h (fun h => ?_) (fun h => ?_)
    · refine zj_iconst (v := (-1 : Int32)) E dX12_readAll_113 (by decide) ?_
      refine zj_lv [0, 1, 2] rfl ?_
      exact wX12_readAll_114 E _ _ _ _ _ h K
    · refine zj_aload_n E dX12_readAll_105 rfl 0 rfl ?_
      refine zj_iload_n E dX12_readAll_106 rfl 1 rfl ?_
      obtain ⟨hk, h⟩ := oA_some h
      obtain ⟨x25, hc, h⟩ := oB_some h
      refine zs_callV (As := [.int l1]) (rest := []) E zc11 zyX12_number zw_18_14 (kX12_number _ _ _ _ _ hc) rfl rfl hk rfl ⟨by decide, by decide⟩ ⟨by decide, by decide⟩ (Nat.le_of_ble_eq_true rfl) dX12_readAll_107 rfl (show zJ Γ 9 0 0 σ 110 [(0, .ref l0), (1, .int l1), (2, .int l2)] [.int x25] from ?_)
      refine zj_goto (tgt := 114) E dX12_readAll_110 (by decide) ?_
      refine zj_lv [0, 1, 2] rfl ?_
      exact wX12_readAll_114 E _ _ _ _ _ h K
def fX12_readAll (σ : zS) (p0 : Nat) : Option (Int32 × zS) := oB (zloop zF (fun x => bX12_readAll_2 p0 x.1 x.2) (0, σ)) (fun b1 => oS b1 (fun c1 => (fun σ2 => oPZ σ2 12 p0 23 0 (fun σ3 => oPI σ3 12 p0 24 0 (fun σ4 => oPI σ4 12 p0 25 0 (fun σ5 => oPI σ5 12 p0 26 0 (fun σ6 => oPZ σ6 12 p0 27 0 (fun σ7 => oPZ σ7 12 p0 28 0 (fun σ8 => oPZ σ8 12 p0 29 0 (fun σ9 => oPI σ9 12 p0 30 (-1 : Int32) (fun σ10 => oPZ σ10 12 p0 31 0 (fun σ11 => oB (zloop zF (fun x => bX12_readAll_91 p0 x.1 x.2.1 x.2.2) (8, 1, σ11)) (fun b3 => oS b3 (fun c2 => (fun v6 σ18 => oGI σ18 12 p0 1 (fun x26 => (if x26 ≤ v6 then oPI σ18 12 p0 3 (-1 : Int32) (fun σ19 => some (0, σ19)) else oPI σ18 12 p0 3 v6 (fun σ20 => some (4, σ20))))) c2.1 c2.2) (fun r2 => some r2)))))))))))) c1) (fun r1 => some r1))
set_option maxRecDepth 100000 in
theorem wX12_readAll {Γ : zG} (E : zE Γ cX12_readAll RX12 9 { frames := 7, cells := 0, slots := 0, locals := 176 }) (σ : zS) (p0 : Nat) {R : (Int32 × zS)} (h : fX12_readAll σ p0 = some R) (K : zRet Γ cX12_readAll 9 0 0 (some (.int R.1)) R.2) : zJ Γ 9 0 0 σ 0 [(0, .ref p0)] [] := by
  unfold fX12_readAll at h
  refine zj_iconst (v := 0) E dX12_readAll_0 (by decide) ?_
  refine zj_istore_n (lv2 := [(1, .int 0), (0, .ref p0)]) E dX12_readAll_1 rfl (by decide) rfl ?_
  obtain ⟨b1, hb1, h⟩ := oB_some h
  refine zj_lv [1, 0] rfl ?_
  refine zj_loop (wX12_readAll_L2 E p0) zF (0, σ) b1 hb1 ?_
  cases b1 with
  | inr r1 =>
    have e9 := Option.some.inj h
    subst e9
    exact K
  | inl c1 =>
    obtain ⟨σ2, rfl⟩ : ∃ z, z = c1 := ⟨_, rfl⟩
    dsimp only [oS] at h
    show zJ Γ 9 0 0 σ2 41 [(0, .ref p0)] []
    refine zj_aload_n E dX12_readAll_41 rfl 0 rfl ?_
    refine zj_iconst (v := 0) E dX12_readAll_42 (by decide) ?_
    refine zs_putZ E zc11 23 (by decide) zw_17_23 rfl rfl dX12_readAll_43 h (fun σ3 h => ?_)
    refine zj_aload_n E dX12_readAll_46 rfl 0 rfl ?_
    refine zj_iconst (v := 0) E dX12_readAll_47 (by decide) ?_
    refine zs_putI E zc11 24 (by decide) zw_18_0 rfl rfl dX12_readAll_48 h (fun σ4 h => ?_)
    refine zj_aload_n E dX12_readAll_51 rfl 0 rfl ?_
    refine zj_iconst (v := 0) E dX12_readAll_52 (by decide) ?_
    refine zs_putI E zc11 25 (by decide) zw_18_1 rfl rfl dX12_readAll_53 h (fun σ5 h => ?_)
    refine zj_aload_n E dX12_readAll_56 rfl 0 rfl ?_
    refine zj_iconst (v := 0) E dX12_readAll_57 (by decide) ?_
    refine zs_putI E zc11 26 (by decide) zw_18_2 rfl rfl dX12_readAll_58 h (fun σ6 h => ?_)
    refine zj_aload_n E dX12_readAll_61 rfl 0 rfl ?_
    refine zj_iconst (v := 0) E dX12_readAll_62 (by decide) ?_
    refine zs_putZ E zc11 27 (by decide) zw_18_3 rfl rfl dX12_readAll_63 h (fun σ7 h => ?_)
    refine zj_aload_n E dX12_readAll_66 rfl 0 rfl ?_
    refine zj_iconst (v := 0) E dX12_readAll_67 (by decide) ?_
    refine zs_putZ E zc11 28 (by decide) zw_18_4 rfl rfl dX12_readAll_68 h (fun σ8 h => ?_)
    refine zj_aload_n E dX12_readAll_71 rfl 0 rfl ?_
    refine zj_iconst (v := 0) E dX12_readAll_72 (by decide) ?_
    refine zs_putZ E zc11 29 (by decide) zw_17_17 rfl rfl dX12_readAll_73 h (fun σ9 h => ?_)
    refine zj_aload_n E dX12_readAll_76 rfl 0 rfl ?_
    refine zj_iconst (v := (-1 : Int32)) E dX12_readAll_77 (by decide) ?_
    refine zs_putI E zc11 30 (by decide) zw_18_5 rfl rfl dX12_readAll_78 h (fun σ10 h => ?_)
    refine zj_aload_n E dX12_readAll_81 rfl 0 rfl ?_
    refine zj_iconst (v := 0) E dX12_readAll_82 (by decide) ?_
    refine zs_putZ E zc11 31 (by decide) zw_18_6 rfl rfl dX12_readAll_83 h (fun σ11 h => ?_)
    refine zj_bipush (v := 8) E dX12_readAll_86 (by decide) ?_
    refine zj_istore_n (lv2 := [(1, .int 8), (0, .ref p0)]) E dX12_readAll_88 rfl (by decide) rfl ?_
    refine zj_iconst (v := 1) E dX12_readAll_89 (by decide) ?_
    refine zj_istore_n (lv2 := [(2, .int 1), (1, .int 8), (0, .ref p0)]) E dX12_readAll_90 rfl (by decide) rfl ?_
    obtain ⟨b3, hb3, h⟩ := oB_some h
    refine zj_lv [2, 1, 0] rfl ?_
    refine zj_loop (wX12_readAll_L91 E p0) zF (8, 1, σ11) b3 hb3 ?_
    cases b3 with
    | inr r2 =>
      have e9 := Option.some.inj h
      subst e9
      exact K
    | inl c2 =>
      obtain ⟨v6, σ18⟩ := c2
      dsimp only [oS] at h
      show zJ Γ 9 0 0 σ18 431 [(0, .ref p0), (1, .int v6)] []
      refine zj_iload_n E dX12_readAll_431 rfl 1 rfl ?_
      refine zj_aload_n E dX12_readAll_432 rfl 0 rfl ?_
      refine zs_getI E zc11 1 (by decide) zw_6_15 rfl dX12_readAll_433 h (fun x26 h => ?_)
      refine zj_icmp_ge (tgt := 446) E dX12_readAll_436 (by decide) h (fun h => ?_) (fun h => ?_)
      · refine zj_aload_n E dX12_readAll_446 rfl 0 rfl ?_
        refine zj_iconst (v := (-1 : Int32)) E dX12_readAll_447 (by decide) ?_
        refine zs_putI E zc11 3 (by decide) zw_6_4 rfl rfl dX12_readAll_448 h (fun σ19 h => ?_)
        refine zj_iconst (v := 0) E dX12_readAll_451 (by decide) ?_
        have e9 := Option.some.inj h
        subst e9
        exact (show zRet Γ cX12_readAll 9 0 0 (some (.int 0)) σ19 from K) _ _ dX12_readAll_452
      · refine zj_aload_n E dX12_readAll_439 rfl 0 rfl ?_
        refine zj_iload_n E dX12_readAll_440 rfl 1 rfl ?_
        refine zs_putI E zc11 3 (by decide) zw_6_4 rfl rfl dX12_readAll_441 h (fun σ20 h => ?_)
        refine zj_iconst (v := 4) E dX12_readAll_444 (by decide) ?_
        have e9 := Option.some.inj h
        subst e9
        exact (show zRet Γ cX12_readAll 9 0 0 (some (.int 4)) σ20 from K) _ _ dX12_readAll_445
set_option maxRecDepth 100000 in
theorem kX12_readAll (l : Launch) (D : va_G) (cs : zCs) (z0 : Nat) (σ : zS) {p0 : Nat} {r : Int32} {σ' : zS} (h : fX12_readAll σ p0 = some (r, σ')) : zM l D cs z0 yX12_readAll cX12_readAll 9 (some .int) { frames := 7, cells := 0, slots := 0, locals := 176 } [.ref p0] σ (some (.int r)) σ' 0 0 := by
  exact zM_of (by decide) rfl (Or.inl rfl) (Nat.le_of_ble_eq_true rfl) rfl (fun Γ e1 e2 e3 e4 E hN K => wX12_readAll E σ _ h K)
/-! X12_read -/
def jX12_read_43 (Γ : zG) (l0 : Nat) : (Int32 × zS) → Prop := fun x => zJ Γ 3 0 0 x.2 43 [(0, .ref l0), (2, .int x.1)] []
def eX12_read_43 (Γ : zG) (l0 : Nat) : zS → Prop := fun b => zJ Γ 3 0 0 b 70 [(0, .ref l0)] []
def bX12_read_43 (l0 : Nat) (l2 : Int32) (σ : zS) : Option ((Int32 × zS) ⊕ zS) := (if (6 : Int32) ≤ l2 then some (.inr σ) else oGR σ 12 l0 4 (fun a2 => oGR σ 12 l0 4 (fun a3 => oLd σ 21 a3 ((6 : Int32) + l2) (fun x3 => oSt σ 21 a2 l2 x3 (fun σ5 => oL (l2 + 1) (fun v1 => some (.inl (v1, σ5))))))))
set_option maxRecDepth 100000 in
theorem wX12_read_L43 {Γ : zG} (E : zE Γ cX12_read RX12 3 { frames := 8, cells := 0, slots := 0, locals := 204 }) (l0 : Nat) : ∀ x R, (fun x => bX12_read_43 l0 x.1 x.2) x = some R → Sum.elim (jX12_read_43 Γ l0) (eX12_read_43 Γ l0) R → jX12_read_43 Γ l0 x := by
  intro x R h K
  obtain ⟨l2, σ⟩ := x
  have h : bX12_read_43 l0 l2 σ = some R := h
  show zJ Γ 3 0 0 σ 43 [(0, .ref l0), (2, .int l2)] []
  unfold bX12_read_43 at h
  refine zj_iload_n E dX12_read_43 rfl 1 rfl ?_
  refine zj_bipush (v := 6) E dX12_read_44 (by decide) ?_
  refine zj_icmp_ge (tgt := 70) E dX12_read_46 (by decide) h (fun h => ?_) (fun h => ?_)
  · have e9 := Option.some.inj h
    subst e9
    refine zj_lv [0] rfl ?_
    exact K
  · refine zj_aload_n E dX12_read_49 rfl 0 rfl ?_
    refine zs_getR E zc11 4 (by decide) zw_6_5 rfl dX12_read_50 h (fun a2 h => ?_)
    refine zj_iload_n E dX12_read_53 rfl 1 rfl ?_
    refine zj_aload_n E dX12_read_54 rfl 0 rfl ?_
    refine zs_getR E zc11 4 (by decide) zw_6_5 rfl dX12_read_55 h (fun a3 h => ?_)
    refine zj_bipush (v := 6) E dX12_read_58 (by decide) ?_
    refine zj_iload_n E dX12_read_60 rfl 1 rfl ?_
    refine zj_iadd E dX12_read_61 ?_
    refine zs_iald E dX12_read_62 h (fun x3 h => ?_)
    refine zs_iast E dX12_read_63 h (fun σ5 h => ?_)
    refine zs_iinc (lv2 := fun v1 => [(2, .int v1), (0, .ref l0)]) E dX12_read_64 1 rfl (by decide) (by decide) (fun _ => rfl) h (fun v1 h => ?_)
    refine zj_goto (tgt := 43) E dX12_read_67 (by decide) ?_
    have e9 := Option.some.inj h
    subst e9
    refine zj_lv [1, 0] rfl ?_
    exact K
def jX12_read_72 (Γ : zG) (l0 : Nat) : (Int32 × zS) → Prop := fun x => zJ Γ 3 0 0 x.2 72 [(0, .ref l0), (2, .int x.1)] []
def eX12_read_72 (Γ : zG) (l0 : Nat) : zS → Prop := fun b => zJ Γ 3 0 0 b 99 [(0, .ref l0)] []
def bX12_read_72 (l0 : Nat) (l2 : Int32) (σ : zS) : Option ((Int32 × zS) ⊕ zS) := (if (48 : Int32) ≤ l2 then some (.inr σ) else oGR σ 12 l0 5 (fun a4 => oGR σ 12 l0 5 (fun a5 => oLd σ 21 a5 ((48 : Int32) + l2) (fun x4 => oSt σ 21 a4 l2 x4 (fun σ7 => oL (l2 + 1) (fun v2 => some (.inl (v2, σ7))))))))
set_option maxRecDepth 100000 in
theorem wX12_read_L72 {Γ : zG} (E : zE Γ cX12_read RX12 3 { frames := 8, cells := 0, slots := 0, locals := 204 }) (l0 : Nat) : ∀ x R, (fun x => bX12_read_72 l0 x.1 x.2) x = some R → Sum.elim (jX12_read_72 Γ l0) (eX12_read_72 Γ l0) R → jX12_read_72 Γ l0 x := by
  intro x R h K
  obtain ⟨l2, σ⟩ := x
  have h : bX12_read_72 l0 l2 σ = some R := h
  show zJ Γ 3 0 0 σ 72 [(0, .ref l0), (2, .int l2)] []
  unfold bX12_read_72 at h
  refine zj_iload_n E dX12_read_72 rfl 1 rfl ?_
  refine zj_bipush (v := 48) E dX12_read_73 (by decide) ?_
  refine zj_icmp_ge (tgt := 99) E dX12_read_75 (by decide) h (fun h => ?_) (fun h => ?_)
  · have e9 := Option.some.inj h
    subst e9
    refine zj_lv [0] rfl ?_
    exact K
  · refine zj_aload_n E dX12_read_78 rfl 0 rfl ?_
    refine zs_getR E zc11 5 (by decide) zw_6_6 rfl dX12_read_79 h (fun a4 h => ?_)
    refine zj_iload_n E dX12_read_82 rfl 1 rfl ?_
    refine zj_aload_n E dX12_read_83 rfl 0 rfl ?_
    refine zs_getR E zc11 5 (by decide) zw_6_6 rfl dX12_read_84 h (fun a5 h => ?_)
    refine zj_bipush (v := 48) E dX12_read_87 (by decide) ?_
    refine zj_iload_n E dX12_read_89 rfl 1 rfl ?_
    refine zj_iadd E dX12_read_90 ?_
    refine zs_iald E dX12_read_91 h (fun x4 h => ?_)
    refine zs_iast E dX12_read_92 h (fun σ7 h => ?_)
    refine zs_iinc (lv2 := fun v2 => [(2, .int v2), (0, .ref l0)]) E dX12_read_93 1 rfl (by decide) (by decide) (fun _ => rfl) h (fun v2 h => ?_)
    refine zj_goto (tgt := 72) E dX12_read_96 (by decide) ?_
    have e9 := Option.some.inj h
    subst e9
    refine zj_lv [1, 0] rfl ?_
    exact K
def jX12_read_101 (Γ : zG) (l0 : Nat) : (Int32 × zS) → Prop := fun x => zJ Γ 3 0 0 x.2 101 [(0, .ref l0), (2, .int x.1)] []
def eX12_read_101 (Γ : zG) (l0 : Nat) : zS → Prop := fun b => zJ Γ 3 0 0 b 130 [(0, .ref l0)] []
def bX12_read_101 (l0 : Nat) (l2 : Int32) (σ : zS) : Option ((Int32 × zS) ⊕ zS) := (if (2304 : Int32) ≤ l2 then some (.inr σ) else oGR σ 12 l0 6 (fun a6 => oGR σ 12 l0 6 (fun a7 => oLd σ 21 a7 ((2304 : Int32) + l2) (fun x5 => oSt σ 21 a6 l2 x5 (fun σ9 => oL (l2 + 1) (fun v3 => some (.inl (v3, σ9))))))))
set_option maxRecDepth 100000 in
theorem wX12_read_L101 {Γ : zG} (E : zE Γ cX12_read RX12 3 { frames := 8, cells := 0, slots := 0, locals := 204 }) (l0 : Nat) : ∀ x R, (fun x => bX12_read_101 l0 x.1 x.2) x = some R → Sum.elim (jX12_read_101 Γ l0) (eX12_read_101 Γ l0) R → jX12_read_101 Γ l0 x := by
  intro x R h K
  obtain ⟨l2, σ⟩ := x
  have h : bX12_read_101 l0 l2 σ = some R := h
  show zJ Γ 3 0 0 σ 101 [(0, .ref l0), (2, .int l2)] []
  unfold bX12_read_101 at h
  refine zj_iload_n E dX12_read_101 rfl 1 rfl ?_
  refine zj_sipush (v := 2304) E dX12_read_102 (by decide) ?_
  refine zj_icmp_ge (tgt := 130) E dX12_read_105 (by decide) h (fun h => ?_) (fun h => ?_)
  · have e9 := Option.some.inj h
    subst e9
    refine zj_lv [0] rfl ?_
    exact K
  · refine zj_aload_n E dX12_read_108 rfl 0 rfl ?_
    refine zs_getR E zc11 6 (by decide) zw_6_7 rfl dX12_read_109 h (fun a6 h => ?_)
    refine zj_iload_n E dX12_read_112 rfl 1 rfl ?_
    refine zj_aload_n E dX12_read_113 rfl 0 rfl ?_
    refine zs_getR E zc11 6 (by decide) zw_6_7 rfl dX12_read_114 h (fun a7 h => ?_)
    refine zj_sipush (v := 2304) E dX12_read_117 (by decide) ?_
    refine zj_iload_n E dX12_read_120 rfl 1 rfl ?_
    refine zj_iadd E dX12_read_121 ?_
    refine zs_iald E dX12_read_122 h (fun x5 h => ?_)
    refine zs_iast E dX12_read_123 h (fun σ9 h => ?_)
    refine zs_iinc (lv2 := fun v3 => [(2, .int v3), (0, .ref l0)]) E dX12_read_124 1 rfl (by decide) (by decide) (fun _ => rfl) h (fun v3 h => ?_)
    refine zj_goto (tgt := 101) E dX12_read_127 (by decide) ?_
    have e9 := Option.some.inj h
    subst e9
    refine zj_lv [1, 0] rfl ?_
    exact K
def jX12_read_132 (Γ : zG) (l0 : Nat) : (Int32 × zS) → Prop := fun x => zJ Γ 3 0 0 x.2 132 [(0, .ref l0), (2, .int x.1)] []
def eX12_read_132 (Γ : zG) (l0 : Nat) : zS → Prop := fun b => zJ Γ 3 0 0 b 168 [(0, .ref l0)] []
def bX12_read_132 (l0 : Nat) (l2 : Int32) (σ : zS) : Option ((Int32 × zS) ⊕ zS) := (if (256 : Int32) ≤ l2 then some (.inr σ) else oGI σ 12 l0 29 (fun x6 => (if x6 = 0 then some (.inr σ) else oGR σ 12 l0 6 (fun a8 => oGR σ 12 l0 6 (fun a9 => oLd σ 21 a9 ((4352 : Int32) + l2) (fun x7 => oSt σ 21 a8 l2 x7 (fun σ11 => oL (l2 + 1) (fun v4 => some (.inl (v4, σ11))))))))))
set_option maxRecDepth 100000 in
theorem wX12_read_L132 {Γ : zG} (E : zE Γ cX12_read RX12 3 { frames := 8, cells := 0, slots := 0, locals := 204 }) (l0 : Nat) : ∀ x R, (fun x => bX12_read_132 l0 x.1 x.2) x = some R → Sum.elim (jX12_read_132 Γ l0) (eX12_read_132 Γ l0) R → jX12_read_132 Γ l0 x := by
  intro x R h K
  obtain ⟨l2, σ⟩ := x
  have h : bX12_read_132 l0 l2 σ = some R := h
  show zJ Γ 3 0 0 σ 132 [(0, .ref l0), (2, .int l2)] []
  unfold bX12_read_132 at h
  refine zj_iload_n E dX12_read_132 rfl 1 rfl ?_
  refine zj_sipush (v := 256) E dX12_read_133 (by decide) ?_
  refine zj_icmp_ge (tgt := 168) E dX12_read_136 (by decide) h (fun h => ?_) (fun h => ?_)
  · have e9 := Option.some.inj h
    subst e9
    refine zj_lv [0] rfl ?_
    exact K
  · refine zj_aload_n E dX12_read_139 rfl 0 rfl ?_
    refine zs_getI E zc11 29 (by decide) zw_17_17 rfl dX12_read_140 h (fun x6 h => ?_)
    refine zj_if_eq (tgt := 168) E dX12_read_143 (by decide) h (fun h => ?_) (fun h => ?_)
    · have e9 := Option.some.inj h
      subst e9
      refine zj_lv [0] rfl ?_
      exact K
    · refine zj_aload_n E dX12_read_146 rfl 0 rfl ?_
      refine zs_getR E zc11 6 (by decide) zw_6_7 rfl dX12_read_147 h (fun a8 h => ?_)
      refine zj_iload_n E dX12_read_150 rfl 1 rfl ?_
      refine zj_aload_n E dX12_read_151 rfl 0 rfl ?_
      refine zs_getR E zc11 6 (by decide) zw_6_7 rfl dX12_read_152 h (fun a9 h => ?_)
      refine zj_sipush (v := 4352) E dX12_read_155 (by decide) ?_
      refine zj_iload_n E dX12_read_158 rfl 1 rfl ?_
      refine zj_iadd E dX12_read_159 ?_
      refine zs_iald E dX12_read_160 h (fun x7 h => ?_)
      refine zs_iast E dX12_read_161 h (fun σ11 h => ?_)
      refine zs_iinc (lv2 := fun v4 => [(2, .int v4), (0, .ref l0)]) E dX12_read_162 1 rfl (by decide) (by decide) (fun _ => rfl) h (fun v4 h => ?_)
      refine zj_goto (tgt := 132) E dX12_read_165 (by decide) ?_
      have e9 := Option.some.inj h
      subst e9
      refine zj_lv [1, 0] rfl ?_
      exact K
def fX12_read_40 (σ : zS) (l0 : Nat) (s0 : Int32) (s1 : Int32) (s2 : Nat) : Option (Int32 × zS) := oSt σ 21 s2 s1 s0 (fun σ4 => oB (zloop zF (fun x => bX12_read_43 l0 x.1 x.2) (0, σ4)) (fun b1 => (fun σ6 => oB (zloop zF (fun x => bX12_read_72 l0 x.1 x.2) (0, σ6)) (fun b2 => (fun σ8 => oB (zloop zF (fun x => bX12_read_101 l0 x.1 x.2) (0, σ8)) (fun b3 => (fun σ10 => oB (zloop zF (fun x => bX12_read_132 l0 x.1 x.2) (0, σ10)) (fun b4 => (fun σ12 => oPZ σ12 12 l0 7 0 (fun σ13 => oGR σ13 12 l0 4 (fun a10 => oLd σ13 21 a10 4 (fun x8 => some (x8, σ13))))) b4)) b3)) b2)) b1))
set_option maxRecDepth 100000 in
theorem wX12_read_40 {Γ : zG} (E : zE Γ cX12_read RX12 3 { frames := 8, cells := 0, slots := 0, locals := 204 }) (σ : zS) (l0 : Nat) (s0 : Int32) (s1 : Int32) (s2 : Nat) {R : (Int32 × zS)} (h : fX12_read_40 σ l0 s0 s1 s2 = some R) (K : zRet Γ cX12_read 3 0 0 (some (.int R.1)) R.2) : zJ Γ 3 0 0 σ 40 [(0, .ref l0)] [.int s0, .int s1, .ref s2] := by
  unfold fX12_read_40 at h
  refine zs_iast E dX12_read_40 h (fun σ4 h => ?_)
  refine zj_iconst (v := 0) E dX12_read_41 (by decide) ?_
  refine zj_istore_n (lv2 := [(2, .int 0), (0, .ref l0)]) E dX12_read_42 rfl (by decide) rfl ?_
  obtain ⟨b1, hb1, h⟩ := oB_some h
  refine zj_lv [1, 0] rfl ?_
  refine zj_loop (wX12_read_L43 E l0) zF (0, σ4) b1 hb1 ?_
  obtain ⟨σ6, rfl⟩ : ∃ z, z = b1 := ⟨_, rfl⟩
  try dsimp only at h
  show zJ Γ 3 0 0 σ6 70 [(0, .ref l0)] []
  refine zj_iconst (v := 0) E dX12_read_70 (by decide) ?_
  refine zj_istore_n (lv2 := [(2, .int 0), (0, .ref l0)]) E dX12_read_71 rfl (by decide) rfl ?_
  obtain ⟨b2, hb2, h⟩ := oB_some h
  refine zj_lv [1, 0] rfl ?_
  refine zj_loop (wX12_read_L72 E l0) zF (0, σ6) b2 hb2 ?_
  obtain ⟨σ8, rfl⟩ : ∃ z, z = b2 := ⟨_, rfl⟩
  try dsimp only at h
  show zJ Γ 3 0 0 σ8 99 [(0, .ref l0)] []
  refine zj_iconst (v := 0) E dX12_read_99 (by decide) ?_
  refine zj_istore_n (lv2 := [(2, .int 0), (0, .ref l0)]) E dX12_read_100 rfl (by decide) rfl ?_
  obtain ⟨b3, hb3, h⟩ := oB_some h
  refine zj_lv [1, 0] rfl ?_
  refine zj_loop (wX12_read_L101 E l0) zF (0, σ8) b3 hb3 ?_
  obtain ⟨σ10, rfl⟩ : ∃ z, z = b3 := ⟨_, rfl⟩
  try dsimp only at h
  show zJ Γ 3 0 0 σ10 130 [(0, .ref l0)] []
  refine zj_iconst (v := 0) E dX12_read_130 (by decide) ?_
  refine zj_istore_n (lv2 := [(2, .int 0), (0, .ref l0)]) E dX12_read_131 rfl (by decide) rfl ?_
  obtain ⟨b4, hb4, h⟩ := oB_some h
  refine zj_lv [1, 0] rfl ?_
  refine zj_loop (wX12_read_L132 E l0) zF (0, σ10) b4 hb4 ?_
  obtain ⟨σ12, rfl⟩ : ∃ z, z = b4 := ⟨_, rfl⟩
  try dsimp only at h
  show zJ Γ 3 0 0 σ12 168 [(0, .ref l0)] []
  refine zj_aload_n E dX12_read_168 rfl 0 rfl ?_
  refine zj_iconst (v := 0) E dX12_read_169 (by decide) ?_
  refine zs_putZ E zc11 7 (by decide) zw_17_18 rfl rfl dX12_read_170 h (fun σ13 h => ?_)
  refine zj_aload_n E dX12_read_173 rfl 0 rfl ?_
  refine zs_getR E zc11 4 (by decide) zw_6_5 rfl dX12_read_174 h (fun a10 h => ?_)
  refine zj_iconst (v := 4) E dX12_read_177 (by decide) ?_
  refine zs_iald E dX12_read_178 h (fun x8 h => ?_)
  have e9 := Option.some.inj h
  subst e9
  exact (show zRet Γ cX12_read 3 0 0 (some (.int x8)) σ13 from K) _ _ dX12_read_179
def fX12_read (σ : zS) (p0 : Nat) : Option (Int32 × zS) := oPI σ 12 p0 0 0 (fun σ1 => oA (zk σ1 p0 = 12) (oC (fX12_readAll σ1 p0) (fun x1 σ2 => oPI σ2 12 p0 1 0 (fun σ3 => (if x1 ≤ 0 then oGR σ3 12 p0 4 (fun a1 => oGI σ3 12 p0 29 (fun x2 => (if x2 = 0 then fX12_read_40 σ3 p0 0 11 a1 else fX12_read_40 σ3 p0 1 11 a1))) else some ((-x1), σ3))))))
set_option maxRecDepth 100000 in
theorem wX12_read {Γ : zG} (E : zE Γ cX12_read RX12 3 { frames := 8, cells := 0, slots := 0, locals := 204 }) (σ : zS) (p0 : Nat) {R : (Int32 × zS)} (h : fX12_read σ p0 = some R) (K : zRet Γ cX12_read 3 0 0 (some (.int R.1)) R.2) : zJ Γ 3 0 0 σ 0 [(0, .ref p0)] [] := by
  unfold fX12_read at h
  refine zj_aload_n E dX12_read_0 rfl 0 rfl ?_
  refine zj_iconst (v := 0) E dX12_read_1 (by decide) ?_
  refine zs_putI E zc11 0 (by decide) zw_7_9 rfl rfl dX12_read_2 h (fun σ1 h => ?_)
  refine zj_aload_n E dX12_read_5 rfl 0 rfl ?_
  obtain ⟨hk, h⟩ := oA_some h
  obtain ⟨x1, σ2, hc, h⟩ := oC_some h
  refine zs_callV (As := []) (rest := []) E zc11 zyX12_readAll zw_17_19 (kX12_readAll _ _ _ _ _ hc) rfl rfl hk rfl ⟨by decide, by decide⟩ ⟨by decide, by decide⟩ (Nat.le_of_ble_eq_true rfl) dX12_read_6 rfl (show zJ Γ 3 0 0 σ2 9 [(0, .ref p0)] [.int x1] from ?_)
  refine zj_istore_n (lv2 := [(1, .int x1), (0, .ref p0)]) E dX12_read_9 rfl (by decide) rfl ?_
  refine zj_aload_n E dX12_read_10 rfl 1 rfl ?_
  refine zj_iconst (v := 0) E dX12_read_11 (by decide) ?_
  refine zs_putI E zc11 1 (by decide) zw_6_15 rfl rfl dX12_read_12 h (fun σ3 h => ?_)
  refine zj_iload_n E dX12_read_15 rfl 0 rfl ?_
  refine zj_if_le (tgt := 22) E dX12_read_16 (by decide) h (fun h => ?_) (fun h => ?_)
  · refine zj_aload_n E dX12_read_22 rfl 1 rfl ?_
    refine zs_getR E zc11 4 (by decide) zw_6_5 rfl dX12_read_23 h (fun a1 h => ?_)
    refine zj_bipush (v := 11) E dX12_read_26 (by decide) ?_
    refine zj_aload_n E dX12_read_28 rfl 1 rfl ?_
    refine zs_getI E zc11 29 (by decide) zw_17_17 rfl dX12_read_29 h (fun x2 h => ?_)
    refine zj_if_eq (tgt := 39) E dX12_read_32 (by decide) h (fun h => ?_) (fun h => ?_)
    · refine zj_iconst (v := 0) E dX12_read_39 (by decide) ?_
      refine zj_lv [1] rfl ?_
      exact wX12_read_40 E _ _ _ _ _ h K
    · refine zj_iconst (v := 1) E dX12_read_35 (by decide) ?_
      refine zj_goto (tgt := 40) E dX12_read_36 (by decide) ?_
      refine zj_lv [1] rfl ?_
      exact wX12_read_40 E _ _ _ _ _ h K
  · refine zj_iload_n E dX12_read_19 rfl 0 rfl ?_
    refine zj_ineg E dX12_read_20 ?_
    have e9 := Option.some.inj h
    subst e9
    exact (show zRet Γ cX12_read 3 0 0 (some (.int (-x1))) σ3 from K) _ _ dX12_read_21
set_option maxRecDepth 100000 in
theorem kX12_read (l : Launch) (D : va_G) (cs : zCs) (z0 : Nat) (σ : zS) {p0 : Nat} {r : Int32} {σ' : zS} (h : fX12_read σ p0 = some (r, σ')) : zM l D cs z0 yX12_read cX12_read 3 (some .int) { frames := 8, cells := 0, slots := 0, locals := 204 } [.ref p0] σ (some (.int r)) σ' 0 0 := by
  exact zM_of (by decide) rfl (Or.inl rfl) (Nat.le_of_ble_eq_true rfl) rfl (fun Γ e1 e2 e3 e4 E hN K => wX12_read E σ _ h K)
