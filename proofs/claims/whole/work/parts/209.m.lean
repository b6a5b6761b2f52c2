/-! X12_words -/
def fX12_words (σ : zS) (p0 : Nat) (p1 : Int32) (p2 : Int32) (p3 : Int32) (p4 : Int32) : Option (Int32 × zS) := oPI σ 12 p0 0 0 (fun σ1 => oGI σ1 12 p0 1 (fun x1 => (if (x1 + (16 : Int32)) ≤ (8000 : Int32) then oA (zk σ1 p0 = 12) (oC (fX12_type σ1 p0 p1 4) (fun x2 σ2 => oA (zk σ2 p0 = 12) (oC (fX12_type σ2 p0 p2 4) (fun x3 σ3 => oA (zk σ3 p0 = 12) (oC (fX12_type σ3 p0 p3 4) (fun x4 σ4 => oA (zk σ4 p0 = 12) (oC (fX12_type σ4 p0 p4 4) (fun x5 σ5 => some (x5, σ5))))))))) else some ((-14 : Int32), σ1))))
set_option maxRecDepth 100000 in
theorem wX12_words {Γ : zG} (E : zE Γ cX12_words RX12 5 { frames := 1, cells := 0, slots := 0, locals := 23 }) (σ : zS) (p0 : Nat) (p1 : Int32) (p2 : Int32) (p3 : Int32) (p4 : Int32) {R : (Int32 × zS)} (h : fX12_words σ p0 p1 p2 p3 p4 = some R) (K : zRet Γ cX12_words 5 0 0 (some (.int R.1)) R.2) : zJ Γ 5 0 0 σ 0 [(0, .ref p0), (1, .int p1), (2, .int p2), (3, .int p3), (4, .int p4)] [] := by
  unfold fX12_words at h
  refine zj_aload_n E dX12_words_0 rfl 0 rfl ?_
  refine zj_iconst (v := 0) E dX12_words_1 (by decide) ?_
  refine zs_putI E zc11 0 (by decide) zw_7_9 rfl rfl dX12_words_2 h (fun σ1 h => ?_)
  refine zj_aload_n E dX12_words_5 rfl 0 rfl ?_
  refine zs_getI E zc11 1 (by decide) zw_6_15 rfl dX12_words_6 h (fun x1 h => ?_)
  refine zj_bipush (v := 16) E dX12_words_9 (by decide) ?_
  refine zj_iadd E dX12_words_11 ?_
  refine zj_sipush (v := 8000) E dX12_words_12 (by decide) ?_
  refine zj_icmp_le (tgt := 21) E dX12_words_15 (by decide) h (fun h => ?_) (fun h => ?_)
  · refine zj_aload_n E dX12_words_21 rfl 0 rfl ?_
    refine zj_iload_n E dX12_words_22 rfl 1 rfl ?_
    refine zj_iconst (v := 4) E dX12_words_23 (by decide) ?_
    obtain ⟨hk, h⟩ := oA_some h
    obtain ⟨x2, σ2, hc, h⟩ := oC_some h
    refine zs_callV (As := [.int p1, .int 4]) (rest := []) E zc11 zyX12_type zw_7_23 (kX12_type _ _ _ _ _ hc) rfl rfl hk rfl ⟨by decide, by decide⟩ ⟨by decide, by decide⟩ (Nat.le_of_ble_eq_true rfl) dX12_words_24 rfl (show zJ Γ 5 0 0 σ2 27 [(0, .ref p0), (1, .int p1), (2, .int p2), (3, .int p3), (4, .int p4)] [.int x2] from ?_)
    refine zj_pop E dX12_words_27 rfl ?_
    refine zj_aload_n E dX12_words_28 rfl 0 rfl ?_
    refine zj_iload_n E dX12_words_29 rfl 2 rfl ?_
    refine zj_iconst (v := 4) E dX12_words_30 (by decide) ?_
    obtain ⟨hk, h⟩ := oA_some h
    obtain ⟨x3, σ3, hc, h⟩ := oC_some h
    refine zs_callV (As := [.int p2, .int 4]) (rest := []) E zc11 zyX12_type zw_7_23 (kX12_type _ _ _ _ _ hc) rfl rfl hk rfl ⟨by decide, by decide⟩ ⟨by decide, by decide⟩ (Nat.le_of_ble_eq_true rfl) dX12_words_31 rfl (show zJ Γ 5 0 0 σ3 34 [(0, .ref p0), (1, .int p1), (2, .int p2), (3, .int p3), (4, .int p4)] [.int x3] from ?_)
    refine zj_pop E dX12_words_34 rfl ?_
    refine zj_aload_n E dX12_words_35 rfl 0 rfl ?_
    refine zj_iload_n E dX12_words_36 rfl 3 rfl ?_
    refine zj_iconst (v := 4) E dX12_words_37 (by decide) ?_
    obtain ⟨hk, h⟩ := oA_some h
    obtain ⟨x4, σ4, hc, h⟩ := oC_some h
    refine zs_callV (As := [.int p3, .int 4]) (rest := []) E zc11 zyX12_type zw_7_23 (kX12_type _ _ _ _ _ hc) rfl rfl hk rfl ⟨by decide, by decide⟩ ⟨by decide, by decide⟩ (Nat.le_of_ble_eq_true rfl) dX12_words_38 rfl (show zJ Γ 5 0 0 σ4 41 [(0, .ref p0), (1, .int p1), (2, .int p2), (3, .int p3), (4, .int p4)] [.int x4] from ?_)
    refine zj_pop E dX12_words_41 rfl ?_
    refine zj_aload_n E dX12_words_42 rfl 0 rfl ?_
    refine zj_iload E dX12_words_43 4 rfl ?_
    refine zj_iconst (v := 4) E dX12_words_45 (by decide) ?_
    obtain ⟨hk, h⟩ := oA_some h
    obtain ⟨x5, σ5, hc, h⟩ := oC_some h
    refine zs_callV (As := [.int p4, .int 4]) (rest := []) E zc11 zyX12_type zw_7_23 (kX12_type _ _ _ _ _ hc) rfl rfl hk rfl ⟨by decide, by decide⟩ ⟨by decide, by decide⟩ (Nat.le_of_ble_eq_true rfl) dX12_words_46 rfl (show zJ Γ 5 0 0 σ5 49 [(0, .ref p0), (1, .int p1), (2, .int p2), (3, .int p3), (4, .int p4)] [.int x5] from ?_)
    have e9 := Option.some.inj h
    subst e9
    exact (show zRet Γ cX12_words 5 0 0 (some (.int x5)) σ5 from K) _ _ dX12_words_49
  · refine zj_bipush (v := (-14 : Int32)) E dX12_words_18 (by decide) ?_
    have e9 := Option.some.inj h
    subst e9
    exact (show zRet Γ cX12_words 5 0 0 (some (.int (-14 : Int32))) σ1 from K) _ _ dX12_words_20
set_option maxRecDepth 100000 in
theorem kX12_words (l : Launch) (D : va_G) (cs : zCs) (z0 : Nat) (σ : zS) {p0 : Nat} {p1 : Int32} {p2 : Int32} {p3 : Int32} {p4 : Int32} {r : Int32} {σ' : zS} (h : fX12_words σ p0 p1 p2 p3 p4 = some (r, σ')) : zM l D cs z0 yX12_words cX12_words 5 (some .int) { frames := 1, cells := 0, slots := 0, locals := 23 } [.ref p0, .int p1, .int p2, .int p3, .int p4] σ (some (.int r)) σ' 0 0 := by
  exact zM_of (by decide) rfl (Or.inl rfl) (Nat.le_of_ble_eq_true rfl) rfl (fun Γ e1 e2 e3 e4 E hN K => wX12_words E σ _ _ _ _ _ h K)
/-! X12_byteAt -/
def fX12_byteAt (σ : zS) (p0 : Nat) (p1 : Int32) : Option Int32 := oGR σ 12 p0 2 (fun a1 => oLd σ 20 a1 p1 (fun x1 => some (x1 &&& (255 : Int32))))
set_option maxRecDepth 100000 in
theorem wX12_byteAt {Γ : zG} (E : zE Γ cX12_byteAt RX12 2 { frames := 0, cells := 0, slots := 0, locals := 0 }) (σ : zS) (p0 : Nat) (p1 : Int32) {R : Int32} (h : fX12_byteAt σ p0 p1 = some R) (K : zRet Γ cX12_byteAt 2 0 0 (some (.int R)) σ) : zJ Γ 2 0 0 σ 0 [(0, .ref p0), (1, .int p1)] [] := by
  unfold fX12_byteAt at h
  refine zj_aload_n E dX12_byteAt_0 rfl 0 rfl ?_
  refine zs_getR E zc11 2 (by decide) zw_6_3 rfl dX12_byteAt_1 h (fun a1 h => ?_)
  refine zj_iload_n E dX12_byteAt_4 rfl 1 rfl ?_
  refine zs_bald E dX12_byteAt_5 h (fun x1 h => ?_)
  refine zj_sipush (v := 255) E dX12_byteAt_6 (by decide) ?_
  refine zj_iand E dX12_byteAt_9 ?_
  have e9 := Option.some.inj h
  subst e9
  exact (show zRet Γ cX12_byteAt 2 0 0 (some (.int (x1 &&& (255 : Int32)))) σ from K) _ _ dX12_byteAt_10
set_option maxRecDepth 100000 in
theorem kX12_byteAt (l : Launch) (D : va_G) (cs : zCs) (z0 : Nat) (σ : zS) {p0 : Nat} {p1 : Int32} {r : Int32} (h : fX12_byteAt σ p0 p1 = some r) : zM l D cs z0 yX12_byteAt cX12_byteAt 2 (some .int) { frames := 0, cells := 0, slots := 0, locals := 0 } [.ref p0, .int p1] σ (some (.int r)) σ 0 0 := by
  exact zM_of (by decide) rfl (Or.inl rfl) (Nat.le_of_ble_eq_true rfl) rfl (fun Γ e1 e2 e3 e4 E hN K => wX12_byteAt E σ _ _ h K)
/-! X12_number -/
def fX12_number (σ : zS) (p0 : Nat) (p1 : Int32) : Option Int32 := oA (zk σ p0 = 12) (oB (fX12_byteAt σ p0 p1) (fun x1 => oA (zk σ p0 = 12) (oB (fX12_byteAt σ p0 (p1 + (1 : Int32))) (fun x2 => oA (zk σ p0 = 12) (oB (fX12_byteAt σ p0 (p1 + (2 : Int32))) (fun x3 => oA (zk σ p0 = 12) (oB (fX12_byteAt σ p0 (p1 + (3 : Int32))) (fun x4 => some ((((x1 <<< ((24 : Int32) &&& 31)) ||| (x2 <<< ((16 : Int32) &&& 31))) ||| (x3 <<< ((8 : Int32) &&& 31))) ||| x4)))))))))
set_option maxRecDepth 100000 in
theorem wX12_number {Γ : zG} (E : zE Γ cX12_number RX12 2 { frames := 1, cells := 0, slots := 0, locals := 21 }) (σ : zS) (p0 : Nat) (p1 : Int32) {R : Int32} (h : fX12_number σ p0 p1 = some R) (K : zRet Γ cX12_number 2 0 0 (some (.int R)) σ) : zJ Γ 2 0 0 σ 0 [(0, .ref p0), (1, .int p1)] [] := by
  unfold fX12_number at h
  refine zj_aload_n E dX12_number_0 rfl 0 rfl ?_
  refine zj_iload_n E dX12_number_1 rfl 1 rfl ?_
  obtain ⟨hk, h⟩ := oA_some h
  obtain ⟨x1, hc, h⟩ := oB_some h
  refine zs_callV (As := [.int p1]) (rest := []) E zc11 zyX12_byteAt zw_18_7 (kX12_byteAt _ _ _ _ _ hc) rfl rfl hk rfl ⟨by decide, by decide⟩ ⟨by decide, by decide⟩ (Nat.le_of_ble_eq_true rfl) dX12_number_2 rfl (show zJ Γ 2 0 0 σ 5 [(0, .ref p0), (1, .int p1)] [.int x1] from ?_)
  refine zj_bipush (v := 24) E dX12_number_5 (by decide) ?_
  refine zj_ishl E dX12_number_7 ?_
  refine zj_aload_n E dX12_number_8 rfl 0 rfl ?_
  refine zj_iload_n E dX12_number_9 rfl 1 rfl ?_
  refine zj_iconst (v := 1) E dX12_number_10 (by decide) ?_
  refine zj_iadd E dX12_number_11 ?_
  obtain ⟨hk, h⟩ := oA_some h
  obtain ⟨x2, hc, h⟩ := oB_some h
  refine zs_callV (As := [.int (p1 + (1 : Int32))]) (rest := [.int (x1 <<< ((24 : Int32) &&& 31))]) E zc11 zyX12_byteAt zw_18_7 (kX12_byteAt _ _ _ _ _ hc) rfl rfl hk rfl ⟨by decide, by decide⟩ ⟨by decide, by decide⟩ (Nat.le_of_ble_eq_true rfl) dX12_number_12 rfl (show zJ Γ 2 0 0 σ 15 [(0, .ref p0), (1, .int p1)] [.int x2, .int (x1 <<< ((24 : Int32) &&& 31))] from ?_)
  refine zj_bipush (v := 16) E dX12_number_15 (by decide) ?_
  refine zj_ishl E dX12_number_17 ?_
  refine zj_ior E dX12_number_18 ?_
  refine zj_aload_n E dX12_number_19 rfl 0 rfl ?_
  refine zj_iload_n E dX12_number_20 rfl 1 rfl ?_
  refine zj_iconst (v := 2) E dX12_number_21 (by decide) ?_
  refine zj_iadd E dX12_number_22 ?_
  obtain ⟨hk, h⟩ := oA_some h
  obtain ⟨x3, hc, h⟩ := oB_some h
  refine zs_callV (As := [.int (p1 + (2 : Int32))]) (rest := [.int ((x1 <<< ((24 : Int32) &&& 31)) ||| (x2 <<< ((16 : Int32) &&& 31)))]) E zc11 zyX12_byteAt zw_18_7 (kX12_byteAt _ _ _ _ _ hc) rfl rfl hk rfl ⟨by decide, by decide⟩ ⟨by decide, by decide⟩ (Nat.le_of_ble_eq_true rfl) dX12_number_23 rfl (show zJ Γ 2 0 0 σ 26 [(0, .ref p0), (1, .int p1)] [.int x3, .int ((x1 <<< ((24 : Int32) &&& 31)) ||| (x2 <<< ((16 : Int32) &&& 31)))] from ?_)
  refine zj_bipush (v := 8) E dX12_number_26 (by decide) ?_
  refine zj_ishl E dX12_number_28 ?_
  refine zj_ior E dX12_number_29 ?_
  refine zj_aload_n E dX12_number_30 rfl 0 rfl ?_
  refine zj_iload_n E dX12_number_31 rfl 1 rfl ?_
  refine zj_iconst (v := 3) E dX12_number_32 (by decide) ?_
  refine zj_iadd E dX12_number_33 ?_
  obtain ⟨hk, h⟩ := oA_some h
  obtain ⟨x4, hc, h⟩ := oB_some h
  refine zs_callV (As := [.int (p1 + (3 : Int32))]) (rest := [.int (((x1 <<< ((24 : Int32) &&& 31)) ||| (x2 <<< ((16 : Int32) &&& 31))) ||| (x3 <<< ((8 : Int32) &&& 31)))]) E zc11 zyX12_byteAt zw_18_7 (kX12_byteAt _ _ _ _ _ hc) rfl rfl hk rfl ⟨by decide, by decide⟩ ⟨by decide, by decide⟩ (Nat.le_of_ble_eq_true rfl) dX12_number_34 rfl (show zJ Γ 2 0 0 σ 37 [(0, .ref p0), (1, .int p1)] [.int x4, .int (((x1 <<< ((24 : Int32) &&& 31)) ||| (x2 <<< ((16 : Int32) &&& 31))) ||| (x3 <<< ((8 : Int32) &&& 31)))] from ?_)
  refine zj_ior E dX12_number_37 ?_
  have e9 := Option.some.inj h
  subst e9
  exact (show zRet Γ cX12_number 2 0 0 (some (.int ((((x1 <<< ((24 : Int32) &&& 31)) ||| (x2 <<< ((16 : Int32) &&& 31))) ||| (x3 <<< ((8 : Int32) &&& 31))) ||| x4))) σ from K) _ _ dX12_number_38
set_option maxRecDepth 100000 in
theorem kX12_number (l : Launch) (D : va_G) (cs : zCs) (z0 : Nat) (σ : zS) {p0 : Nat} {p1 : Int32} {r : Int32} (h : fX12_number σ p0 p1 = some r) : zM l D cs z0 yX12_number cX12_number 2 (some .int) { frames := 1, cells := 0, slots := 0, locals := 21 } [.ref p0, .int p1] σ (some (.int r)) σ 0 0 := by
  exact zM_of (by decide) rfl (Or.inl rfl) (Nat.le_of_ble_eq_true rfl) rfl (fun Γ e1 e2 e3 e4 E hN K => wX12_number E σ _ _ h K)
/-! X12_nextSum -/
def jX12_nextSum_10 (Γ : zG) (σ : zS) (l0 : Int32) : (Int32 × Int32) → Prop := fun x => zJ Γ 4 0 0 σ 10 [(0, .int l0), (2, .int x.1), (3, .int x.2)] []
def eX12_nextSum_10 (Γ : zG) (σ : zS) (l0 : Int32) : Int32 → Prop := fun b => zJ Γ 4 0 0 σ 42 [(0, .int l0), (2, .int b)] []
def fX12_nextSum_35 (σ : zS) (l0 : Int32) (l3 : Int32) (s0 : Int32) : Option ((Int32 × Int32) ⊕ Int32) := oL (l3 + 1) (fun v2 => some (.inl (s0, v2)))
set_option maxRecDepth 100000 in
theorem wX12_nextSum_35 {Γ : zG} (E : zE Γ cX12_nextSum RX12 4 { frames := 0, cells := 0, slots := 0, locals := 0 }) (σ : zS) (l0 : Int32) (l3 : Int32) (s0 : Int32) {R : ((Int32 × Int32) ⊕ Int32)} (h : fX12_nextSum_35 σ l0 l3 s0 = some R) (K : Sum.elim (jX12_nextSum_10 Γ σ l0) (eX12_nextSum_10 Γ σ l0) R) : zJ Γ 4 0 0 σ 35 [(0, .int l0), (3, .int l3)] [.int s0] := by
  unfold fX12_nextSum_35 at h
  refine zj_istore_n (lv2 := [(2, .int s0), (0, .int l0), (3, .int l3)]) E dX12_nextSum_35 rfl (by decide) rfl ?_
  refine zs_iinc (lv2 := fun v2 => [(3, .int v2), (2, .int s0), (0, .int l0)]) E dX12_nextSum_36 2 rfl (by decide) (by decide) (fun _ => rfl) h (fun v2 h => ?_)
  refine zj_goto (tgt := 10) E dX12_nextSum_39 (by decide) ?_
  have e9 := Option.some.inj h
  subst e9
  refine zj_lv [2, 1, 0] rfl ?_
  exact K
def bX12_nextSum_10 (σ : zS) (l0 : Int32) (l2 : Int32) (l3 : Int32) : Option ((Int32 × Int32) ⊕ Int32) := (if (8 : Int32) ≤ l3 then some (.inr l2) else (if (l2 &&& (1 : Int32)) = (1 : Int32) then fX12_nextSum_35 σ l0 l3 (((l2.toUInt32 >>> ((1 : Int32).toUInt32 &&& Int32.toUInt32 31)).toInt32) ^^^ (-306674912 : Int32)) else fX12_nextSum_35 σ l0 l3 ((l2.toUInt32 >>> ((1 : Int32).toUInt32 &&& Int32.toUInt32 31)).toInt32)))
set_option maxRecDepth 100000 in
theorem wX12_nextSum_L10 {Γ : zG} (E : zE Γ cX12_nextSum RX12 4 { frames := 0, cells := 0, slots := 0, locals := 0 }) (σ : zS) (l0 : Int32) : ∀ x R, (fun x => bX12_nextSum_10 σ l0 x.1 x.2) x = some R → Sum.elim (jX12_nextSum_10 Γ σ l0) (eX12_nextSum_10 Γ σ l0) R → jX12_nextSum_10 Γ σ l0 x := by
  intro x R h K
  obtain ⟨l2, l3⟩ := x
  have h : bX12_nextSum_10 σ l0 l2 l3 = some R := h
  show zJ Γ 4 0 0 σ 10 [(0, .int l0), (2, .int l2), (3, .int l3)] []
  unfold bX12_nextSum_10 at h
  refine zj_iload_n E dX12_nextSum_10 rfl 2 rfl ?_
  refine zj_bipush (v := 8) E dX12_nextSum_11 (by decide) ?_
  refine zj_icmp_ge (tgt := 42) E dX12_nextSum_13 (by decide) h (fun h => ?_) (fun h => ?_)
  · have e9 := Option.some.inj h
    subst e9
    refine zj_lv [0, 1] rfl ?_
    exact K
  · refine zj_iload_n E dX12_nextSum_16 rfl 1 rfl ?_
    refine zj_iconst (v := 1) E dX12_nextSum_17 (by decide) ?_
    refine zj_iand E dX12_nextSum_18 ?_
    refine zj_iconst (v := 1) E dX12_nextSum_19 (by decide) ?_
    refine zj_icmp_ne (tgt := 32) E dX12_nextSum_20 (by decide) h (fun h => ?_) (fun h => ?_)
    · refine zj_iload_n E dX12_nextSum_32 rfl 1 rfl ?_
      refine zj_iconst (v := 1) E dX12_nextSum_33 (by decide) ?_
      refine zj_iushr E dX12_nextSum_34 ?_
      refine zj_lv [0, 2] rfl ?_
      exact wX12_nextSum_35 E _ _ _ _ h K
    · refine zj_iload_n E dX12_nextSum_23 rfl 1 rfl ?_
      refine zj_iconst (v := 1) E dX12_nextSum_24 (by decide) ?_
      refine zj_iushr E dX12_nextSum_25 ?_
      refine zj_ldc (v := (-306674912 : Int32)) E zw_18_21 dX12_nextSum_26 ?_
      refine zj_ixor E dX12_nextSum_28 ?_
      refine zj_goto (tgt := 35) E dX12_nextSum_29 (by decide) ?_
      refine zj_lv [0, 2] rfl ?_
      exact wX12_nextSum_35 E _ _ _ _ h K
def fX12_nextSum (σ : zS) (p0 : Int32) (p1 : Int32) : Option Int32 := oL ((p0 ^^^ p1) &&& (255 : Int32)) (fun v1 => oB (zloop zF (fun x => bX12_nextSum_10 σ p0 x.1 x.2) (v1, 0)) (fun b1 => (fun v3 => some (((p0.toUInt32 >>> ((8 : Int32).toUInt32 &&& Int32.toUInt32 31)).toInt32) ^^^ v3)) b1))
set_option maxRecDepth 100000 in
theorem wX12_nextSum {Γ : zG} (E : zE Γ cX12_nextSum RX12 4 { frames := 0, cells := 0, slots := 0, locals := 0 }) (σ : zS) (p0 : Int32) (p1 : Int32) {R : Int32} (h : fX12_nextSum σ p0 p1 = some R) (K : zRet Γ cX12_nextSum 4 0 0 (some (.int R)) σ) : zJ Γ 4 0 0 σ 0 [(0, .int p0), (1, .int p1)] [] := by
  unfold fX12_nextSum at h
  refine zj_iload_n E dX12_nextSum_0 rfl 0 rfl ?_
  refine zj_iload_n E dX12_nextSum_1 rfl 1 rfl ?_
  refine zj_ixor E dX12_nextSum_2 ?_
  refine zj_sipush (v := 255) E dX12_nextSum_3 (by decide) ?_
  refine zj_iand E dX12_nextSum_6 ?_
  refine zs_istore_n (lv2 := fun v1 => [(2, .int v1), (0, .int p0), (1, .int p1)]) E dX12_nextSum_7 rfl (by decide) (fun _ => rfl) h (fun v1 h => ?_)
  refine zj_iconst (v := 0) E dX12_nextSum_8 (by decide) ?_
  refine zj_istore_n (lv2 := [(3, .int 0), (2, .int v1), (0, .int p0), (1, .int p1)]) E dX12_nextSum_9 rfl (by decide) rfl ?_
  obtain ⟨b1, hb1, h⟩ := oB_some h
  refine zj_lv [2, 1, 0] rfl ?_
  refine zj_loop (wX12_nextSum_L10 E σ p0) zF (v1, 0) b1 hb1 ?_
  obtain ⟨v3, rfl⟩ : ∃ z, z = b1 := ⟨_, rfl⟩
  try dsimp only at h
  show zJ Γ 4 0 0 σ 42 [(0, .int p0), (2, .int v3)] []
  refine zj_iload_n E dX12_nextSum_42 rfl 0 rfl ?_
  refine zj_bipush (v := 8) E dX12_nextSum_43 (by decide) ?_
  refine zj_iushr E dX12_nextSum_45 ?_
  refine zj_iload_n E dX12_nextSum_46 rfl 1 rfl ?_
  refine zj_ixor E dX12_nextSum_47 ?_
  have e9 := Option.some.inj h
  subst e9
  exact (show zRet Γ cX12_nextSum 4 0 0 (some (.int (((p0.toUInt32 >>> ((8 : Int32).toUInt32 &&& Int32.toUInt32 31)).toInt32) ^^^ v3))) σ from K) _ _ dX12_nextSum_48
set_option maxRecDepth 100000 in
theorem kX12_nextSum (l : Launch) (D : va_G) (cs : zCs) (z0 : Nat) (σ : zS) {p0 : Int32} {p1 : Int32} {r : Int32} (h : fX12_nextSum σ p0 p1 = some r) : zM l D cs z0 yX12_nextSum cX12_nextSum 4 (some .int) { frames := 0, cells := 0, slots := 0, locals := 0 } [.int p0, .int p1] σ (some (.int r)) σ 0 0 := by
  exact zM_of (by decide) rfl (Or.inl rfl) (Nat.le_of_ble_eq_true rfl) rfl (fun Γ e1 e2 e3 e4 E hN K => wX12_nextSum E σ _ _ h K)
/-! X12_bits -/
def jX12_bits_4 (Γ : zG) (l0 : Nat) (l1 : Int32) : (Int32 × Int32 × zS) → Prop := fun x => zJ Γ 4 0 0 x.2.2 4 [(0, .ref l0), (1, .int l1), (2, .int x.1), (3, .int x.2.1)] []
def eX12_bits_4 (Γ : zG) (l0 : Nat) (l1 : Int32) : ((Int32 × zS) ⊕ (Int32 × zS)) → Prop := Sum.elim (fun b => zJ Γ 4 0 0 b.2 111 [(2, .int b.1)] []) (fun r => zRet Γ cX12_bits 4 0 0 (some (.int r.1)) r.2)
def fX12_bits_102 (σ : zS) (l0 : Nat) (l1 : Int32) (l2 : Int32) (l3 : Int32) (s0 : Int32) (s1 : Nat) : Option ((Int32 × Int32 × zS) ⊕ ((Int32 × zS) ⊕ (Int32 × zS))) := oPI σ 12 s1 17 s0 (fun σ3 => oL (l3 + 1) (fun v2 => some (.inl (l2, v2, σ3))))
set_option maxRecDepth 100000 in
theorem wX12_bits_102 {Γ : zG} (E : zE Γ cX12_bits RX12 4 { frames := 0, cells := 0, slots := 0, locals := 0 }) (σ : zS) (l0 : Nat) (l1 : Int32) (l2 : Int32) (l3 : Int32) (s0 : Int32) (s1 : Nat) {R : ((Int32 × Int32 × zS) ⊕ ((Int32 × zS) ⊕ (Int32 × zS)))} (h : fX12_bits_102 σ l0 l1 l2 l3 s0 s1 = some R) (K : Sum.elim (jX12_bits_4 Γ l0 l1) (eX12_bits_4 Γ l0 l1) R) : zJ Γ 4 0 0 σ 102 [(0, .ref l0), (1, .int l1), (2, .int l2), (3, .int l3)] [.int s0, .ref s1] := by
  unfold fX12_bits_102 at h
  refine zs_putI E zc11 17 (by decide) zw_19_11 rfl rfl dX12_bits_102 h (fun σ3 h => ?_)
  refine zs_iinc (lv2 := fun v2 => [(3, .int v2), (0, .ref l0), (1, .int l1), (2, .int l2)]) E dX12_bits_105 3 rfl (by decide) (by decide) (fun _ => rfl) h (fun v2 h => ?_)
  refine zj_goto (tgt := 4) E dX12_bits_108 (by decide) ?_
  have e9 := Option.some.inj h
  subst e9
  refine zj_lv [1, 2, 3, 0] rfl ?_
  exact K
def fX12_bits_81 (σ : zS) (l0 : Nat) (l1 : Int32) (l2 : Int32) (l3 : Int32) (s0 : Int32) (s1 : Nat) : Option ((Int32 × Int32 × zS) ⊕ ((Int32 × zS) ⊕ (Int32 × zS))) := oPI σ 12 s1 16 s0 (fun σ2 => oGI σ2 12 l0 17 (fun x9 => (if x9 = (8 : Int32) then fX12_bits_102 σ2 l0 l1 l2 l3 0 l0 else oGI σ2 12 l0 17 (fun x10 => fX12_bits_102 σ2 l0 l1 l2 l3 x10 l0))))
set_option maxRecDepth 100000 in
theorem wX12_bits_81 {Γ : zG} (E : zE Γ cX12_bits RX12 4 { frames := 0, cells := 0, slots := 0, locals := 0 }) (σ : zS) (l0 : Nat) (l1 : Int32) (l2 : Int32) (l3 : Int32) (s0 : Int32) (s1 : Nat) {R : ((Int32 × Int32 × zS) ⊕ ((Int32 × zS) ⊕ (Int32 × zS)))} (h : fX12_bits_81 σ l0 l1 l2 l3 s0 s1 = some R) (K : Sum.elim (jX12_bits_4 Γ l0 l1) (eX12_bits_4 Γ l0 l1) R) : zJ Γ 4 0 0 σ 81 [(0, .ref l0), (1, .int l1), (2, .int l2), (3, .int l3)] [.int s0, .ref s1] := by
  unfold fX12_bits_81 at h
  refine zs_putI E zc11 16 (by decide) zw_19_10 rfl rfl dX12_bits_81 h (fun σ2 h => ?_)
  refine zj_aload_n E dX12_bits_84 rfl 0 rfl ?_
  refine zj_aload_n E dX12_bits_85 rfl 0 rfl ?_
  refine zs_getI E zc11 17 (by decide) zw_19_11 rfl dX12_bits_86 h (fun x9 h => ?_)
  refine zj_bipush (v := 8) E dX12_bits_89 (by decide) ?_
  refine zj_icmp_ne (tgt := 98) E dX12_bits_91 (by decide) h (fun h => ?_) (fun h => ?_)
  · refine zj_aload_n E dX12_bits_98 rfl 0 rfl ?_
    refine zs_getI E zc11 17 (by decide) zw_19_11 rfl dX12_bits_99 h (fun x10 h => ?_)
    refine zj_lv [0, 1, 2, 3] rfl ?_
    exact wX12_bits_102 E _ _ _ _ _ _ _ h K
  · refine zj_iconst (v := 0) E dX12_bits_94 (by decide) ?_
    refine zj_goto (tgt := 102) E dX12_bits_95 (by decide) ?_
    refine zj_lv [0, 1, 2, 3] rfl ?_
    exact wX12_bits_102 E _ _ _ _ _ _ _ h K
def bX12_bits_4 (l0 : Nat) (l1 : Int32) (l2 : Int32) (l3 : Int32) (σ : zS) : Option ((Int32 × Int32 × zS) ⊕ ((Int32 × zS) ⊕ (Int32 × zS))) := (if l1 ≤ l3 then some (.inr (.inl (l2, σ))) else oGI σ 12 l0 16 (fun x1 => oGI σ 12 l0 14 (fun x2 => (if x1 < x2 then oGR σ 12 l0 15 (fun a1 => oGI σ 12 l0 16 (fun x3 => oLd σ 20 a1 x3 (fun x4 => oGI σ 12 l0 17 (fun x5 => oL (l2 ||| (((x4 >>> (x5 &&& 31)) &&& (1 : Int32)) <<< (l3 &&& 31))) (fun v1 => oGI σ 12 l0 17 (fun x6 => oPI σ 12 l0 17 (x6 + (1 : Int32)) (fun σ1 => oGI σ1 12 l0 17 (fun x7 => (if x7 = (8 : Int32) then oGI σ1 12 l0 16 (fun x11 => fX12_bits_81 σ1 l0 l1 v1 l3 (x11 + (1 : Int32)) l0) else oGI σ1 12 l0 16 (fun x8 => fX12_bits_81 σ1 l0 l1 v1 l3 x8 l0)))))))))) else oPZ σ 12 l0 18 1 (fun σ4 => some (.inr (.inr (0, σ4))))))))
set_option maxRecDepth 100000 in
theorem wX12_bits_L4 {Γ : zG} (E : zE Γ cX12_bits RX12 4 { frames := 0, cells := 0, slots := 0, locals := 0 }) (l0 : Nat) (l1 : Int32) : ∀ x R, (fun x => bX12_bits_4 l0 l1 x.1 x.2.1 x.2.2) x = some R → Sum.elim (jX12_bits_4 Γ l0 l1) (eX12_bits_4 Γ l0 l1) R → jX12_bits_4 Γ l0 l1 x := by
  intro x R h K
  obtain ⟨l2, l3, σ⟩ := x
  have h : bX12_bits_4 l0 l1 l2 l3 σ = some R := h
  show zJ Γ 4 0 0 σ 4 [(0, .ref l0), (1, .int l1), (2, .int l2), (3, .int l3)] []
  unfold bX12_bits_4 at h
  refine zj_iload_n E dX12_bits_4 rfl 3 rfl ?_
  refine zj_iload_n E dX12_bits_5 rfl 1 rfl ?_
  refine zj_icmp_ge (tgt := 111) E dX12_bits_6 (by decide) h (fun h => ?_) (fun h => ?_)
  · have e9 := Option.some.inj h
    subst e9
    refine zj_lv [2] rfl ?_
    exact K
  · refine zj_aload_n E dX12_bits_9 rfl 0 rfl ?_
    refine zs_getI E zc11 16 (by decide) zw_19_10 rfl dX12_bits_10 h (fun x1 h => ?_)
    refine zj_aload_n E dX12_bits_13 rfl 0 rfl ?_
    refine zs_getI E zc11 14 (by decide) zw_19_12 rfl dX12_bits_14 h (fun x2 h => ?_)
    refine zj_icmp_lt (tgt := 27) E dX12_bits_17 (by decide) h (fun h => ?_) (fun h => ?_)
    · refine zj_iload_n E dX12_bits_27 rfl 2 rfl ?_
      refine zj_aload_n E dX12_bits_28 rfl 0 rfl ?_
      refine zs_getR E zc11 15 (by decide) zw_6_11 rfl dX12_bits_29 h (fun a1 h => ?_)
      refine zj_aload_n E dX12_bits_32 rfl 0 rfl ?_
      refine zs_getI E zc11 16 (by decide) zw_19_10 rfl dX12_bits_33 h (fun x3 h => ?_)
      refine zs_bald E dX12_bits_36 h (fun x4 h => ?_)
      refine zj_aload_n E dX12_bits_37 rfl 0 rfl ?_
      refine zs_getI E zc11 17 (by decide) zw_19_11 rfl dX12_bits_38 h (fun x5 h => ?_)
      refine zj_ishr E dX12_bits_41 ?_
      refine zj_iconst (v := 1) E dX12_bits_42 (by decide) ?_
      refine zj_iand E dX12_bits_43 ?_
      refine zj_iload_n E dX12_bits_44 rfl 3 rfl ?_
      refine zj_ishl E dX12_bits_45 ?_
      refine zj_ior E dX12_bits_46 ?_
      refine zs_istore_n (lv2 := fun v1 => [(2, .int v1), (0, .ref l0), (1, .int l1), (3, .int l3)]) E dX12_bits_47 rfl (by decide) (fun _ => rfl) h (fun v1 h => ?_)
      refine zj_aload_n E dX12_bits_48 rfl 1 rfl ?_
      refine zj_dup E dX12_bits_49 rfl ?_
      refine zs_getI E zc11 17 (by decide) zw_19_11 rfl dX12_bits_50 h (fun x6 h => ?_)
      refine zj_iconst (v := 1) E dX12_bits_53 (by decide) ?_
      refine zj_iadd E dX12_bits_54 ?_
      refine zs_putI E zc11 17 (by decide) zw_19_11 rfl rfl dX12_bits_55 h (fun σ1 h => ?_)
      refine zj_aload_n E dX12_bits_58 rfl 1 rfl ?_
      refine zj_aload_n E dX12_bits_59 rfl 1 rfl ?_
      refine zs_getI E zc11 17 (by decide) zw_19_11 rfl dX12_bits_60 h (fun x7 h => ?_)
      refine zj_bipush (v := 8) E dX12_bits_63 (by decide) ?_
      refine zj_icmp_ne (tgt := 77) E dX12_bits_65 (by decide) h (fun h => ?_) (fun h => ?_)
      · refine zj_aload_n E dX12_bits_77 rfl 1 rfl ?_
        refine zs_getI E zc11 16 (by decide) zw_19_10 rfl dX12_bits_78 h (fun x8 h => ?_)
        refine zj_lv [1, 2, 0, 3] rfl ?_
        exact wX12_bits_81 E _ _ _ _ _ _ _ h K
      · refine zj_aload_n E dX12_bits_68 rfl 1 rfl ?_
        refine zs_getI E zc11 16 (by decide) zw_19_10 rfl dX12_bits_69 h (fun x11 h => ?_)
        refine zj_iconst (v := 1) E dX12_bits_72 (by decide) ?_
        refine zj_iadd E dX12_bits_73 ?_
        refine zj_goto (tgt := 81) E dX12_bits_74 (by decide) ?_
        refine zj_lv [1, 2, 0, 3] rfl ?_
        exact wX12_bits_81 E _ _ _ _ _ _ _ h K
    · refine zj_aload_n E dX12_bits_20 rfl 0 rfl ?_
      refine zj_iconst (v := 1) E dX12_bits_21 (by decide) ?_
      refine zs_putZ E zc11 18 (by decide) zw_19_13 rfl rfl dX12_bits_22 h (fun σ4 h => ?_)
      refine zj_iconst (v := 0) E dX12_bits_25 (by decide) ?_
      have e9 := Option.some.inj h
      subst e9
      exact (show zRet Γ cX12_bits 4 0 0 (some (.int 0)) σ4 from K) _ _ dX12_bits_26
def fX12_bits (σ : zS) (p0 : Nat) (p1 : Int32) : Option (Int32 × zS) := oB (zloop zF (fun x => bX12_bits_4 p0 p1 x.1 x.2.1 x.2.2) (0, 0, σ)) (fun b1 => oS b1 (fun c1 => (fun v3 σ5 => some (v3, σ5)) c1.1 c1.2) (fun r1 => some r1))
set_option maxRecDepth 100000 in
theorem wX12_bits {Γ : zG} (E : zE Γ cX12_bits RX12 4 { frames := 0, cells := 0, slots := 0, locals := 0 }) (σ : zS) (p0 : Nat) (p1 : Int32) {R : (Int32 × zS)} (h : fX12_bits σ p0 p1 = some R) (K : zRet Γ cX12_bits 4 0 0 (some (.int R.1)) R.2) : zJ Γ 4 0 0 σ 0 [(0, .ref p0), (1, .int p1)] [] := by
  unfold fX12_bits at h
  refine zj_iconst (v := 0) E dX12_bits_0 (by decide) ?_
  refine zj_istore_n (lv2 := [(2, .int 0), (0, .ref p0), (1, .int p1)]) E dX12_bits_1 rfl (by decide) rfl ?_
  refine zj_iconst (v := 0) E dX12_bits_2 (by decide) ?_
  refine zj_istore_n (lv2 := [(3, .int 0), (2, .int 0), (0, .ref p0), (1, .int p1)]) E dX12_bits_3 rfl (by decide) rfl ?_
  obtain ⟨b1, hb1, h⟩ := oB_some h
  refine zj_lv [2, 3, 1, 0] rfl ?_
  refine zj_loop (wX12_bits_L4 E p0 p1) zF (0, 0, σ) b1 hb1 ?_
  cases b1 with
  | inr r1 =>
    have e9 := Option.some.inj h
    subst e9
    exact K
  | inl c1 =>
    obtain ⟨v3, σ5⟩ := c1
    dsimp only [oS] at h
    show zJ Γ 4 0 0 σ5 111 [(2, .int v3)] []
    refine zj_iload_n E dX12_bits_111 rfl 0 rfl ?_
    have e9 := Option.some.inj h
    subst e9
    exact (show zRet Γ cX12_bits 4 0 0 (some (.int v3)) σ5 from K) _ _ dX12_bits_112
set_option maxRecDepth 100000 in
theorem kX12_bits (l : Launch) (D : va_G) (cs : zCs) (z0 : Nat) (σ : zS) {p0 : Nat} {p1 : Int32} {r : Int32} {σ' : zS} (h : fX12_bits σ p0 p1 = some (r, σ')) : zM l D cs z0 yX12_bits cX12_bits 4 (some .int) { frames := 0, cells := 0, slots := 0, locals := 0 } [.ref p0, .int p1] σ (some (.int r)) σ' 0 0 := by
  exact zM_of (by decide) rfl (Or.inl rfl) (Nat.le_of_ble_eq_true rfl) rfl (fun Γ e1 e2 e3 e4 E hN K => wX12_bits E σ _ _ h K)
/-! X12_evenOut -/
def fX12_evenOut_21 (σ : zS) (l0 : Nat) (s0 : Int32) (s1 : Nat) : Option zS := oPI σ 12 s1 16 s0 (fun σ1 => oPI σ1 12 l0 17 0 (fun σ2 => some σ2))
set_option maxRecDepth 100000 in
theorem wX12_evenOut_21 {Γ : zG} (E : zE Γ cX12_evenOut RX12 1 { frames := 0, cells := 0, slots := 0, locals := 0 }) (σ : zS) (l0 : Nat) (s0 : Int32) (s1 : Nat) {R : zS} (h : fX12_evenOut_21 σ l0 s0 s1 = some R) (K : zRet Γ cX12_evenOut 1 0 0 (none) R) : zJ Γ 1 0 0 σ 21 [(0, .ref l0)] [.int s0, .ref s1] := by
  unfold fX12_evenOut_21 at h
  refine zs_putI E zc11 16 (by decide) zw_19_10 rfl rfl dX12_evenOut_21 h (fun σ1 h => ?_)
  refine zj_aload_n E dX12_evenOut_24 rfl 0 rfl ?_
  refine zj_iconst (v := 0) E dX12_evenOut_25 (by decide) ?_
  refine zs_putI E zc11 17 (by decide) zw_19_11 rfl rfl dX12_evenOut_26 h (fun σ2 h => ?_)
  have e9 := Option.some.inj h
  subst e9
  exact (show zRet Γ cX12_evenOut 1 0 0 (none) σ2 from K) _ _ dX12_evenOut_29
def fX12_evenOut (σ : zS) (p0 : Nat) : Option zS := oGI σ 12 p0 17 (fun x1 => (if x1 ≤ 0 then oGI σ 12 p0 16 (fun x2 => fX12_evenOut_21 σ p0 x2 p0) else oGI σ 12 p0 16 (fun x3 => fX12_evenOut_21 σ p0 (x3 + (1 : Int32)) p0)))
set_option maxRecDepth 100000 in
theorem wX12_evenOut {Γ : zG} (E : zE Γ cX12_evenOut RX12 1 { frames := 0, cells := 0, slots := 0, locals := 0 }) (σ : zS) (p0 : Nat) {R : zS} (h : fX12_evenOut σ p0 = some R) (K : zRet Γ cX12_evenOut 1 0 0 (none) R) : zJ Γ 1 0 0 σ 0 [(0, .ref p0)] [] := by
  unfold fX12_evenOut at h
  refine zj_aload_n E dX12_evenOut_0 rfl 0 rfl ?_
  refine zj_aload_n E dX12_evenOut_1 rfl 0 rfl ?_
  refine zs_getI E zc11 17 (by decide) zw_19_11 rfl dX12_evenOut_2 h (fun x1 h => ?_)
  refine zj_if_le (tgt := 17) E dX12_evenOut_5 (by decide) h (fun h => ?_) (fun h => ?_)
  · refine zj_aload_n E dX12_evenOut_17 rfl 0 rfl ?_
    refine zs_getI E zc11 16 (by decide) zw_19_10 rfl dX12_evenOut_18 h (fun x2 h => ?_)
    refine zj_lv [0] rfl ?_
    exact wX12_evenOut_21 E _ _ _ _ h K
  · refine zj_aload_n E dX12_evenOut_8 rfl 0 rfl ?_
    refine zs_getI E zc11 16 (by decide) zw_19_10 rfl dX12_evenOut_9 h (fun x3 h => ?_)
    refine zj_iconst (v := 1) E dX12_evenOut_12 (by decide) ?_
    refine zj_iadd E dX12_evenOut_13 ?_
    refine zj_goto (tgt := 21) E dX12_evenOut_14 (by decide) ?_
    refine zj_lv [0] rfl ?_
    exact wX12_evenOut_21 E _ _ _ _ h K
set_option maxRecDepth 100000 in
theorem kX12_evenOut (l : Launch) (D : va_G) (cs : zCs) (z0 : Nat) (σ : zS) {p0 : Nat}  {σ' : zS} (h : fX12_evenOut σ p0 = some σ') : zM l D cs z0 yX12_evenOut cX12_evenOut 1 none { frames := 0, cells := 0, slots := 0, locals := 0 } [.ref p0] σ none σ' 0 0 := by
  exact zM_of (by decide) rfl rfl (Nat.le_of_ble_eq_true rfl) rfl (fun Γ e1 e2 e3 e4 E hN K => wX12_evenOut E σ _ h K)
/-! X12_emit -/
def fX12_emit (σ : zS) (p0 : Nat) (p1 : Int32) : Option zS := oGI σ 12 p0 19 (fun x1 => (if x1 = (1100 : Int32) then oPZ σ 12 p0 18 1 (fun σ3 => some σ3) else oGR σ 12 p0 20 (fun a1 => oGI σ 12 p0 19 (fun x2 => oSt σ 20 a1 x2 ((p1.toInt8.toInt32).toInt8.toInt32) (fun σ1 => oGI σ1 12 p0 19 (fun x3 => oPI σ1 12 p0 19 (x3 + (1 : Int32)) (fun σ2 => some σ2)))))))
set_option maxRecDepth 100000 in
theorem wX12_emit {Γ : zG} (E : zE Γ cX12_emit RX12 2 { frames := 0, cells := 0, slots := 0, locals := 0 }) (σ : zS) (p0 : Nat) (p1 : Int32) {R : zS} (h : fX12_emit σ p0 p1 = some R) (K : zRet Γ cX12_emit 2 0 0 (none) R) : zJ Γ 2 0 0 σ 0 [(0, .ref p0), (1, .int p1)] [] := by
  unfold fX12_emit at h
  refine zj_aload_n E dX12_emit_0 rfl 0 rfl ?_
  refine zs_getI E zc11 19 (by decide) zw_19_14 rfl dX12_emit_1 h (fun x1 h => ?_)
  refine zj_sipush (v := 1100) E dX12_emit_4 (by decide) ?_
  refine zj_icmp_ne (tgt := 18) E dX12_emit_7 (by decide) h (fun h => ?_) (fun h => ?_)
  · refine zj_aload_n E dX12_emit_18 rfl 0 rfl ?_
    refine zs_getR E zc11 20 (by decide) zw_6_12 rfl dX12_emit_19 h (fun a1 h => ?_)
    refine zj_aload_n E dX12_emit_22 rfl 0 rfl ?_
    refine zs_getI E zc11 19 (by decide) zw_19_14 rfl dX12_emit_23 h (fun x2 h => ?_)
    refine zj_iload_n E dX12_emit_26 rfl 1 rfl ?_
    refine zj_i2b E dX12_emit_27 ?_
    refine zs_bast E dX12_emit_28 h (fun σ1 h => ?_)
    refine zj_aload_n E dX12_emit_29 rfl 0 rfl ?_
    refine zj_dup E dX12_emit_30 rfl ?_
    refine zs_getI E zc11 19 (by decide) zw_19_14 rfl dX12_emit_31 h (fun x3 h => ?_)
    refine zj_iconst (v := 1) E dX12_emit_34 (by decide) ?_
    refine zj_iadd E dX12_emit_35 ?_
    refine zs_putI E zc11 19 (by decide) zw_19_14 rfl rfl dX12_emit_36 h (fun σ2 h => ?_)
    have e9 := Option.some.inj h
    subst e9
    exact (show zRet Γ cX12_emit 2 0 0 (none) σ2 from K) _ _ dX12_emit_39
  · refine zj_aload_n E dX12_emit_10 rfl 0 rfl ?_
    refine zj_iconst (v := 1) E dX12_emit_11 (by decide) ?_
    refine zs_putZ E zc11 18 (by decide) zw_19_13 rfl rfl dX12_emit_12 h (fun σ3 h => ?_)
    refine zj_goto (tgt := 39) E dX12_emit_15 (by decide) ?_
    have e9 := Option.some.inj h
    subst e9
    exact (show zRet Γ cX12_emit 2 0 0 (none) σ3 from K) _ _ dX12_emit_39
set_option maxRecDepth 100000 in
theorem kX12_emit (l : Launch) (D : va_G) (cs : zCs) (z0 : Nat) (σ : zS) {p0 : Nat} {p1 : Int32}  {σ' : zS} (h : fX12_emit σ p0 p1 = some σ') : zM l D cs z0 yX12_emit cX12_emit 2 none { frames := 0, cells := 0, slots := 0, locals := 0 } [.ref p0, .int p1] σ none σ' 0 0 := by
  exact zM_of (by decide) rfl rfl (Nat.le_of_ble_eq_true rfl) rfl (fun Γ e1 e2 e3 e4 E hN K => wX12_emit E σ _ _ h K)
/-! X12_makeCodes -/
def jX12_makeCodes_12 (Γ : zG) (l0 : Nat) (l1 : Int32) (l2 : Int32) (l3 : Int32) : (Int32 × Int32 × Int32 × Int32 × zS) → Prop := fun x => zJ Γ 9 0 0 x.2.2.2.2 12 [(0, .ref l0), (1, .int l1), (2, .int l2), (3, .int l3), (4, .int x.1), (5, .int x.2.1), (6, .int x.2.2.1), (7, .int x.2.2.2.1)] []
def eX12_makeCodes_12 (Γ : zG) (l0 : Nat) (l1 : Int32) (l2 : Int32) (l3 : Int32) : (Int32 × Int32 × zS) → Prop := fun b => zJ Γ 9 0 0 b.2.2 87 [(0, .ref l0), (3, .int l3), (5, .int b.1), (6, .int b.2.1)] []
def jX12_makeCodes_28 (Γ : zG) (l0 : Nat) (l1 : Int32) (l2 : Int32) (l3 : Int32) (l7 : Int32) : (Int32 × Int32 × Int32 × Int32 × zS) → Prop := fun x => zJ Γ 9 0 0 x.2.2.2.2 28 [(0, .ref l0), (1, .int l1), (2, .int l2), (3, .int l3), (7, .int l7), (4, .int x.1), (5, .int x.2.1), (6, .int x.2.2.1), (8, .int x.2.2.2.1)] []
def eX12_makeCodes_28 (Γ : zG) (l0 : Nat) (l1 : Int32) (l2 : Int32) (l3 : Int32) (l7 : Int32) : (Int32 × Int32 × Int32 × zS) → Prop := fun b => zJ Γ 9 0 0 b.2.2.2 81 [(0, .ref l0), (1, .int l1), (2, .int l2), (3, .int l3), (7, .int l7), (4, .int b.1), (5, .int b.2.1), (6, .int b.2.2.1)] []
def fX12_makeCodes_75 (σ : zS) (l0 : Nat) (l1 : Int32) (l2 : Int32) (l3 : Int32) (l4 : Int32) (l5 : Int32) (l6 : Int32) (l7 : Int32) (l8 : Int32) : Option ((Int32 × Int32 × Int32 × Int32 × zS) ⊕ (Int32 × Int32 × Int32 × zS)) := oL (l8 + 1) (fun v2 => some (.inl (l4, l5, l6, v2, σ)))
set_option maxRecDepth 100000 in
theorem wX12_makeCodes_75 {Γ : zG} (E : zE Γ cX12_makeCodes RX12 9 { frames := 0, cells := 0, slots := 0, locals := 0 }) (σ : zS) (l0 : Nat) (l1 : Int32) (l2 : Int32) (l3 : Int32) (l4 : Int32) (l5 : Int32) (l6 : Int32) (l7 : Int32) (l8 : Int32) {R : ((Int32 × Int32 × Int32 × Int32 × zS) ⊕ (Int32 × Int32 × Int32 × zS))} (h : fX12_makeCodes_75 σ l0 l1 l2 l3 l4 l5 l6 l7 l8 = some R) (K : Sum.elim (jX12_makeCodes_28 Γ l0 l1 l2 l3 l7) (eX12_makeCodes_28 Γ l0 l1 l2 l3 l7) R) : zJ Γ 9 0 0 σ 75 [(0, .ref l0), (1, .int l1), (2, .int l2), (3, .int l3), (4, .int l4), (5, .int l5), (6, .int l6), (7, .int l7), (8, .int l8)] [] := by
  unfold fX12_makeCodes_75 at h
  refine zs_iinc (lv2 := fun v2 => [(8, .int v2), (0, .ref l0), (1, .int l1), (2, .int l2), (3, .int l3), (4, .int l4), (5, .int l5), (6, .int l6), (7, .int l7)]) E dX12_makeCodes_75 8 rfl (by decide) (by decide) (fun _ => rfl) h (fun v2 h => ?_)
  refine zj_goto (tgt := 28) E dX12_makeCodes_78 (by decide) ?_
  have e9 := Option.some.inj h
  subst e9
  refine zj_lv [1, 2, 3, 4, 8, 5, 6, 7, 0] rfl ?_
  exact K
def bX12_makeCodes_28 (l0 : Nat) (l1 : Int32) (l2 : Int32) (l3 : Int32) (l7 : Int32) (l4 : Int32) (l5 : Int32) (l6 : Int32) (l8 : Int32) (σ : zS) : Option ((Int32 × Int32 × Int32 × Int32 × zS) ⊕ (Int32 × Int32 × Int32 × zS)) := (if (l1 + l2) ≤ l8 then some (.inr (l4, l5, l6, σ)) else oGR σ 12 l0 21 (fun a1 => oLd σ 21 a1 l8 (fun x1 => (if x1 = l7 then oGR σ 12 l0 22 (fun a2 => oSt σ 21 a2 l8 l4 (fun σ1 => oL (l4 + 1) (fun v3 => oL (l5 + 1) (fun v4 => oL (l6 + ((1 : Int32) <<< (((15 : Int32) - l7) &&& 31))) (fun v5 => fX12_makeCodes_75 σ1 l0 l1 l2 l3 v3 v4 v5 l7 l8))))) else fX12_makeCodes_75 σ l0 l1 l2 l3 l4 l5 l6 l7 l8))))
set_option maxRecDepth 100000 in
theorem wX12_makeCodes_L28 {Γ : zG} (E : zE Γ cX12_makeCodes RX12 9 { frames := 0, cells := 0, slots := 0, locals := 0 }) (l0 : Nat) (l1 : Int32) (l2 : Int32) (l3 : Int32) (l7 : Int32) : ∀ x R, (fun x => bX12_makeCodes_28 l0 l1 l2 l3 l7 x.1 x.2.1 x.2.2.1 x.2.2.2.1 x.2.2.2.2) x = some R → Sum.elim (jX12_makeCodes_28 Γ l0 l1 l2 l3 l7) (eX12_makeCodes_28 Γ l0 l1 l2 l3 l7) R → jX12_makeCodes_28 Γ l0 l1 l2 l3 l7 x := by
  intro x R h K
  obtain ⟨l4, l5, l6, l8, σ⟩ := x
  have h : bX12_makeCodes_28 l0 l1 l2 l3 l7 l4 l5 l6 l8 σ = some R := h
  show zJ Γ 9 0 0 σ 28 [(0, .ref l0), (1, .int l1), (2, .int l2), (3, .int l3), (7, .int l7), (4, .int l4), (5, .int l5), (6, .int l6), (8, .int l8)] []
  unfold bX12_makeCodes_28 at h
  refine zj_iload E dX12_makeCodes_28 8 rfl ?_
  refine zj_iload_n E dX12_makeCodes_30 rfl 1 rfl ?_
  refine zj_iload_n E dX12_makeCodes_31 rfl 2 rfl ?_
  refine zj_iadd E dX12_makeCodes_32 ?_
  refine zj_icmp_ge (tgt := 81) E dX12_makeCodes_33 (by decide) h (fun h => ?_) (fun h => ?_)
  · have e9 := Option.some.inj h
    subst e9
    refine zj_lv [0, 1, 2, 3, 4, 5, 6, 7] rfl ?_
    exact K
  · refine zj_aload_n E dX12_makeCodes_36 rfl 0 rfl ?_
    refine zs_getR E zc11 21 (by decide) zw_6_13 rfl dX12_makeCodes_37 h (fun a1 h => ?_)
    refine zj_iload E dX12_makeCodes_40 8 rfl ?_
    refine zs_iald E dX12_makeCodes_42 h (fun x1 h => ?_)
    refine zj_iload E dX12_makeCodes_43 4 rfl ?_
    refine zj_icmp_ne (tgt := 75) E dX12_makeCodes_45 (by decide) h (fun h => ?_) (fun h => ?_)
    · refine zj_lv [0, 1, 2, 3, 5, 6, 7, 4, 8] rfl ?_
      exact wX12_makeCodes_75 E _ _ _ _ _ _ _ _ _ _ h K
    · refine zj_aload_n E dX12_makeCodes_48 rfl 0 rfl ?_
      refine zs_getR E zc11 22 (by decide) zw_6_14 rfl dX12_makeCodes_49 h (fun a2 h => ?_)
      refine zj_iload E dX12_makeCodes_52 8 rfl ?_
      refine zj_iload E dX12_makeCodes_54 5 rfl ?_
      refine zs_iast E dX12_makeCodes_56 h (fun σ1 h => ?_)
      refine zs_iinc (lv2 := fun v3 => [(4, .int v3), (0, .ref l0), (1, .int l1), (2, .int l2), (3, .int l3), (7, .int l7), (5, .int l5), (6, .int l6), (8, .int l8)]) E dX12_makeCodes_57 5 rfl (by decide) (by decide) (fun _ => rfl) h (fun v3 h => ?_)
      refine zs_iinc (lv2 := fun v4 => [(5, .int v4), (4, .int v3), (0, .ref l0), (1, .int l1), (2, .int l2), (3, .int l3), (7, .int l7), (6, .int l6), (8, .int l8)]) E dX12_makeCodes_60 6 rfl (by decide) (by decide) (fun _ => rfl) h (fun v4 h => ?_)
      refine zj_iload E dX12_makeCodes_63 7 rfl ?_
      refine zj_iconst (v := 1) E dX12_makeCodes_65 (by decide) ?_
      refine zj_bipush (v := 15) E dX12_makeCodes_66 (by decide) ?_
      refine zj_iload E dX12_makeCodes_68 6 rfl ?_
      refine zj_isub E dX12_makeCodes_70 ?_
      refine zj_ishl E dX12_makeCodes_71 ?_
      refine zj_iadd E dX12_makeCodes_72 ?_
      refine zs_istore (lv2 := fun v5 => [(6, .int v5), (5, .int v4), (4, .int v3), (0, .ref l0), (1, .int l1), (2, .int l2), (3, .int l3), (7, .int l7), (8, .int l8)]) E dX12_makeCodes_73 (by decide) (fun _ => rfl) h (fun v5 h => ?_)
      refine zj_lv [3, 4, 5, 6, 2, 1, 0, 7, 8] rfl ?_
      exact wX12_makeCodes_75 E _ _ _ _ _ _ _ _ _ _ h K
def bX12_makeCodes_12 (l0 : Nat) (l1 : Int32) (l2 : Int32) (l3 : Int32) (l4 : Int32) (l5 : Int32) (l6 : Int32) (l7 : Int32) (σ : zS) : Option ((Int32 × Int32 × Int32 × Int32 × zS) ⊕ (Int32 × Int32 × zS)) := (if (16 : Int32) ≤ l7 then some (.inr (l5, l6, σ)) else oL ((2 : Int32) * l4) (fun v1 => oB (zloop zF (fun x => bX12_makeCodes_28 l0 l1 l2 l3 l7 x.1 x.2.1 x.2.2.1 x.2.2.2.1 x.2.2.2.2) (v1, l5, l6, l1, σ)) (fun b1 => (fun v6 v7 v8 σ2 => oL (l7 + 1) (fun v9 => some (.inl (v6, v7, v8, v9, σ2)))) b1.1 b1.2.1 b1.2.2.1 b1.2.2.2)))
set_option maxRecDepth 100000 in
theorem wX12_makeCodes_L12 {Γ : zG} (E : zE Γ cX12_makeCodes RX12 9 { frames := 0, cells := 0, slots := 0, locals := 0 }) (l0 : Nat) (l1 : Int32) (l2 : Int32) (l3 : Int32) : ∀ x R, (fun x => bX12_makeCodes_12 l0 l1 l2 l3 x.1 x.2.1 x.2.2.1 x.2.2.2.1 x.2.2.2.2) x = some R → Sum.elim (jX12_makeCodes_12 Γ l0 l1 l2 l3) (eX12_makeCodes_12 Γ l0 l1 l2 l3) R → jX12_makeCodes_12 Γ l0 l1 l2 l3 x := by
  intro x R h K
  obtain ⟨l4, l5, l6, l7, σ⟩ := x
  have h : bX12_makeCodes_12 l0 l1 l2 l3 l4 l5 l6 l7 σ = some R := h
  show zJ Γ 9 0 0 σ 12 [(0, .ref l0), (1, .int l1), (2, .int l2), (3, .int l3), (4, .int l4), (5, .int l5), (6, .int l6), (7, .int l7)] []
  unfold bX12_makeCodes_12 at h
  refine zj_iload E dX12_makeCodes_12 7 rfl ?_
  refine zj_bipush (v := 16) E dX12_makeCodes_14 (by decide) ?_
  refine zj_icmp_ge (tgt := 87) E dX12_makeCodes_16 (by decide) h (fun h => ?_) (fun h => ?_)
  · have e9 := Option.some.inj h
    subst e9
    refine zj_lv [0, 3, 5, 6] rfl ?_
    exact K
  · refine zj_iconst (v := 2) E dX12_makeCodes_19 (by decide) ?_
    refine zj_iload E dX12_makeCodes_20 4 rfl ?_
    refine zj_imul E dX12_makeCodes_22 ?_
    refine zs_istore (lv2 := fun v1 => [(4, .int v1), (0, .ref l0), (1, .int l1), (2, .int l2), (3, .int l3), (5, .int l5), (6, .int l6), (7, .int l7)]) E dX12_makeCodes_23 (by decide) (fun _ => rfl) h (fun v1 h => ?_)
    refine zj_iload_n E dX12_makeCodes_25 rfl 2 rfl ?_
    refine zj_istore (lv2 := [(8, .int l1), (4, .int v1), (0, .ref l0), (1, .int l1), (2, .int l2), (3, .int l3), (5, .int l5), (6, .int l6), (7, .int l7)]) E dX12_makeCodes_26 (by decide) rfl ?_
    obtain ⟨b1, hb1, h⟩ := oB_some h
    refine zj_lv [2, 3, 4, 5, 8, 1, 6, 7, 0] rfl ?_
    refine zj_loop (wX12_makeCodes_L28 E l0 l1 l2 l3 l7) zF (v1, l5, l6, l1, σ) b1 hb1 ?_
    obtain ⟨v6, v7, v8, σ2⟩ := b1
    try dsimp only at h
    show zJ Γ 9 0 0 σ2 81 [(0, .ref l0), (1, .int l1), (2, .int l2), (3, .int l3), (7, .int l7), (4, .int v6), (5, .int v7), (6, .int v8)] []
    refine zs_iinc (lv2 := fun v9 => [(7, .int v9), (0, .ref l0), (1, .int l1), (2, .int l2), (3, .int l3), (4, .int v6), (5, .int v7), (6, .int v8)]) E dX12_makeCodes_81 4 rfl (by decide) (by decide) (fun _ => rfl) h (fun v9 h => ?_)
    refine zj_goto (tgt := 12) E dX12_makeCodes_84 (by decide) ?_
    have e9 := Option.some.inj h
    subst e9
    refine zj_lv [1, 2, 3, 4, 5, 6, 7, 0] rfl ?_
    exact K
def fX12_makeCodes_142 (σ : zS) (s0 : Int32) (s1 : Nat) : Option zS := oPZ σ 12 s1 18 s0 (fun σ4 => some σ4)
set_option maxRecDepth 100000 in
theorem wX12_makeCodes_142 {Γ : zG} (E : zE Γ cX12_makeCodes RX12 9 { frames := 0, cells := 0, slots := 0, locals := 0 }) (σ : zS) (s0 : Int32) (s1 : Nat) {R : zS} (h : fX12_makeCodes_142 σ s0 s1 = some R) (K : zRet Γ cX12_makeCodes 9 0 0 (none) R) : zJ Γ 9 0 0 σ 142 [] [.int s0, .ref s1] := by
  unfold fX12_makeCodes_142 at h
  refine zs_putZ E zc11 18 (by decide) zw_19_13 rfl rfl dX12_makeCodes_142 h (fun σ4 h => ?_)
  have e9 := Option.some.inj h
  subst e9
  exact (show zRet Γ cX12_makeCodes 9 0 0 (none) σ4 from K) _ _ dX12_makeCodes_145
def fX12_makeCodes_137 (σ : zS) (s0 : Nat) : Option zS := fX12_makeCodes_142 σ 1 s0
set_option maxRecDepth 100000 in
theorem wX12_makeCodes_137 {Γ : zG} (E : zE Γ cX12_makeCodes RX12 9 { frames := 0, cells := 0, slots := 0, locals := 0 }) (σ : zS) (s0 : Nat) {R : zS} (h : fX12_makeCodes_137 σ s0 = some R) (K : zRet Γ cX12_makeCodes 9 0 0 (none) R) : zJ Γ 9 0 0 σ 137 [] [.ref s0] := by
  unfold fX12_makeCodes_137 at h
  refine zj_iconst (v := 1) E dX12_makeCodes_137 (by decide) ?_
  refine zj_goto (tgt := 142) E dX12_makeCodes_138 (by decide) ?_
  refine zj_lv [] rfl ?_
  exact wX12_makeCodes_142 E _ _ _ h K
def fX12_makeCodes_141 (σ : zS) (s0 : Nat) : Option zS := fX12_makeCodes_142 σ 0 s0
set_option maxRecDepth 100000 in
theorem wX12_makeCodes_141 {Γ : zG} (E : zE Γ cX12_makeCodes RX12 9 { frames := 0, cells := 0, slots := 0, locals := 0 }) (σ : zS) (s0 : Nat) {R : zS} (h : fX12_makeCodes_141 σ s0 = some R) (K : zRet Γ cX12_makeCodes 9 0 0 (none) R) : zJ Γ 9 0 0 σ 141 [] [.ref s0] := by
  unfold fX12_makeCodes_141 at h
  refine zj_iconst (v := 0) E dX12_makeCodes_141 (by decide) ?_
  refine zj_lv [] rfl ?_
  exact wX12_makeCodes_142 E _ _ _ h K
def fX12_makeCodes_111 (σ : zS) (l0 : Nat) (l3 : Int32) (l6 : Int32) (s0 : Int32) : Option zS := oGI σ 12 l0 18 (fun x2 => (if x2 = 0 then (if l6 = (32768 : Int32) then fX12_makeCodes_141 σ l0 else (if l3 = 0 then fX12_makeCodes_137 σ l0 else (if s0 = 0 then fX12_makeCodes_137 σ l0 else fX12_makeCodes_141 σ l0))) else fX12_makeCodes_137 σ l0))
set_option maxRecDepth 100000 in
theorem wX12_makeCodes_111 {Γ : zG} (E : zE Γ cX12_makeCodes RX12 9 { frames := 0, cells := 0, slots := 0, locals := 0 }) (σ : zS) (l0 : Nat) (l3 : Int32) (l6 : Int32) (s0 : Int32) {R : zS} (h : fX12_makeCodes_111 σ l0 l3 l6 s0 = some R) (K : zRet Γ cX12_makeCodes 9 0 0 (none) R) : zJ Γ 9 0 0 σ 111 [(0, .ref l0), (3, .int l3), (6, .int l6)] [.int s0] := by
  unfold fX12_makeCodes_111 at h
  refine zj_istore (lv2 := [(7, .int s0), (0, .ref l0), (3, .int l3), (6, .int l6)]) E dX12_makeCodes_111 (by decide) rfl ?_
  refine zj_aload_n E dX12_makeCodes_113 rfl 1 rfl ?_
  refine zj_aload_n E dX12_makeCodes_114 rfl 1 rfl ?_
  refine zs_getI E zc11 18 (by decide) zw_19_13 rfl dX12_makeCodes_115 h (fun x2 h => ?_)
  refine zj_if_ne (tgt := 137) E dX12_makeCodes_118 (by decide) h (fun h => ?_) (fun h => ?_)
  · refine zj_lv [] rfl ?_
    exact wX12_makeCodes_137 E _ _ h K
  · refine zj_iload E dX12_makeCodes_121 3 rfl ?_
    refine zj_ldc (v := 32768) E zw_20_17 dX12_makeCodes_123 ?_
    refine zj_icmp_eq (tgt := 141) E dX12_makeCodes_125 (by decide) h (fun h => ?_) (fun h => ?_)
    · refine zj_lv [] rfl ?_
      exact wX12_makeCodes_141 E _ _ h K
    · refine zj_iload_n E dX12_makeCodes_128 rfl 2 rfl ?_
      refine zj_if_eq (tgt := 137) E dX12_makeCodes_129 (by decide) h (fun h => ?_) (fun h => ?_)
      · refine zj_lv [] rfl ?_
        exact wX12_makeCodes_137 E _ _ h K
      · refine zj_iload E dX12_makeCodes_132 0 rfl ?_
        refine zj_if_ne (tgt := 141) E dX12_makeCodes_134 (by decide) h (fun h => ?_) (fun h => ?_)
        · refine zj_lv [] rfl ?_
          exact wX12_makeCodes_141 E _ _ h K
        · refine zj_lv [] rfl ?_
          exact wX12_makeCodes_137 E _ _ h K
def fX12_makeCodes_106 (σ : zS) (l0 : Nat) (l3 : Int32) (l6 : Int32) : Option zS := fX12_makeCodes_111 σ l0 l3 l6 1
set_option maxRecDepth 100000 in
theorem wX12_makeCodes_106 {Γ : zG} (E : zE Γ cX12_makeCodes RX12 9 { frames := 0, cells := 0, slots := 0, locals := 0 }) (σ : zS) (l0 : Nat) (l3 : Int32) (l6 : Int32) {R : zS} (h : fX12_makeCodes_106 σ l0 l3 l6 = some R) (K : zRet Γ cX12_makeCodes 9 0 0 (none) R) : zJ Γ 9 0 0 σ 106 [(0, .ref l0), (3, .int l3), (6, .int l6)] [] := by
  unfold fX12_makeCodes_106 at h
  refine zj_iconst (v := 1) E dX12_makeCodes_106 (by decide) ?_
  refine zj_goto (tgt := 111) E dX12_makeCodes_107 (by decide) ?_
  refine zj_lv [0, 1, 2] rfl ?_
  exact wX12_makeCodes_111 E _ _ _ _ _ h K
def fX12_makeCodes_110 (σ : zS) (l0 : Nat) (l3 : Int32) (l6 : Int32) : Option zS := fX12_makeCodes_111 σ l0 l3 l6 0
set_option maxRecDepth 100000 in
theorem wX12_makeCodes_110 {Γ : zG} (E : zE Γ cX12_makeCodes RX12 9 { frames := 0, cells := 0, slots := 0, locals := 0 }) (σ : zS) (l0 : Nat) (l3 : Int32) (l6 : Int32) {R : zS} (h : fX12_makeCodes_110 σ l0 l3 l6 = some R) (K : zRet Γ cX12_makeCodes 9 0 0 (none) R) : zJ Γ 9 0 0 σ 110 [(0, .ref l0), (3, .int l3), (6, .int l6)] [] := by
  unfold fX12_makeCodes_110 at h
  refine zj_iconst (v := 0) E dX12_makeCodes_110 (by decide) ?_
  refine zj_lv [0, 1, 2] rfl ?_
  exact wX12_makeCodes_111 E _ _ _ _ _ h K
def fX12_makeCodes (σ : zS) (p0 : Nat) (p1 : Int32) (p2 : Int32) (p3 : Int32) : Option zS := oB (zloop zF (fun x => bX12_makeCodes_12 p0 p1 p2 p3 x.1 x.2.1 x.2.2.1 x.2.2.2.1 x.2.2.2.2) (0, 0, 0, 1, σ)) (fun b2 => (fun v10 v11 σ3 => (if v10 = 0 then fX12_makeCodes_106 σ3 p0 p3 v11 else (if v10 = (1 : Int32) then (if v11 = (16384 : Int32) then fX12_makeCodes_106 σ3 p0 p3 v11 else fX12_makeCodes_110 σ3 p0 p3 v11) else fX12_makeCodes_110 σ3 p0 p3 v11))) b2.1 b2.2.1 b2.2.2)
set_option maxRecDepth 100000 in
theorem wX12_makeCodes {Γ : zG} (E : zE Γ cX12_makeCodes RX12 9 { frames := 0, cells := 0, slots := 0, locals := 0 }) (σ : zS) (p0 : Nat) (p1 : Int32) (p2 : Int32) (p3 : Int32) {R : zS} (h : fX12_makeCodes σ p0 p1 p2 p3 = some R) (K : zRet Γ cX12_makeCodes 9 0 0 (none) R) : zJ Γ 9 0 0 σ 0 [(0, .ref p0), (1, .int p1), (2, .int p2), (3, .int p3)] [] := by
  unfold fX12_makeCodes at h
  refine zj_iconst (v := 0) E dX12_makeCodes_0 (by decide) ?_
  refine zj_istore (lv2 := [(4, .int 0), (0, .ref p0), (1, .int p1), (2, .int p2), (3, .int p3)]) E dX12_makeCodes_1 (by decide) rfl ?_
  refine zj_iconst (v := 0) E dX12_makeCodes_3 (by decide) ?_
  refine zj_istore (lv2 := [(5, .int 0), (4, .int 0), (0, .ref p0), (1, .int p1), (2, .int p2), (3, .int p3)]) E dX12_makeCodes_4 (by decide) rfl ?_
  refine zj_iconst (v := 0) E dX12_makeCodes_6 (by decide) ?_
  refine zj_istore (lv2 := [(6, .int 0), (5, .int 0), (4, .int 0), (0, .ref p0), (1, .int p1), (2, .int p2), (3, .int p3)]) E dX12_makeCodes_7 (by decide) rfl ?_
  refine zj_iconst (v := 1) E dX12_makeCodes_9 (by decide) ?_
  refine zj_istore (lv2 := [(7, .int 1), (6, .int 0), (5, .int 0), (4, .int 0), (0, .ref p0), (1, .int p1), (2, .int p2), (3, .int p3)]) E dX12_makeCodes_10 (by decide) rfl ?_
  obtain ⟨b2, hb2, h⟩ := oB_some h
  refine zj_lv [4, 5, 6, 7, 3, 2, 1, 0] rfl ?_
  refine zj_loop (wX12_makeCodes_L12 E p0 p1 p2 p3) zF (0, 0, 0, 1, σ) b2 hb2 ?_
  obtain ⟨v10, v11, σ3⟩ := b2
  try dsimp only at h
  show zJ Γ 9 0 0 σ3 87 [(0, .ref p0), (3, .int p3), (5, .int v10), (6, .int v11)] []
  refine zj_iload E dX12_makeCodes_87 2 rfl ?_
  refine zj_if_eq (tgt := 106) E dX12_makeCodes_89 (by decide) h (fun h => ?_) (fun h => ?_)
  · refine zj_lv [0, 1, 3] rfl ?_
    exact wX12_makeCodes_106 E _ _ _ _ h K
  · refine zj_iload E dX12_makeCodes_92 2 rfl ?_
    refine zj_iconst (v := 1) E dX12_makeCodes_94 (by decide) ?_
    refine zj_icmp_ne (tgt := 110) E dX12_makeCodes_95 (by decide) h (fun h => ?_) (fun h => ?_)
    · refine zj_lv [0, 1, 3] rfl ?_
      exact wX12_makeCodes_110 E _ _ _ _ h K
    · refine zj_iload E dX12_makeCodes_98 3 rfl ?_
      refine zj_sipush (v := 16384) E dX12_makeCodes_100 (by decide) ?_
      refine zj_icmp_ne (tgt := 110) E dX12_makeCodes_103 (by decide) h (fun h => ?_) (fun h => ?_)
      · refine zj_lv [0, 1, 3] rfl ?_
        exact wX12_makeCodes_110 E _ _ _ _ h K
      · refine zj_lv [0, 1, 3] rfl ?_
        exact wX12_makeCodes_106 E _ _ _ _ h K
set_option maxRecDepth 100000 in
theorem kX12_makeCodes (l : Launch) (D : va_G) (cs : zCs) (z0 : Nat) (σ : zS) {p0 : Nat} {p1 : Int32} {p2 : Int32} {p3 : Int32}  {σ' : zS} (h : fX12_makeCodes σ p0 p1 p2 p3 = some σ') : zM l D cs z0 yX12_makeCodes cX12_makeCodes 9 none { frames := 0, cells := 0, slots := 0, locals := 0 } [.ref p0, .int p1, .int p2, .int p3] σ none σ' 0 0 := by
  exact zM_of (by decide) rfl rfl (Nat.le_of_ble_eq_true rfl) rfl (fun Γ e1 e2 e3 e4 E hN K => wX12_makeCodes E σ _ _ _ _ h K)
/-! X12_symbol -/
def jX12_symbol_5 (Γ : zG) (l0 : Nat) (l1 : Int32) (l2 : Int32) : (Int32 × Int32 × zS) → Prop := fun x => zJ Γ 6 0 0 x.2.2 5 [(0, .ref l0), (1, .int l1), (2, .int l2), (3, .int x.1), (4, .int x.2.1)] []
def eX12_symbol_5 (Γ : zG) (l0 : Nat) (l1 : Int32) (l2 : Int32) : (zS ⊕ (Int32 × zS)) → Prop := Sum.elim (fun b => zJ Γ 6 0 0 b 87 [(0, .ref l0)] []) (fun r => zRet Γ cX12_symbol 6 0 0 (some (.int r.1)) r.2)
def jX12_symbol_32 (Γ : zG) (l0 : Nat) (l1 : Int32) (l2 : Int32) (l3 : Int32) (l4 : Int32) : (Int32 × zS) → Prop := fun x => zJ Γ 6 0 0 x.2 32 [(0, .ref l0), (1, .int l1), (2, .int l2), (3, .int l3), (4, .int l4), (5, .int x.1)] []
def eX12_symbol_32 (Γ : zG) (l0 : Nat) (l1 : Int32) (l2 : Int32) (l3 : Int32) (l4 : Int32) : (zS ⊕ (Int32 × zS)) → Prop := Sum.elim (fun b => zJ Γ 6 0 0 b 81 [(0, .ref l0), (1, .int l1), (2, .int l2), (3, .int l3), (4, .int l4)] []) (fun r => zRet Γ cX12_symbol 6 0 0 (some (.int r.1)) r.2)
def fX12_symbol_75 (σ : zS) (l0 : Nat) (l1 : Int32) (l2 : Int32) (l3 : Int32) (l4 : Int32) (l5 : Int32) : Option ((Int32 × zS) ⊕ (zS ⊕ (Int32 × zS))) := oL (l5 + 1) (fun v2 => some (.inl (v2, σ)))
set_option maxRecDepth 100000 in
theorem wX12_symbol_75 {Γ : zG} (E : zE Γ cX12_symbol RX12 6 { frames := 1, cells := 0, slots := 0, locals := 23 }) (σ : zS) (l0 : Nat) (l1 : Int32) (l2 : Int32) (l3 : Int32) (l4 : Int32) (l5 : Int32) {R : ((Int32 × zS) ⊕ (zS ⊕ (Int32 × zS)))} (h : fX12_symbol_75 σ l0 l1 l2 l3 l4 l5 = some R) (K : Sum.elim (jX12_symbol_32 Γ l0 l1 l2 l3 l4) (eX12_symbol_32 Γ l0 l1 l2 l3 l4) R) : zJ Γ 6 0 0 σ 75 [(0, .ref l0), (1, .int l1), (2, .int l2), (3, .int l3), (4, .int l4), (5, .int l5)] [] := by
  unfold fX12_symbol_75 at h
  refine zs_iinc (lv2 := fun v2 => [(5, .int v2), (0, .ref l0), (1, .int l1), (2, .int l2), (3, .int l3), (4, .int l4)]) E dX12_symbol_75 5 rfl (by decide) (by decide) (fun _ => rfl) h (fun v2 h => ?_)
  refine zj_goto (tgt := 32) E dX12_symbol_78 (by decide) ?_
  have e9 := Option.some.inj h
  subst e9
  refine zj_lv [1, 2, 3, 4, 5, 0] rfl ?_
  exact K
def bX12_symbol_32 (l0 : Nat) (l1 : Int32) (l2 : Int32) (l3 : Int32) (l4 : Int32) (l5 : Int32) (σ : zS) : Option ((Int32 × zS) ⊕ (zS ⊕ (Int32 × zS))) := (if (l1 + l2) ≤ l5 then some (.inr (.inl σ)) else oGI σ 12 l0 18 (fun x3 => (if x3 = 0 then oGR σ 12 l0 21 (fun a1 => oLd σ 21 a1 l5 (fun x4 => (if x4 = l4 then oGR σ 12 l0 22 (fun a2 => oLd σ 21 a2 l5 (fun x5 => (if x5 = l3 then some (.inr (.inr ((l5 - l1), σ))) else fX12_symbol_75 σ l0 l1 l2 l3 l4 l5))) else fX12_symbol_75 σ l0 l1 l2 l3 l4 l5))) else some (.inr (.inl σ)))))
set_option maxRecDepth 100000 in
theorem wX12_symbol_L32 {Γ : zG} (E : zE Γ cX12_symbol RX12 6 { frames := 1, cells := 0, slots := 0, locals := 23 }) (l0 : Nat) (l1 : Int32) (l2 : Int32) (l3 : Int32) (l4 : Int32) : ∀ x R, (fun x => bX12_symbol_32 l0 l1 l2 l3 l4 x.1 x.2) x = some R → Sum.elim (jX12_symbol_32 Γ l0 l1 l2 l3 l4) (eX12_symbol_32 Γ l0 l1 l2 l3 l4) R → jX12_symbol_32 Γ l0 l1 l2 l3 l4 x := by
  intro x R h K
  obtain ⟨l5, σ⟩ := x
  have h : bX12_symbol_32 l0 l1 l2 l3 l4 l5 σ = some R := h
  show zJ Γ 6 0 0 σ 32 [(0, .ref l0), (1, .int l1), (2, .int l2), (3, .int l3), (4, .int l4), (5, .int l5)] []
  unfold bX12_symbol_32 at h
  refine zj_iload E dX12_symbol_32 5 rfl ?_
  refine zj_iload_n E dX12_symbol_34 rfl 1 rfl ?_
  refine zj_iload_n E dX12_symbol_35 rfl 2 rfl ?_
  refine zj_iadd E dX12_symbol_36 ?_
  refine zj_icmp_ge (tgt := 81) E dX12_symbol_37 (by decide) h (fun h => ?_) (fun h => ?_)
  · have e9 := Option.some.inj h
    subst e9
    refine zj_lv [0, 1, 2, 3, 4] rfl ?_
    exact K
  · refine zj_aload_n E dX12_symbol_40 rfl 0 rfl ?_
    refine zs_getI E zc11 18 (by decide) zw_19_13 rfl dX12_symbol_41 h (fun x3 h => ?_)
    refine zj_if_ne (tgt := 81) E dX12_symbol_44 (by decide) h (fun h => ?_) (fun h => ?_)
    · have e9 := Option.some.inj h
      subst e9
      refine zj_lv [0, 1, 2, 3, 4] rfl ?_
      exact K
    · refine zj_aload_n E dX12_symbol_47 rfl 0 rfl ?_
      refine zs_getR E zc11 21 (by decide) zw_6_13 rfl dX12_symbol_48 h (fun a1 h => ?_)
      refine zj_iload E dX12_symbol_51 5 rfl ?_
      refine zs_iald E dX12_symbol_53 h (fun x4 h => ?_)
      refine zj_iload E dX12_symbol_54 4 rfl ?_
      refine zj_icmp_ne (tgt := 75) E dX12_symbol_56 (by decide) h (fun h => ?_) (fun h => ?_)
      · refine zj_lv [0, 1, 2, 3, 4, 5] rfl ?_
        exact wX12_symbol_75 E _ _ _ _ _ _ _ h K
      · refine zj_aload_n E dX12_symbol_59 rfl 0 rfl ?_
        refine zs_getR E zc11 22 (by decide) zw_6_14 rfl dX12_symbol_60 h (fun a2 h => ?_)
        refine zj_iload E dX12_symbol_63 5 rfl ?_
        refine zs_iald E dX12_symbol_65 h (fun x5 h => ?_)
        refine zj_iload_n E dX12_symbol_66 rfl 3 rfl ?_
        refine zj_icmp_ne (tgt := 75) E dX12_symbol_67 (by decide) h (fun h => ?_) (fun h => ?_)
        · refine zj_lv [0, 1, 2, 3, 4, 5] rfl ?_
          exact wX12_symbol_75 E _ _ _ _ _ _ _ h K
        · refine zj_iload E dX12_symbol_70 5 rfl ?_
          refine zj_iload_n E dX12_symbol_72 rfl 1 rfl ?_
          refine zj_isub E dX12_symbol_73 ?_
          have e9 := Option.some.inj h
          subst e9
          exact (show zRet Γ cX12_symbol 6 0 0 (some (.int (l5 - l1))) σ from K) _ _ dX12_symbol_74
def bX12_symbol_5 (l0 : Nat) (l1 : Int32) (l2 : Int32) (l3 : Int32) (l4 : Int32) (σ : zS) : Option ((Int32 × Int32 × zS) ⊕ (zS ⊕ (Int32 × zS))) := (if (16 : Int32) ≤ l4 then some (.inr (.inl σ)) else oGI σ 12 l0 18 (fun x1 => (if x1 = 0 then oA (zk σ l0 = 12) (oC (fX12_bits σ l0 1) (fun x2 σ1 => oL (((2 : Int32) * l3) + x2) (fun v1 => oB (zloop zF (fun x => bX12_symbol_32 l0 l1 l2 v1 l4 x.1 x.2) (l1, σ1)) (fun b1 => oS b1 (fun c1 => (fun σ2 => oL (l4 + 1) (fun v3 => some (.inl (v1, v3, σ2)))) c1) (fun r1 => some (.inr (.inr r1))))))) else some (.inr (.inl σ)))))
set_option maxRecDepth 100000 in
theorem wX12_symbol_L5 {Γ : zG} (E : zE Γ cX12_symbol RX12 6 { frames := 1, cells := 0, slots := 0, locals := 23 }) (l0 : Nat) (l1 : Int32) (l2 : Int32) : ∀ x R, (fun x => bX12_symbol_5 l0 l1 l2 x.1 x.2.1 x.2.2) x = some R → Sum.elim (jX12_symbol_5 Γ l0 l1 l2) (eX12_symbol_5 Γ l0 l1 l2) R → jX12_symbol_5 Γ l0 l1 l2 x := by
  intro x R h K
  obtain ⟨l3, l4, σ⟩ := x
  have h : bX12_symbol_5 l0 l1 l2 l3 l4 σ = some R := h
  show zJ Γ 6 0 0 σ 5 [(0, .ref l0), (1, .int l1), (2, .int l2), (3, .int l3), (4, .int l4)] []
  unfold bX12_symbol_5 at h
  refine zj_iload E dX12_symbol_5 4 rfl ?_
  refine zj_bipush (v := 16) E dX12_symbol_7 (by decide) ?_
  refine zj_icmp_ge (tgt := 87) E dX12_symbol_9 (by decide) h (fun h => ?_) (fun h => ?_)
  · have e9 := Option.some.inj h
    subst e9
    refine zj_lv [0] rfl ?_
    exact K
  · refine zj_aload_n E dX12_symbol_12 rfl 0 rfl ?_
    refine zs_getI E zc11 18 (by decide) zw_19_13 rfl dX12_symbol_13 h (fun x1 h => ?_)
    refine zj_if_ne (tgt := 87) E dX12_symbol_16 (by decide) h (fun h => ?_) (fun h => ?_)
    · have e9 := Option.some.inj h
      subst e9
      refine zj_lv [0] rfl ?_
      exact K
    · refine zj_iconst (v := 2) E dX12_symbol_19 (by decide) ?_
      refine zj_iload_n E dX12_symbol_20 rfl 3 rfl ?_
      refine zj_imul E dX12_symbol_21 ?_
      refine zj_aload_n E dX12_symbol_22 rfl 0 rfl ?_
      refine zj_iconst (v := 1) E dX12_symbol_23 (by decide) ?_
      obtain ⟨hk, h⟩ := oA_some h
      obtain ⟨x2, σ1, hc, h⟩ := oC_some h
      refine zs_callV (As := [.int 1]) (rest := [.int ((2 : Int32) * l3)]) E zc11 zyX12_bits zw_19_16 (kX12_bits _ _ _ _ _ hc) rfl rfl hk rfl ⟨by decide, by decide⟩ ⟨by decide, by decide⟩ (Nat.le_of_ble_eq_true rfl) dX12_symbol_24 rfl (show zJ Γ 6 0 0 σ1 27 [(0, .ref l0), (1, .int l1), (2, .int l2), (3, .int l3), (4, .int l4)] [.int x2, .int ((2 : Int32) * l3)] from ?_)
      refine zj_iadd E dX12_symbol_27 ?_
      refine zs_istore_n (lv2 := fun v1 => [(3, .int v1), (0, .ref l0), (1, .int l1), (2, .int l2), (4, .int l4)]) E dX12_symbol_28 rfl (by decide) (fun _ => rfl) h (fun v1 h => ?_)
      refine zj_iload_n E dX12_symbol_29 rfl 2 rfl ?_
      refine zj_istore (lv2 := [(5, .int l1), (3, .int v1), (0, .ref l0), (1, .int l1), (2, .int l2), (4, .int l4)]) E dX12_symbol_30 (by decide) rfl ?_
      obtain ⟨b1, hb1, h⟩ := oB_some h
      refine zj_lv [2, 3, 4, 1, 5, 0] rfl ?_
      refine zj_loop (wX12_symbol_L32 E l0 l1 l2 v1 l4) zF (l1, σ1) b1 hb1 ?_
      cases b1 with
      | inr r1 =>
        have e9 := Option.some.inj h
        subst e9
        exact K
      | inl c1 =>
        obtain ⟨σ2, rfl⟩ : ∃ z, z = c1 := ⟨_, rfl⟩
        dsimp only [oS] at h
        show zJ Γ 6 0 0 σ2 81 [(0, .ref l0), (1, .int l1), (2, .int l2), (3, .int v1), (4, .int l4)] []
        refine zs_iinc (lv2 := fun v3 => [(4, .int v3), (0, .ref l0), (1, .int l1), (2, .int l2), (3, .int v1)]) E dX12_symbol_81 4 rfl (by decide) (by decide) (fun _ => rfl) h (fun v3 h => ?_)
        refine zj_goto (tgt := 5) E dX12_symbol_84 (by decide) ?_
        have e9 := Option.some.inj h
        subst e9
        refine zj_lv [1, 2, 3, 4, 0] rfl ?_
        exact K
def fX12_symbol (σ : zS) (p0 : Nat) (p1 : Int32) (p2 : Int32) : Option (Int32 × zS) := oB (zloop zF (fun x => bX12_symbol_5 p0 p1 p2 x.1 x.2.1 x.2.2) (0, 1, σ)) (fun b2 => oS b2 (fun c2 => (fun σ3 => oPZ σ3 12 p0 18 1 (fun σ4 => some (0, σ4))) c2) (fun r2 => some r2))
set_option maxRecDepth 100000 in
theorem wX12_symbol {Γ : zG} (E : zE Γ cX12_symbol RX12 6 { frames := 1, cells := 0, slots := 0, locals := 23 }) (σ : zS) (p0 : Nat) (p1 : Int32) (p2 : Int32) {R : (Int32 × zS)} (h : fX12_symbol σ p0 p1 p2 = some R) (K : zRet Γ cX12_symbol 6 0 0 (some (.int R.1)) R.2) : zJ Γ 6 0 0 σ 0 [(0, .ref p0), (1, .int p1), (2, .int p2)] [] := by
  unfold fX12_symbol at h
  refine zj_iconst (v := 0) E dX12_symbol_0 (by decide) ?_
  refine zj_istore_n (lv2 := [(3, .int 0), (0, .ref p0), (1, .int p1), (2, .int p2)]) E dX12_symbol_1 rfl (by decide) rfl ?_
  refine zj_iconst (v := 1) E dX12_symbol_2 (by decide) ?_
  refine zj_istore (lv2 := [(4, .int 1), (3, .int 0), (0, .ref p0), (1, .int p1), (2, .int p2)]) E dX12_symbol_3 (by decide) rfl ?_
  obtain ⟨b2, hb2, h⟩ := oB_some h
  refine zj_lv [2, 3, 4, 1, 0] rfl ?_
  refine zj_loop (wX12_symbol_L5 E p0 p1 p2) zF (0, 1, σ) b2 hb2 ?_
  cases b2 with
  | inr r2 =>
    have e9 := Option.some.inj h
    subst e9
    exact K
  | inl c2 =>
    obtain ⟨σ3, rfl⟩ : ∃ z, z = c2 := ⟨_, rfl⟩
    dsimp only [oS] at h
    show zJ Γ 6 0 0 σ3 87 [(0, .ref p0)] []
    refine zj_aload_n E dX12_symbol_87 rfl 0 rfl ?_
    refine zj_iconst (v := 1) E dX12_symbol_88 (by decide) ?_
    refine zs_putZ E zc11 18 (by decide) zw_19_13 rfl rfl dX12_symbol_89 h (fun σ4 h => ?_)
    refine zj_iconst (v := 0) E dX12_symbol_92 (by decide) ?_
    have e9 := Option.some.inj h
    subst e9
    exact (show zRet Γ cX12_symbol 6 0 0 (some (.int 0)) σ4 from K) _ _ dX12_symbol_93
set_option maxRecDepth 100000 in
theorem kX12_symbol (l : Launch) (D : va_G) (cs : zCs) (z0 : Nat) (σ : zS) {p0 : Nat} {p1 : Int32} {p2 : Int32} {r : Int32} {σ' : zS} (h : fX12_symbol σ p0 p1 p2 = some (r, σ')) : zM l D cs z0 yX12_symbol cX12_symbol 6 (some .int) { frames := 1, cells := 0, slots := 0, locals := 23 } [.ref p0, .int p1, .int p2] σ (some (.int r)) σ' 0 0 := by
  exact zM_of (by decide) rfl (Or.inl rfl) (Nat.le_of_ble_eq_true rfl) rfl (fun Γ e1 e2 e3 e4 E hN K => wX12_symbol E σ _ _ _ h K)
