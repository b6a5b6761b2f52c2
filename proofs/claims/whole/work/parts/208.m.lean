/-! X11_words -/
def fX11_words (σ : zS) (p0 : Nat) (p1 : Int32) (p2 : Int32) (p3 : Int32) (p4 : Int32) : Option (Int32 × zS) := oGR σ 11 p0 0 (fun a1 => oA (zk σ a1 = 2) (oB (fX1_fits σ a1 16) (fun x1 => (if x1 = 0 then some ((-14 : Int32), σ) else oGR σ 11 p0 0 (fun a2 => oA (zk σ a2 = 2) (oB (fX1_addNumber σ a2 p1) (fun σ1 => oGR σ1 11 p0 0 (fun a3 => oA (zk σ1 a3 = 2) (oB (fX1_addNumber σ1 a3 p2) (fun σ2 => oGR σ2 11 p0 0 (fun a4 => oA (zk σ2 a4 = 2) (oB (fX1_addNumber σ2 a4 p3) (fun σ3 => oGR σ3 11 p0 0 (fun a5 => oA (zk σ3 a5 = 2) (oB (fX1_addNumber σ3 a5 p4) (fun σ4 => oGR σ4 11 p0 0 (fun a6 => oGI σ4 2 a6 1 (fun x2 => some (x2, σ4)))))))))))))))))))
set_option maxRecDepth 100000 in
theorem wX11_words {Γ : zG} (E : zE Γ cX11_words RX11 5 { frames := 2, cells := 0, slots := 0, locals := 42 }) (σ : zS) (p0 : Nat) (p1 : Int32) (p2 : Int32) (p3 : Int32) (p4 : Int32) {R : (Int32 × zS)} (h : fX11_words σ p0 p1 p2 p3 p4 = some R) (K : zRet Γ cX11_words 5 0 0 (some (.int R.1)) R.2) : zJ Γ 5 0 0 σ 0 [(0, .ref p0), (1, .int p1), (2, .int p2), (3, .int p3), (4, .int p4)] [] := by
  unfold fX11_words at h
  refine zj_aload_n E dX11_words_0 rfl 0 rfl ?_
  refine zs_getR E zc10 0 (by decide) zw_1_19 rfl dX11_words_1 h (fun a1 h => ?_)
  refine zj_bipush (v := 16) E dX11_words_4 (by decide) ?_
  obtain ⟨hk, h⟩ := oA_some h
  obtain ⟨x1, hc, h⟩ := oB_some h
  refine zs_callV (As := [.int 16]) (rest := []) E zc1 zyX1_fits zw_6_20 (kX1_fits _ _ _ _ _ hc) rfl rfl hk rfl ⟨by decide, by decide⟩ ⟨by decide, by decide⟩ (Nat.le_of_ble_eq_true rfl) dX11_words_6 rfl (show zJ Γ 5 0 0 σ 9 [(0, .ref p0), (1, .int p1), (2, .int p2), (3, .int p3), (4, .int p4)] [.int x1] from ?_)
  refine zj_if_ne (tgt := 15) E dX11_words_9 (by decide) h (fun h => ?_) (fun h => ?_)
  · refine zj_aload_n E dX11_words_15 rfl 0 rfl ?_
    refine zs_getR E zc10 0 (by decide) zw_1_19 rfl dX11_words_16 h (fun a2 h => ?_)
    refine zj_iload_n E dX11_words_19 rfl 1 rfl ?_
    obtain ⟨hk, h⟩ := oA_some h
    obtain ⟨σ1, hc, h⟩ := oB_some h
    refine zs_callV (As := [.int p1]) (rest := []) E zc1 zyX1_addNumber zw_7_14 (kX1_addNumber _ _ _ _ _ hc) rfl rfl hk rfl ⟨by decide, by decide⟩ ⟨by decide, by decide⟩ (Nat.le_of_ble_eq_true rfl) dX11_words_20 rfl (show zJ Γ 5 0 0 σ1 23 [(0, .ref p0), (1, .int p1), (2, .int p2), (3, .int p3), (4, .int p4)] [] from ?_)
    refine zj_aload_n E dX11_words_23 rfl 0 rfl ?_
    refine zs_getR E zc10 0 (by decide) zw_1_19 rfl dX11_words_24 h (fun a3 h => ?_)
    refine zj_iload_n E dX11_words_27 rfl 2 rfl ?_
    obtain ⟨hk, h⟩ := oA_some h
    obtain ⟨σ2, hc, h⟩ := oB_some h
    refine zs_callV (As := [.int p2]) (rest := []) E zc1 zyX1_addNumber zw_7_14 (kX1_addNumber _ _ _ _ _ hc) rfl rfl hk rfl ⟨by decide, by decide⟩ ⟨by decide, by decide⟩ (Nat.le_of_ble_eq_true rfl) dX11_words_28 rfl (show zJ Γ 5 0 0 σ2 31 [(0, .ref p0), (1, .int p1), (2, .int p2), (3, .int p3), (4, .int p4)] [] from ?_)
    refine zj_aload_n E dX11_words_31 rfl 0 rfl ?_
    refine zs_getR E zc10 0 (by decide) zw_1_19 rfl dX11_words_32 h (fun a4 h => ?_)
    refine zj_iload_n E dX11_words_35 rfl 3 rfl ?_
    obtain ⟨hk, h⟩ := oA_some h
    obtain ⟨σ3, hc, h⟩ := oB_some h
    refine zs_callV (As := [.int p3]) (rest := []) E zc1 zyX1_addNumber zw_7_14 (kX1_addNumber _ _ _ _ _ hc) rfl rfl hk rfl ⟨by decide, by decide⟩ ⟨by decide, by decide⟩ (Nat.le_of_ble_eq_true rfl) dX11_words_36 rfl (show zJ Γ 5 0 0 σ3 39 [(0, .ref p0), (1, .int p1), (2, .int p2), (3, .int p3), (4, .int p4)] [] from ?_)
    refine zj_aload_n E dX11_words_39 rfl 0 rfl ?_
    refine zs_getR E zc10 0 (by decide) zw_1_19 rfl dX11_words_40 h (fun a5 h => ?_)
    refine zj_iload E dX11_words_43 4 rfl ?_
    obtain ⟨hk, h⟩ := oA_some h
    obtain ⟨σ4, hc, h⟩ := oB_some h
    refine zs_callV (As := [.int p4]) (rest := []) E zc1 zyX1_addNumber zw_7_14 (kX1_addNumber _ _ _ _ _ hc) rfl rfl hk rfl ⟨by decide, by decide⟩ ⟨by decide, by decide⟩ (Nat.le_of_ble_eq_true rfl) dX11_words_45 rfl (show zJ Γ 5 0 0 σ4 48 [(0, .ref p0), (1, .int p1), (2, .int p2), (3, .int p3), (4, .int p4)] [] from ?_)
    refine zj_aload_n E dX11_words_48 rfl 0 rfl ?_
    refine zs_getR E zc10 0 (by decide) zw_1_19 rfl dX11_words_49 h (fun a6 h => ?_)
    refine zs_getIN E zc1 1 (by decide) (znf_5) rfl dX11_words_52 h (fun x2 h => ?_)
    have e9 := Option.some.inj h
    subst e9
    exact (show zRet Γ cX11_words 5 0 0 (some (.int x2)) σ4 from K) _ _ dX11_words_55
  · refine zj_bipush (v := (-14 : Int32)) E dX11_words_12 (by decide) ?_
    have e9 := Option.some.inj h
    subst e9
    exact (show zRet Γ cX11_words 5 0 0 (some (.int (-14 : Int32))) σ from K) _ _ dX11_words_14
set_option maxRecDepth 100000 in
theorem kX11_words (l : Launch) (D : va_G) (cs : zCs) (z0 : Nat) (σ : zS) {p0 : Nat} {p1 : Int32} {p2 : Int32} {p3 : Int32} {p4 : Int32} {r : Int32} {σ' : zS} (h : fX11_words σ p0 p1 p2 p3 p4 = some (r, σ')) : zM l D cs z0 yX11_words cX11_words 5 (some .int) { frames := 2, cells := 0, slots := 0, locals := 42 } [.ref p0, .int p1, .int p2, .int p3, .int p4] σ (some (.int r)) σ' 0 0 := by
  exact zM_of (by decide) rfl (Or.inl rfl) (Nat.le_of_ble_eq_true rfl) rfl (fun Γ e1 e2 e3 e4 E hN K => wX11_words E σ _ _ _ _ _ h K)
/-! X11_read -/
def fX11_read (σ : zS) (p0 : Nat) : Option (Int32 × zS) := oGR σ 11 p0 1 (fun a1 => oA (zk σ a1 = 5) (oC (fX4_run σ a1) (fun x1 σ1 => oGR σ1 11 p0 0 (fun a2 => oA (zk σ1 a2 = 2) (oB (fX1_clear σ1 a2) (fun σ2 => (if x1 = 0 then oPI σ2 11 p0 5 (-1 : Int32) (fun σ3 => oGR σ3 11 p0 1 (fun a3 => oGR σ3 11 p0 4 (fun a4 => oA (zk σ3 a3 = 5) (oC (fX4_exchange σ3 a3 a4) (fun a5 σ4 => oPR σ4 11 p0 4 a5 (fun σ5 => oGR σ5 11 p0 3 (fun a6 => oA (zk σ5 a6 = 7) (oB (fX7_forget σ5 a6) (fun σ6 => oGR σ6 11 p0 4 (fun a7 => oGI σ6 6 a7 7 (fun x2 => some (x2, σ6)))))))))))) else oGR σ2 11 p0 1 (fun a8 => oGI σ2 5 a8 5 (fun x3 => oPI σ2 11 p0 5 x3 (fun σ7 => some ((-x1), σ7)))))))))))
set_option maxRecDepth 100000 in
theorem wX11_read {Γ : zG} (E : zE Γ cX11_read RX11 2 { frames := 7, cells := 0, slots := 0, locals := 172 }) (σ : zS) (p0 : Nat) {R : (Int32 × zS)} (h : fX11_read σ p0 = some R) (K : zRet Γ cX11_read 2 0 0 (some (.int R.1)) R.2) : zJ Γ 2 0 0 σ 0 [(0, .ref p0)] [] := by
  unfold fX11_read at h
  refine zj_aload_n E dX11_read_0 rfl 0 rfl ?_
  refine zs_getR E zc10 1 (by decide) zw_1_23 rfl dX11_read_1 h (fun a1 h => ?_)
  obtain ⟨hk, h⟩ := oA_some h
  obtain ⟨x1, σ1, hc, h⟩ := oC_some h
  refine zs_callV (As := []) (rest := []) E zc4 zyX4_run zw_8_4 (kX4_run _ _ _ _ _ hc) rfl rfl hk rfl ⟨by decide, by decide⟩ ⟨by decide, by decide⟩ (Nat.le_of_ble_eq_true rfl) dX11_read_4 rfl (show zJ Γ 2 0 0 σ1 7 [(0, .ref p0)] [.int x1] from ?_)
  refine zj_istore_n (lv2 := [(1, .int x1), (0, .ref p0)]) E dX11_read_7 rfl (by decide) rfl ?_
  refine zj_aload_n E dX11_read_8 rfl 1 rfl ?_
  refine zs_getR E zc10 0 (by decide) zw_1_19 rfl dX11_read_9 h (fun a2 h => ?_)
  obtain ⟨hk, h⟩ := oA_some h
  obtain ⟨σ2, hc, h⟩ := oB_some h
  refine zs_callV (As := []) (rest := []) E zc1 zyX1_clear zw_17_2 (kX1_clear _ _ _ _ _ hc) rfl rfl hk rfl ⟨by decide, by decide⟩ ⟨by decide, by decide⟩ (Nat.le_of_ble_eq_true rfl) dX11_read_12 rfl (show zJ Γ 2 0 0 σ2 15 [(1, .int x1), (0, .ref p0)] [] from ?_)
  refine zj_iload_n E dX11_read_15 rfl 0 rfl ?_
  refine zj_if_eq (tgt := 33) E dX11_read_16 (by decide) h (fun h => ?_) (fun h => ?_)
  · refine zj_aload_n E dX11_read_33 rfl 1 rfl ?_
    refine zj_iconst (v := (-1 : Int32)) E dX11_read_34 (by decide) ?_
    refine zs_putI E zc10 5 (by decide) zw_2_12 rfl rfl dX11_read_35 h (fun σ3 h => ?_)
    refine zj_aload_n E dX11_read_38 rfl 1 rfl ?_
    refine zj_aload_n E dX11_read_39 rfl 1 rfl ?_
    refine zs_getR E zc10 1 (by decide) zw_1_23 rfl dX11_read_40 h (fun a3 h => ?_)
    refine zj_aload_n E dX11_read_43 rfl 1 rfl ?_
    refine zs_getR E zc10 4 (by decide) zw_2_11 rfl dX11_read_44 h (fun a4 h => ?_)
    obtain ⟨hk, h⟩ := oA_some h
    obtain ⟨a5, σ4, hc, h⟩ := oC_some h
    refine zs_callV (As := [.ref a4]) (rest := [.ref p0]) E zc4 zyX4_exchange zw_17_3 (kX4_exchange _ _ _ _ _ hc) rfl rfl hk rfl ⟨by decide, by decide⟩ ⟨by decide, by decide⟩ (Nat.le_of_ble_eq_true rfl) dX11_read_47 rfl (show zJ Γ 2 0 0 σ4 50 [(1, .int x1), (0, .ref p0)] [.ref a5, .ref p0] from ?_)
    refine zs_putR E zc10 4 (by decide) zw_2_11 rfl rfl dX11_read_50 h (fun σ5 h => ?_)
    refine zj_aload_n E dX11_read_53 rfl 1 rfl ?_
    refine zs_getR E zc10 3 (by decide) zw_2_7 rfl dX11_read_54 h (fun a6 h => ?_)
    obtain ⟨hk, h⟩ := oA_some h
    obtain ⟨σ6, hc, h⟩ := oB_some h
    refine zs_callV (As := []) (rest := []) E zc6 zyX7_forget zw_17_7 (kX7_forget _ _ _ _ _ hc) rfl rfl hk rfl ⟨by decide, by decide⟩ ⟨by decide, by decide⟩ (Nat.le_of_ble_eq_true rfl) dX11_read_57 rfl (show zJ Γ 2 0 0 σ6 60 [(1, .int x1), (0, .ref p0)] [] from ?_)
    refine zj_aload_n E dX11_read_60 rfl 1 rfl ?_
    refine zs_getR E zc10 4 (by decide) zw_2_11 rfl dX11_read_61 h (fun a7 h => ?_)
    refine zs_getIN E zc5 7 (by decide) (znf_57) rfl dX11_read_64 h (fun x2 h => ?_)
    have e9 := Option.some.inj h
    subst e9
    exact (show zRet Γ cX11_read 2 0 0 (some (.int x2)) σ6 from K) _ _ dX11_read_67
  · refine zj_aload_n E dX11_read_19 rfl 1 rfl ?_
    refine zj_aload_n E dX11_read_20 rfl 1 rfl ?_
    refine zs_getR E zc10 1 (by decide) zw_1_23 rfl dX11_read_21 h (fun a8 h => ?_)
    refine zs_getIN E zc4 5 (by decide) (znf_59) rfl dX11_read_24 h (fun x3 h => ?_)
    refine zs_putI E zc10 5 (by decide) zw_2_12 rfl rfl dX11_read_27 h (fun σ7 h => ?_)
    refine zj_iload_n E dX11_read_30 rfl 0 rfl ?_
    refine zj_ineg E dX11_read_31 ?_
    have e9 := Option.some.inj h
    subst e9
    exact (show zRet Γ cX11_read 2 0 0 (some (.int (-x1))) σ7 from K) _ _ dX11_read_32
set_option maxRecDepth 100000 in
theorem kX11_read (l : Launch) (D : va_G) (cs : zCs) (z0 : Nat) (σ : zS) {p0 : Nat} {r : Int32} {σ' : zS} (h : fX11_read σ p0 = some (r, σ')) : zM l D cs z0 yX11_read cX11_read 2 (some .int) { frames := 7, cells := 0, slots := 0, locals := 172 } [.ref p0] σ (some (.int r)) σ' 0 0 := by
  exact zM_of (by decide) rfl (Or.inl rfl) (Nat.le_of_ble_eq_true rfl) rfl (fun Γ e1 e2 e3 e4 E hN K => wX11_read E σ _ h K)
/-! X11_place -/
def fX11_place (σ : zS) (p0 : Nat) : Option Int32 := oGI σ 11 p0 5 (fun x1 => some x1)
set_option maxRecDepth 100000 in
theorem wX11_place {Γ : zG} (E : zE Γ cX11_place RX11 1 { frames := 0, cells := 0, slots := 0, locals := 0 }) (σ : zS) (p0 : Nat) {R : Int32} (h : fX11_place σ p0 = some R) (K : zRet Γ cX11_place 1 0 0 (some (.int R)) σ) : zJ Γ 1 0 0 σ 0 [(0, .ref p0)] [] := by
  unfold fX11_place at h
  refine zj_aload_n E dX11_place_0 rfl 0 rfl ?_
  refine zs_getI E zc10 5 (by decide) zw_2_12 rfl dX11_place_1 h (fun x1 h => ?_)
  have e9 := Option.some.inj h
  subst e9
  exact (show zRet Γ cX11_place 1 0 0 (some (.int x1)) σ from K) _ _ dX11_place_4
set_option maxRecDepth 100000 in
theorem kX11_place (l : Launch) (D : va_G) (cs : zCs) (z0 : Nat) (σ : zS) {p0 : Nat} {r : Int32} (h : fX11_place σ p0 = some r) : zM l D cs z0 yX11_place cX11_place 1 (some .int) { frames := 0, cells := 0, slots := 0, locals := 0 } [.ref p0] σ (some (.int r)) σ 0 0 := by
  exact zM_of (by decide) rfl (Or.inl rfl) (Nat.le_of_ble_eq_true rfl) rfl (fun Γ e1 e2 e3 e4 E hN K => wX11_place E σ _ h K)
/-! X11_begin -/
def fX11_begin (σ : zS) (p0 : Nat) (p1 : Int32) (p2 : Int32) (p3 : Int32) : Option (Int32 × zS) := (if p1 < (1 : Int32) then some ((-12 : Int32), σ) else (if (16 : Int32) < p1 then some ((-12 : Int32), σ) else (if p2 < (1 : Int32) then some ((-12 : Int32), σ) else (if (16 : Int32) < p2 then some ((-12 : Int32), σ) else (if 0 ≤ p3 then oGR σ 11 p0 4 (fun a1 => oA (zk σ a1 = 6) (oB (fX5_start σ a1 p1 p2) (fun σ1 => oGR σ1 11 p0 4 (fun a2 => oPI σ1 6 a2 6 p3 (fun σ2 => oGR σ2 11 p0 4 (fun a3 => oGR σ2 6 a3 1 (fun a4 => oA (zk σ2 a4 = 4) (oB (fX3_clear σ2 a4) (fun σ3 => oGR σ3 11 p0 3 (fun a5 => oA (zk σ3 a5 = 7) (oB (fX7_forget σ3 a5) (fun σ4 => some (1, σ4))))))))))))) else some ((-12 : Int32), σ))))))
set_option maxRecDepth 100000 in
theorem wX11_begin {Γ : zG} (E : zE Γ cX11_begin RX11 4 { frames := 2, cells := 0, slots := 0, locals := 43 }) (σ : zS) (p0 : Nat) (p1 : Int32) (p2 : Int32) (p3 : Int32) {R : (Int32 × zS)} (h : fX11_begin σ p0 p1 p2 p3 = some R) (K : zRet Γ cX11_begin 4 0 0 (some (.int R.1)) R.2) : zJ Γ 4 0 0 σ 0 [(0, .ref p0), (1, .int p1), (2, .int p2), (3, .int p3)] [] := by
  unfold fX11_begin at h
  refine zj_iload_n E dX11_begin_0 rfl 1 rfl ?_
  refine zj_iconst (v := 1) E dX11_begin_1 (by decide) ?_
  refine zj_icmp_lt (tgt := 26) E dX11_begin_2 (by decide) h (fun h => ?_) (fun h => ?_)
  · refine zj_bipush (v := (-12 : Int32)) E dX11_begin_26 (by decide) ?_
    have e9 := Option.some.inj h
    subst e9
    exact (show zRet Γ cX11_begin 4 0 0 (some (.int (-12 : Int32))) σ from K) _ _ dX11_begin_28
  · refine zj_iload_n E dX11_begin_5 rfl 1 rfl ?_
    refine zj_bipush (v := 16) E dX11_begin_6 (by decide) ?_
    refine zj_icmp_gt (tgt := 26) E dX11_begin_8 (by decide) h (fun h => ?_) (fun h => ?_)
    · refine zj_bipush (v := (-12 : Int32)) E dX11_begin_26 (by decide) ?_
      have e9 := Option.some.inj h
      subst e9
      exact (show zRet Γ cX11_begin 4 0 0 (some (.int (-12 : Int32))) σ from K) _ _ dX11_begin_28
    · refine zj_iload_n E dX11_begin_11 rfl 2 rfl ?_
      refine zj_iconst (v := 1) E dX11_begin_12 (by decide) ?_
      refine zj_icmp_lt (tgt := 26) E dX11_begin_13 (by decide) h (fun h => ?_) (fun h => ?_)
      · refine zj_bipush (v := (-12 : Int32)) E dX11_begin_26 (by decide) ?_
        have e9 := Option.some.inj h
        subst e9
        exact (show zRet Γ cX11_begin 4 0 0 (some (.int (-12 : Int32))) σ from K) _ _ dX11_begin_28
      · refine zj_iload_n E dX11_begin_16 rfl 2 rfl ?_
        refine zj_bipush (v := 16) E dX11_begin_17 (by decide) ?_
        refine zj_icmp_gt (tgt := 26) E dX11_begin_19 (by decide) h (fun h => ?_) (fun h => ?_)
        · refine zj_bipush (v := (-12 : Int32)) E dX11_begin_26 (by decide) ?_
          have e9 := Option.some.inj h
          subst e9
          exact (show zRet Γ cX11_begin 4 0 0 (some (.int (-12 : Int32))) σ from K) _ _ dX11_begin_28
        · refine zj_iload_n E dX11_begin_22 rfl 3 rfl ?_
          refine zj_if_ge (tgt := 29) E dX11_begin_23 (by decide) h (fun h => ?_) (fun h => ?_)
          · refine zj_aload_n E dX11_begin_29 rfl 0 rfl ?_
            refine zs_getR E zc10 4 (by decide) zw_2_11 rfl dX11_begin_30 h (fun a1 h => ?_)
            refine zj_iload_n E dX11_begin_33 rfl 1 rfl ?_
            refine zj_iload_n E dX11_begin_34 rfl 2 rfl ?_
            obtain ⟨hk, h⟩ := oA_some h
            obtain ⟨σ1, hc, h⟩ := oB_some h
            refine zs_callV (As := [.int p1, .int p2]) (rest := []) E zc5 zyX5_start zw_24_7 (kX5_start _ _ _ _ _ hc) rfl rfl hk rfl ⟨by decide, by decide⟩ ⟨by decide, by decide⟩ (Nat.le_of_ble_eq_true rfl) dX11_begin_35 rfl (show zJ Γ 4 0 0 σ1 38 [(0, .ref p0), (1, .int p1), (2, .int p2), (3, .int p3)] [] from ?_)
            refine zj_aload_n E dX11_begin_38 rfl 0 rfl ?_
            refine zs_getR E zc10 4 (by decide) zw_2_11 rfl dX11_begin_39 h (fun a2 h => ?_)
            refine zj_iload_n E dX11_begin_42 rfl 3 rfl ?_
            refine zs_putIN E zc5 6 (by decide) (znf_54) rfl rfl dX11_begin_43 h (fun σ2 h => ?_)
            refine zj_aload_n E dX11_begin_46 rfl 0 rfl ?_
            refine zs_getR E zc10 4 (by decide) zw_2_11 rfl dX11_begin_47 h (fun a3 h => ?_)
            refine zs_getRN E zc5 1 (by decide) (znf_44) rfl dX11_begin_50 h (fun a4 h => ?_)
            obtain ⟨hk, h⟩ := oA_some h
            obtain ⟨σ3, hc, h⟩ := oB_some h
            refine zs_callV (As := []) (rest := []) E zc3 zyX3_clear zw_24_8 (kX3_clear _ _ _ _ _ hc) rfl rfl hk rfl ⟨by decide, by decide⟩ ⟨by decide, by decide⟩ (Nat.le_of_ble_eq_true rfl) dX11_begin_53 rfl (show zJ Γ 4 0 0 σ3 56 [(0, .ref p0), (1, .int p1), (2, .int p2), (3, .int p3)] [] from ?_)
            refine zj_aload_n E dX11_begin_56 rfl 0 rfl ?_
            refine zs_getR E zc10 3 (by decide) zw_2_7 rfl dX11_begin_57 h (fun a5 h => ?_)
            obtain ⟨hk, h⟩ := oA_some h
            obtain ⟨σ4, hc, h⟩ := oB_some h
            refine zs_callV (As := []) (rest := []) E zc6 zyX7_forget zw_17_7 (kX7_forget _ _ _ _ _ hc) rfl rfl hk rfl ⟨by decide, by decide⟩ ⟨by decide, by decide⟩ (Nat.le_of_ble_eq_true rfl) dX11_begin_60 rfl (show zJ Γ 4 0 0 σ4 63 [(0, .ref p0), (1, .int p1), (2, .int p2), (3, .int p3)] [] from ?_)
            refine zj_iconst (v := 1) E dX11_begin_63 (by decide) ?_
            have e9 := Option.some.inj h
            subst e9
            exact (show zRet Γ cX11_begin 4 0 0 (some (.int 1)) σ4 from K) _ _ dX11_begin_64
          · refine zj_bipush (v := (-12 : Int32)) E dX11_begin_26 (by decide) ?_
            have e9 := Option.some.inj h
            subst e9
            exact (show zRet Γ cX11_begin 4 0 0 (some (.int (-12 : Int32))) σ from K) _ _ dX11_begin_28
set_option maxRecDepth 100000 in
theorem kX11_begin (l : Launch) (D : va_G) (cs : zCs) (z0 : Nat) (σ : zS) {p0 : Nat} {p1 : Int32} {p2 : Int32} {p3 : Int32} {r : Int32} {σ' : zS} (h : fX11_begin σ p0 p1 p2 p3 = some (r, σ')) : zM l D cs z0 yX11_begin cX11_begin 4 (some .int) { frames := 2, cells := 0, slots := 0, locals := 43 } [.ref p0, .int p1, .int p2, .int p3] σ (some (.int r)) σ' 0 0 := by
  exact zM_of (by decide) rfl (Or.inl rfl) (Nat.le_of_ble_eq_true rfl) rfl (fun Γ e1 e2 e3 e4 E hN K => wX11_begin E σ _ _ _ _ h K)
/-! X11_frame -/
def fX11_frame (σ : zS) (p0 : Nat) (p1 : Int32) (p2 : Int32) (p3 : Int32) (p4 : Int32) (p5 : Int32) (p6 : Int32) : Option (Int32 × zS) := oGR σ 11 p0 4 (fun a1 => oGI σ 6 a1 2 (fun x1 => (if x1 = 0 then some ((-13 : Int32), σ) else oGR σ 11 p0 4 (fun a2 => oA (zk σ a2 = 6) (oB (fX5_allows σ a2 p1 p2 p3 p4 p5 p6) (fun x2 => (if x2 = 0 then some ((-12 : Int32), σ) else oGR σ 11 p0 4 (fun a3 => oGI σ 6 a3 7 (fun x3 => (if x3 < (8 : Int32) then oGR σ 11 p0 4 (fun a4 => oA (zk σ a4 = 6) (oB (fX5_add σ a4 p1 p2 p3 p4 p5 p6) (fun σ1 => oGR σ1 11 p0 4 (fun a5 => oGR σ1 6 a5 0 (fun a6 => oGR σ1 11 p0 4 (fun a7 => oGI σ1 6 a7 7 (fun x4 => oLr σ1 a6 (x4 - (1 : Int32)) (fun a8 => oA (zk σ1 a8 = 4) (oB (fX3_clear σ1 a8) (fun σ2 => oGR σ2 11 p0 3 (fun a9 => oA (zk σ2 a9 = 7) (oB (fX7_forget σ2 a9) (fun σ3 => oGR σ3 11 p0 4 (fun a10 => oGI σ3 6 a10 7 (fun x5 => some (x5, σ3)))))))))))))))) else some ((-14 : Int32), σ)))))))))))
set_option maxRecDepth 100000 in
theorem wX11_frame {Γ : zG} (E : zE Γ cX11_frame RX11 7 { frames := 2, cells := 0, slots := 0, locals := 43 }) (σ : zS) (p0 : Nat) (p1 : Int32) (p2 : Int32) (p3 : Int32) (p4 : Int32) (p5 : Int32) (p6 : Int32) {R : (Int32 × zS)} (h : fX11_frame σ p0 p1 p2 p3 p4 p5 p6 = some R) (K : zRet Γ cX11_frame 7 0 0 (some (.int R.1)) R.2) : zJ Γ 7 0 0 σ 0 [(0, .ref p0), (1, .int p1), (2, .int p2), (3, .int p3), (4, .int p4), (5, .int p5), (6, .int p6)] [] := by
  unfold fX11_frame at h
  refine zj_aload_n E dX11_frame_0 rfl 0 rfl ?_
  refine zs_getR E zc10 4 (by decide) zw_2_11 rfl dX11_frame_1 h (fun a1 h => ?_)
  refine zs_getIN E zc5 2 (by decide) (znf_45) rfl dX11_frame_4 h (fun x1 h => ?_)
  refine zj_if_ne (tgt := 13) E dX11_frame_7 (by decide) h (fun h => ?_) (fun h => ?_)
  · refine zj_aload_n E dX11_frame_13 rfl 0 rfl ?_
    refine zs_getR E zc10 4 (by decide) zw_2_11 rfl dX11_frame_14 h (fun a2 h => ?_)
    refine zj_iload_n E dX11_frame_17 rfl 1 rfl ?_
    refine zj_iload_n E dX11_frame_18 rfl 2 rfl ?_
    refine zj_iload_n E dX11_frame_19 rfl 3 rfl ?_
    refine zj_iload E dX11_frame_20 4 rfl ?_
    refine zj_iload E dX11_frame_22 5 rfl ?_
    refine zj_iload E dX11_frame_24 6 rfl ?_
    obtain ⟨hk, h⟩ := oA_some h
    obtain ⟨x2, hc, h⟩ := oB_some h
    refine zs_callV (As := [.int p1, .int p2, .int p3, .int p4, .int p5, .int p6]) (rest := []) E zc5 zyX5_allows zw_25_1 (kX5_allows _ _ _ _ _ hc) rfl rfl hk rfl ⟨by decide, by decide⟩ ⟨by decide, by decide⟩ (Nat.le_of_ble_eq_true rfl) dX11_frame_26 rfl (show zJ Γ 7 0 0 σ 29 [(0, .ref p0), (1, .int p1), (2, .int p2), (3, .int p3), (4, .int p4), (5, .int p5), (6, .int p6)] [.int x2] from ?_)
    refine zj_if_ne (tgt := 35) E dX11_frame_29 (by decide) h (fun h => ?_) (fun h => ?_)
    · refine zj_aload_n E dX11_frame_35 rfl 0 rfl ?_
      refine zs_getR E zc10 4 (by decide) zw_2_11 rfl dX11_frame_36 h (fun a3 h => ?_)
      refine zs_getIN E zc5 7 (by decide) (znf_57) rfl dX11_frame_39 h (fun x3 h => ?_)
      refine zj_bipush (v := 8) E dX11_frame_42 (by decide) ?_
      refine zj_icmp_lt (tgt := 50) E dX11_frame_44 (by decide) h (fun h => ?_) (fun h => ?_)
      · refine zj_aload_n E dX11_frame_50 rfl 0 rfl ?_
        refine zs_getR E zc10 4 (by decide) zw_2_11 rfl dX11_frame_51 h (fun a4 h => ?_)
        refine zj_iload_n E dX11_frame_54 rfl 1 rfl ?_
        refine zj_iload_n E dX11_frame_55 rfl 2 rfl ?_
        refine zj_iload_n E dX11_frame_56 rfl 3 rfl ?_
        refine zj_iload E dX11_frame_57 4 rfl ?_
        refine zj_iload E dX11_frame_59 5 rfl ?_
        refine zj_iload E dX11_frame_61 6 rfl ?_
        obtain ⟨hk, h⟩ := oA_some h
        obtain ⟨σ1, hc, h⟩ := oB_some h
        refine zs_callV (As := [.int p1, .int p2, .int p3, .int p4, .int p5, .int p6]) (rest := []) E zc5 zyX5_add zw_25_2 (kX5_add _ _ _ _ _ hc) rfl rfl hk rfl ⟨by decide, by decide⟩ ⟨by decide, by decide⟩ (Nat.le_of_ble_eq_true rfl) dX11_frame_63 rfl (show zJ Γ 7 0 0 σ1 66 [(0, .ref p0), (1, .int p1), (2, .int p2), (3, .int p3), (4, .int p4), (5, .int p5), (6, .int p6)] [] from ?_)
        refine zj_aload_n E dX11_frame_66 rfl 0 rfl ?_
        refine zs_getR E zc10 4 (by decide) zw_2_11 rfl dX11_frame_67 h (fun a5 h => ?_)
        refine zs_getRN E zc5 0 (by decide) (znf_41) rfl dX11_frame_70 h (fun a6 h => ?_)
        refine zj_aload_n E dX11_frame_73 rfl 0 rfl ?_
        refine zs_getR E zc10 4 (by decide) zw_2_11 rfl dX11_frame_74 h (fun a7 h => ?_)
        refine zs_getIN E zc5 7 (by decide) (znf_57) rfl dX11_frame_77 h (fun x4 h => ?_)
        refine zj_iconst (v := 1) E dX11_frame_80 (by decide) ?_
        refine zj_isub E dX11_frame_81 ?_
        refine zs_aald E dX11_frame_82 h (fun a8 h => ?_)
        obtain ⟨hk, h⟩ := oA_some h
        obtain ⟨σ2, hc, h⟩ := oB_some h
        refine zs_callV (As := []) (rest := []) E zc3 zyX3_clear zw_24_8 (kX3_clear _ _ _ _ _ hc) rfl rfl hk rfl ⟨by decide, by decide⟩ ⟨by decide, by decide⟩ (Nat.le_of_ble_eq_true rfl) dX11_frame_83 rfl (show zJ Γ 7 0 0 σ2 86 [(0, .ref p0), (1, .int p1), (2, .int p2), (3, .int p3), (4, .int p4), (5, .int p5), (6, .int p6)] [] from ?_)
        refine zj_aload_n E dX11_frame_86 rfl 0 rfl ?_
        refine zs_getR E zc10 3 (by decide) zw_2_7 rfl dX11_frame_87 h (fun a9 h => ?_)
        obtain ⟨hk, h⟩ := oA_some h
        obtain ⟨σ3, hc, h⟩ := oB_some h
        refine zs_callV (As := []) (rest := []) E zc6 zyX7_forget zw_17_7 (kX7_forget _ _ _ _ _ hc) rfl rfl hk rfl ⟨by decide, by decide⟩ ⟨by decide, by decide⟩ (Nat.le_of_ble_eq_true rfl) dX11_frame_90 rfl (show zJ Γ 7 0 0 σ3 93 [(0, .ref p0), (1, .int p1), (2, .int p2), (3, .int p3), (4, .int p4), (5, .int p5), (6, .int p6)] [] from ?_)
        refine zj_aload_n E dX11_frame_93 rfl 0 rfl ?_
        refine zs_getR E zc10 4 (by decide) zw_2_11 rfl dX11_frame_94 h (fun a10 h => ?_)
        refine zs_getIN E zc5 7 (by decide) (znf_57) rfl dX11_frame_97 h (fun x5 h => ?_)
        have e9 := Option.some.inj h
        subst e9
        exact (show zRet Γ cX11_frame 7 0 0 (some (.int x5)) σ3 from K) _ _ dX11_frame_100
      · refine zj_bipush (v := (-14 : Int32)) E dX11_frame_47 (by decide) ?_
        have e9 := Option.some.inj h
        subst e9
        exact (show zRet Γ cX11_frame 7 0 0 (some (.int (-14 : Int32))) σ from K) _ _ dX11_frame_49
    · refine zj_bipush (v := (-12 : Int32)) E dX11_frame_32 (by decide) ?_
      have e9 := Option.some.inj h
      subst e9
      exact (show zRet Γ cX11_frame 7 0 0 (some (.int (-12 : Int32))) σ from K) _ _ dX11_frame_34
  · refine zj_bipush (v := (-13 : Int32)) E dX11_frame_10 (by decide) ?_
    have e9 := Option.some.inj h
    subst e9
    exact (show zRet Γ cX11_frame 7 0 0 (some (.int (-13 : Int32))) σ from K) _ _ dX11_frame_12
set_option maxRecDepth 100000 in
theorem kX11_frame (l : Launch) (D : va_G) (cs : zCs) (z0 : Nat) (σ : zS) {p0 : Nat} {p1 : Int32} {p2 : Int32} {p3 : Int32} {p4 : Int32} {p5 : Int32} {p6 : Int32} {r : Int32} {σ' : zS} (h : fX11_frame σ p0 p1 p2 p3 p4 p5 p6 = some (r, σ')) : zM l D cs z0 yX11_frame cX11_frame 7 (some .int) { frames := 2, cells := 0, slots := 0, locals := 43 } [.ref p0, .int p1, .int p2, .int p3, .int p4, .int p5, .int p6] σ (some (.int r)) σ' 0 0 := by
  exact zM_of (by decide) rfl (Or.inl rfl) (Nat.le_of_ble_eq_true rfl) rfl (fun Γ e1 e2 e3 e4 E hN K => wX11_frame E σ _ _ _ _ _ _ _ h K)
/-! X11_paintable -/
def fX11_paintable_56 (σ : zS) : Option (Option Nat) := some none
set_option maxRecDepth 100000 in
theorem wX11_paintable_56 {Γ : zG} (E : zE Γ cX11_paintable RX11 2 { frames := 1, cells := 0, slots := 0, locals := 21 }) (σ : zS) {R : Option Nat} (h : fX11_paintable_56 σ = some R) (K : zRet Γ cX11_paintable 2 0 0 (some (va_rf R)) σ) : zJ Γ 2 0 0 σ 56 [] [] := by
  unfold fX11_paintable_56 at h
  refine zj_null E dX11_paintable_56 ?_
  have e9 := Option.some.inj h
  subst e9
  exact (show zRet Γ cX11_paintable 2 0 0 (some (va_rf none)) σ from K) _ _ (zretq _ dX11_paintable_57)
def fX11_paintable (σ : zS) (p0 : Nat) (p1 : Int32) : Option (Option Nat) := oGR σ 11 p0 4 (fun a1 => oA (zk σ a1 = 6) (oB (fX5_hasFrame σ a1 p1) (fun x1 => (if x1 = 0 then (if p1 = (-1 : Int32) then oGR σ 11 p0 4 (fun a2 => oGI σ 6 a2 2 (fun x2 => (if x2 = 0 then fX11_paintable_56 σ else oGR σ 11 p0 4 (fun a3 => oGI σ 6 a3 3 (fun x3 => (if x3 = 0 then oGR σ 11 p0 4 (fun a4 => oGR σ 6 a4 1 (fun a5 => some (some a5))) else fX11_paintable_56 σ)))))) else fX11_paintable_56 σ) else oGR σ 11 p0 4 (fun a6 => oGR σ 6 a6 0 (fun a7 => oLr σ a7 p1 (fun a8 => some (some a8))))))))
set_option maxRecDepth 100000 in
theorem wX11_paintable {Γ : zG} (E : zE Γ cX11_paintable RX11 2 { frames := 1, cells := 0, slots := 0, locals := 21 }) (σ : zS) (p0 : Nat) (p1 : Int32) {R : Option Nat} (h : fX11_paintable σ p0 p1 = some R) (K : zRet Γ cX11_paintable 2 0 0 (some (va_rf R)) σ) : zJ Γ 2 0 0 σ 0 [(0, .ref p0), (1, .int p1)] [] := by
  unfold fX11_paintable at h
  refine zj_aload_n E dX11_paintable_0 rfl 0 rfl ?_
  refine zs_getR E zc10 4 (by decide) zw_2_11 rfl dX11_paintable_1 h (fun a1 h => ?_)
  refine zj_iload_n E dX11_paintable_4 rfl 1 rfl ?_
  obtain ⟨hk, h⟩ := oA_some h
  obtain ⟨x1, hc, h⟩ := oB_some h
  refine zs_callV (As := [.int p1]) (rest := []) E zc5 zyX5_hasFrame zw_25_15 (kX5_hasFrame _ _ _ _ _ hc) rfl rfl hk rfl ⟨by decide, by decide⟩ ⟨by decide, by decide⟩ (Nat.le_of_ble_eq_true rfl) dX11_paintable_5 rfl (show zJ Γ 2 0 0 σ 8 [(0, .ref p0), (1, .int p1)] [.int x1] from ?_)
  refine zj_if_eq (tgt := 21) E dX11_paintable_8 (by decide) h (fun h => ?_) (fun h => ?_)
  · refine zj_iload_n E dX11_paintable_21 rfl 1 rfl ?_
    refine zj_iconst (v := (-1 : Int32)) E dX11_paintable_22 (by decide) ?_
    refine zj_icmp_ne (tgt := 56) E dX11_paintable_23 (by decide) h (fun h => ?_) (fun h => ?_)
    · refine zj_lv [] rfl ?_
      exact wX11_paintable_56 E _ h K
    · refine zj_aload_n E dX11_paintable_26 rfl 0 rfl ?_
      refine zs_getR E zc10 4 (by decide) zw_2_11 rfl dX11_paintable_27 h (fun a2 h => ?_)
      refine zs_getIN E zc5 2 (by decide) (znf_45) rfl dX11_paintable_30 h (fun x2 h => ?_)
      refine zj_if_eq (tgt := 56) E dX11_paintable_33 (by decide) h (fun h => ?_) (fun h => ?_)
      · refine zj_lv [] rfl ?_
        exact wX11_paintable_56 E _ h K
      · refine zj_aload_n E dX11_paintable_36 rfl 0 rfl ?_
        refine zs_getR E zc10 4 (by decide) zw_2_11 rfl dX11_paintable_37 h (fun a3 h => ?_)
        refine zs_getIN E zc5 3 (by decide) (znf_47) rfl dX11_paintable_40 h (fun x3 h => ?_)
        refine zj_if_ne (tgt := 56) E dX11_paintable_43 (by decide) h (fun h => ?_) (fun h => ?_)
        · refine zj_lv [] rfl ?_
          exact wX11_paintable_56 E _ h K
        · refine zj_aload_n E dX11_paintable_46 rfl 0 rfl ?_
          refine zs_getR E zc10 4 (by decide) zw_2_11 rfl dX11_paintable_47 h (fun a4 h => ?_)
          refine zs_getRN E zc5 1 (by decide) (znf_44) rfl dX11_paintable_50 h (fun a5 h => ?_)
          refine zj_goto (tgt := 57) E dX11_paintable_53 (by decide) ?_
          have e9 := Option.some.inj h
          subst e9
          exact (show zRet Γ cX11_paintable 2 0 0 (some (va_rf (some a5))) σ from K) _ _ (zretq _ dX11_paintable_57)
  · refine zj_aload_n E dX11_paintable_11 rfl 0 rfl ?_
    refine zs_getR E zc10 4 (by decide) zw_2_11 rfl dX11_paintable_12 h (fun a6 h => ?_)
    refine zs_getRN E zc5 0 (by decide) (znf_41) rfl dX11_paintable_15 h (fun a7 h => ?_)
    refine zj_iload_n E dX11_paintable_18 rfl 1 rfl ?_
    refine zs_aald E dX11_paintable_19 h (fun a8 h => ?_)
    have e9 := Option.some.inj h
    subst e9
    exact (show zRet Γ cX11_paintable 2 0 0 (some (va_rf (some a8))) σ from K) _ _ (zretq _ dX11_paintable_20)
set_option maxRecDepth 100000 in
theorem kX11_paintable (l : Launch) (D : va_G) (cs : zCs) (z0 : Nat) (σ : zS) {p0 : Nat} {p1 : Int32} {r : Option Nat} (h : fX11_paintable σ p0 p1 = some r) : zM l D cs z0 yX11_paintable cX11_paintable 2 (some (.object "FrameReel$Picture")) { frames := 1, cells := 0, slots := 0, locals := 21 } [.ref p0, .int p1] σ (some (va_rf r)) σ 0 0 := by
  exact zM_of (by decide) rfl (zvtq _ _) (Nat.le_of_ble_eq_true rfl) rfl (fun Γ e1 e2 e3 e4 E hN K => wX11_paintable E σ _ _ h K)
/-! X11_paint -/
def fX11_paint (σ : zS) (p0 : Nat) (p1 : Int32) (p2 : Int32) (p3 : Int32) (p4 : Int32) : Option (Int32 × zS) := oA (zk σ p0 = 11) (oB (fX11_paintable σ p0 p1) (fun a1 => (oN a1 (some ((-11 : Int32), σ)) (fun a2 => (if p2 < 0 then some ((-12 : Int32), σ) else oGI σ 4 a2 1 (fun x1 => (if x1 ≤ p2 then some ((-12 : Int32), σ) else (if p3 < 0 then some ((-12 : Int32), σ) else oGI σ 4 a2 2 (fun x2 => (if p3 < x2 then oGR σ 4 a2 0 (fun a3 => oGI σ 4 a2 1 (fun x3 => oSt σ 21 a3 ((p3 * x3) + p2) p4 (fun σ1 => oGR σ1 11 p0 3 (fun a4 => oA (zk σ1 a4 = 7) (oB (fX7_forget σ1 a4) (fun σ2 => some (1, σ2))))))) else some ((-12 : Int32), σ)))))))))))
set_option maxRecDepth 100000 in
theorem wX11_paint {Γ : zG} (E : zE Γ cX11_paint RX11 6 { frames := 2, cells := 0, slots := 0, locals := 42 }) (σ : zS) (p0 : Nat) (p1 : Int32) (p2 : Int32) (p3 : Int32) (p4 : Int32) {R : (Int32 × zS)} (h : fX11_paint σ p0 p1 p2 p3 p4 = some R) (K : zRet Γ cX11_paint 6 0 0 (some (.int R.1)) R.2) : zJ Γ 6 0 0 σ 0 [(0, .ref p0), (1, .int p1), (2, .int p2), (3, .int p3), (4, .int p4)] [] := by
  unfold fX11_paint at h
  refine zj_aload_n E dX11_paint_0 rfl 0 rfl ?_
  refine zj_iload_n E dX11_paint_1 rfl 1 rfl ?_
  obtain ⟨hk, h⟩ := oA_some h
  obtain ⟨a1, hc, h⟩ := oB_some h
  refine zs_callV (As := [.int p1]) (rest := []) E zc10 zyX11_paintable zw_25_11 (kX11_paintable _ _ _ _ _ hc) rfl rfl hk rfl ⟨by decide, by decide⟩ ⟨by decide, by decide⟩ (Nat.le_of_ble_eq_true rfl) dX11_paint_2 rfl (show zJ Γ 6 0 0 σ 5 [(0, .ref p0), (1, .int p1), (2, .int p2), (3, .int p3), (4, .int p4)] [va_rf a1] from ?_)
  refine zj_astoreQ (lv2 := [(5, va_rf a1), (0, .ref p0), (1, .int p1), (2, .int p2), (3, .int p3), (4, .int p4)]) E dX11_paint_5 (by decide) rfl ?_
  refine zj_aloadQ E dX11_paint_7 0 rfl ?_
  refine zs_nonnull (tgt := 15) E dX11_paint_9 (by decide) h (fun e h => ?_) (fun a2 e h => ?_)
  · subst e
    refine zj_bipush (v := (-11 : Int32)) E dX11_paint_12 (by decide) ?_
    have e9 := Option.some.inj h
    subst e9
    exact (show zRet Γ cX11_paint 6 0 0 (some (.int (-11 : Int32))) σ from K) _ _ dX11_paint_14
  · subst e
    refine zj_iload_n E dX11_paint_15 rfl 3 rfl ?_
    refine zj_if_lt (tgt := 41) E dX11_paint_16 (by decide) h (fun h => ?_) (fun h => ?_)
    · refine zj_bipush (v := (-12 : Int32)) E dX11_paint_41 (by decide) ?_
      have e9 := Option.some.inj h
      subst e9
      exact (show zRet Γ cX11_paint 6 0 0 (some (.int (-12 : Int32))) σ from K) _ _ dX11_paint_43
    · refine zj_iload_n E dX11_paint_19 rfl 3 rfl ?_
      refine zj_aload E dX11_paint_20 0 rfl ?_
      refine zs_getIN E zc3 1 (by decide) (znf_21) rfl dX11_paint_22 h (fun x1 h => ?_)
      refine zj_icmp_ge (tgt := 41) E dX11_paint_25 (by decide) h (fun h => ?_) (fun h => ?_)
      · refine zj_bipush (v := (-12 : Int32)) E dX11_paint_41 (by decide) ?_
        have e9 := Option.some.inj h
        subst e9
        exact (show zRet Γ cX11_paint 6 0 0 (some (.int (-12 : Int32))) σ from K) _ _ dX11_paint_43
      · refine zj_iload_n E dX11_paint_28 rfl 4 rfl ?_
        refine zj_if_lt (tgt := 41) E dX11_paint_29 (by decide) h (fun h => ?_) (fun h => ?_)
        · refine zj_bipush (v := (-12 : Int32)) E dX11_paint_41 (by decide) ?_
          have e9 := Option.some.inj h
          subst e9
          exact (show zRet Γ cX11_paint 6 0 0 (some (.int (-12 : Int32))) σ from K) _ _ dX11_paint_43
        · refine zj_iload_n E dX11_paint_32 rfl 4 rfl ?_
          refine zj_aload E dX11_paint_33 0 rfl ?_
          refine zs_getIN E zc3 2 (by decide) (znf_26) rfl dX11_paint_35 h (fun x2 h => ?_)
          refine zj_icmp_lt (tgt := 44) E dX11_paint_38 (by decide) h (fun h => ?_) (fun h => ?_)
          · refine zj_aload E dX11_paint_44 0 rfl ?_
            refine zs_getRN E zc3 0 (by decide) (znf_15) rfl dX11_paint_46 h (fun a3 h => ?_)
            refine zj_iload_n E dX11_paint_49 rfl 4 rfl ?_
            refine zj_aload E dX11_paint_50 0 rfl ?_
            refine zs_getIN E zc3 1 (by decide) (znf_21) rfl dX11_paint_52 h (fun x3 h => ?_)
            refine zj_imul E dX11_paint_55 ?_
            refine zj_iload_n E dX11_paint_56 rfl 3 rfl ?_
            refine zj_iadd E dX11_paint_57 ?_
            refine zj_iload E dX11_paint_58 5 rfl ?_
            refine zs_iast E dX11_paint_60 h (fun σ1 h => ?_)
            refine zj_aload_n E dX11_paint_61 rfl 1 rfl ?_
            refine zs_getR E zc10 3 (by decide) zw_2_7 rfl dX11_paint_62 h (fun a4 h => ?_)
            obtain ⟨hk, h⟩ := oA_some h
            obtain ⟨σ2, hc, h⟩ := oB_some h
            refine zs_callV (As := []) (rest := []) E zc6 zyX7_forget zw_17_7 (kX7_forget _ _ _ _ _ hc) rfl rfl hk rfl ⟨by decide, by decide⟩ ⟨by decide, by decide⟩ (Nat.le_of_ble_eq_true rfl) dX11_paint_65 rfl (show zJ Γ 6 0 0 σ2 68 [(5, .ref a2), (0, .ref p0), (1, .int p1), (2, .int p2), (3, .int p3), (4, .int p4)] [] from ?_)
            refine zj_iconst (v := 1) E dX11_paint_68 (by decide) ?_
            have e9 := Option.some.inj h
            subst e9
            exact (show zRet Γ cX11_paint 6 0 0 (some (.int 1)) σ2 from K) _ _ dX11_paint_69
          · refine zj_bipush (v := (-12 : Int32)) E dX11_paint_41 (by decide) ?_
            have e9 := Option.some.inj h
            subst e9
            exact (show zRet Γ cX11_paint 6 0 0 (some (.int (-12 : Int32))) σ from K) _ _ dX11_paint_43
set_option maxRecDepth 100000 in
theorem kX11_paint (l : Launch) (D : va_G) (cs : zCs) (z0 : Nat) (σ : zS) {p0 : Nat} {p1 : Int32} {p2 : Int32} {p3 : Int32} {p4 : Int32} {r : Int32} {σ' : zS} (h : fX11_paint σ p0 p1 p2 p3 p4 = some (r, σ')) : zM l D cs z0 yX11_paint cX11_paint 6 (some .int) { frames := 2, cells := 0, slots := 0, locals := 42 } [.ref p0, .int p1, .int p2, .int p3, .int p4] σ (some (.int r)) σ' 0 0 := by
  exact zM_of (by decide) rfl (Or.inl rfl) (Nat.le_of_ble_eq_true rfl) rfl (fun Γ e1 e2 e3 e4 E hN K => wX11_paint E σ _ _ _ _ _ h K)
/-! X11_first -/
def fX11_first_27 (σ : zS) (l0 : Nat) (l1 : Int32) : Option (Int32 × zS) := oGR σ 11 l0 4 (fun a2 => oGI σ 6 a2 3 (fun x2 => (if x2 = l1 then some (0, σ) else oGR σ 11 l0 4 (fun a3 => oPZ σ 6 a3 3 l1 (fun σ1 => oGR σ1 11 l0 4 (fun a4 => oGR σ1 6 a4 1 (fun a5 => oA (zk σ1 a5 = 4) (oB (fX3_clear σ1 a5) (fun σ2 => oGR σ2 11 l0 3 (fun a6 => oA (zk σ2 a6 = 7) (oB (fX7_forget σ2 a6) (fun σ3 => some (1, σ3)))))))))))))
set_option maxRecDepth 100000 in
theorem wX11_first_27 {Γ : zG} (E : zE Γ cX11_first RX11 2 { frames := 2, cells := 0, slots := 0, locals := 43 }) (σ : zS) (l0 : Nat) (l1 : Int32) {R : (Int32 × zS)} (h : fX11_first_27 σ l0 l1 = some R) (K : zRet Γ cX11_first 2 0 0 (some (.int R.1)) R.2) : zJ Γ 2 0 0 σ 27 [(0, .ref l0), (1, .int l1)] [] := by
  unfold fX11_first_27 at h
  refine zj_aload_n E dX11_first_27 rfl 0 rfl ?_
  refine zs_getR E zc10 4 (by decide) zw_2_11 rfl dX11_first_28 h (fun a2 h => ?_)
  refine zs_getIN E zc5 3 (by decide) (znf_47) rfl dX11_first_31 h (fun x2 h => ?_)
  refine zj_iload_n E dX11_first_34 rfl 1 rfl ?_
  refine zj_icmp_ne (tgt := 40) E dX11_first_35 (by decide) h (fun h => ?_) (fun h => ?_)
  · refine zj_aload_n E dX11_first_40 rfl 0 rfl ?_
    refine zs_getR E zc10 4 (by decide) zw_2_11 rfl dX11_first_41 h (fun a3 h => ?_)
    refine zj_iload_n E dX11_first_44 rfl 1 rfl ?_
    refine zs_putZN E zc5 3 (by decide) (znf_47) rfl rfl dX11_first_45 h (fun σ1 h => ?_)
    refine zj_aload_n E dX11_first_48 rfl 0 rfl ?_
    refine zs_getR E zc10 4 (by decide) zw_2_11 rfl dX11_first_49 h (fun a4 h => ?_)
    refine zs_getRN E zc5 1 (by decide) (znf_44) rfl dX11_first_52 h (fun a5 h => ?_)
    obtain ⟨hk, h⟩ := oA_some h
    obtain ⟨σ2, hc, h⟩ := oB_some h
    refine zs_callV (As := []) (rest := []) E zc3 zyX3_clear zw_24_8 (kX3_clear _ _ _ _ _ hc) rfl rfl hk rfl ⟨by decide, by decide⟩ ⟨by decide, by decide⟩ (Nat.le_of_ble_eq_true rfl) dX11_first_55 rfl (show zJ Γ 2 0 0 σ2 58 [(0, .ref l0), (1, .int l1)] [] from ?_)
    refine zj_aload_n E dX11_first_58 rfl 0 rfl ?_
    refine zs_getR E zc10 3 (by decide) zw_2_7 rfl dX11_first_59 h (fun a6 h => ?_)
    obtain ⟨hk, h⟩ := oA_some h
    obtain ⟨σ3, hc, h⟩ := oB_some h
    refine zs_callV (As := []) (rest := []) E zc6 zyX7_forget zw_17_7 (kX7_forget _ _ _ _ _ hc) rfl rfl hk rfl ⟨by decide, by decide⟩ ⟨by decide, by decide⟩ (Nat.le_of_ble_eq_true rfl) dX11_first_62 rfl (show zJ Γ 2 0 0 σ3 65 [(0, .ref l0), (1, .int l1)] [] from ?_)
    refine zj_iconst (v := 1) E dX11_first_65 (by decide) ?_
    have e9 := Option.some.inj h
    subst e9
    exact (show zRet Γ cX11_first 2 0 0 (some (.int 1)) σ3 from K) _ _ dX11_first_66
  · refine zj_iconst (v := 0) E dX11_first_38 (by decide) ?_
    have e9 := Option.some.inj h
    subst e9
    exact (show zRet Γ cX11_first 2 0 0 (some (.int 0)) σ from K) _ _ dX11_first_39
def fX11_first (σ : zS) (p0 : Nat) (p1 : Int32) : Option (Int32 × zS) := oGR σ 11 p0 4 (fun a1 => oGI σ 6 a1 2 (fun x1 => (if x1 = 0 then some ((-13 : Int32), σ) else (if p1 = 0 then fX11_first_27 σ p0 p1 else oGR σ 11 p0 4 (fun a7 => oA (zk σ a7 = 6) (oB (fX5_firstIsCanvas σ a7) (fun x3 => (if x3 = 0 then some ((-13 : Int32), σ) else fX11_first_27 σ p0 p1))))))))
set_option maxRecDepth 100000 in
theorem wX11_first {Γ : zG} (E : zE Γ cX11_first RX11 2 { frames := 2, cells := 0, slots := 0, locals := 43 }) (σ : zS) (p0 : Nat) (p1 : Int32) {R : (Int32 × zS)} (h : fX11_first σ p0 p1 = some R) (K : zRet Γ cX11_first 2 0 0 (some (.int R.1)) R.2) : zJ Γ 2 0 0 σ 0 [(0, .ref p0), (1, .int p1)] [] := by
  unfold fX11_first at h
  refine zj_aload_n E dX11_first_0 rfl 0 rfl ?_
  refine zs_getR E zc10 4 (by decide) zw_2_11 rfl dX11_first_1 h (fun a1 h => ?_)
  refine zs_getIN E zc5 2 (by decide) (znf_45) rfl dX11_first_4 h (fun x1 h => ?_)
  refine zj_if_eq (tgt := 24) E dX11_first_7 (by decide) h (fun h => ?_) (fun h => ?_)
  · refine zj_bipush (v := (-13 : Int32)) E dX11_first_24 (by decide) ?_
    have e9 := Option.some.inj h
    subst e9
    exact (show zRet Γ cX11_first 2 0 0 (some (.int (-13 : Int32))) σ from K) _ _ dX11_first_26
  · refine zj_iload_n E dX11_first_10 rfl 1 rfl ?_
    refine zj_if_eq (tgt := 27) E dX11_first_11 (by decide) h (fun h => ?_) (fun h => ?_)
    · refine zj_lv [0, 1] rfl ?_
      exact wX11_first_27 E _ _ _ h K
    · refine zj_aload_n E dX11_first_14 rfl 0 rfl ?_
      refine zs_getR E zc10 4 (by decide) zw_2_11 rfl dX11_first_15 h (fun a7 h => ?_)
      obtain ⟨hk, h⟩ := oA_some h
      obtain ⟨x3, hc, h⟩ := oB_some h
      refine zs_callV (As := []) (rest := []) E zc5 zyX5_firstIsCanvas zw_26_3 (kX5_firstIsCanvas _ _ _ _ _ hc) rfl rfl hk rfl ⟨by decide, by decide⟩ ⟨by decide, by decide⟩ (Nat.le_of_ble_eq_true rfl) dX11_first_18 rfl (show zJ Γ 2 0 0 σ 21 [(0, .ref p0), (1, .int p1)] [.int x3] from ?_)
      refine zj_if_ne (tgt := 27) E dX11_first_21 (by decide) h (fun h => ?_) (fun h => ?_)
      · refine zj_lv [0, 1] rfl ?_
        exact wX11_first_27 E _ _ _ h K
      · refine zj_bipush (v := (-13 : Int32)) E dX11_first_24 (by decide) ?_
        have e9 := Option.some.inj h
        subst e9
        exact (show zRet Γ cX11_first 2 0 0 (some (.int (-13 : Int32))) σ from K) _ _ dX11_first_26
set_option maxRecDepth 100000 in
theorem kX11_first (l : Launch) (D : va_G) (cs : zCs) (z0 : Nat) (σ : zS) {p0 : Nat} {p1 : Int32} {r : Int32} {σ' : zS} (h : fX11_first σ p0 p1 = some (r, σ')) : zM l D cs z0 yX11_first cX11_first 2 (some .int) { frames := 2, cells := 0, slots := 0, locals := 43 } [.ref p0, .int p1] σ (some (.int r)) σ' 0 0 := by
  exact zM_of (by decide) rfl (Or.inl rfl) (Nat.le_of_ble_eq_true rfl) rfl (fun Γ e1 e2 e3 e4 E hN K => wX11_first E σ _ _ h K)
/-! X11_about -/
def fX11_about (σ : zS) (p0 : Nat) (p1 : Int32) (p2 : Int32) : Option Int32 := oGR σ 11 p0 4 (fun a1 => oGI σ 6 a1 2 (fun x1 => (if x1 = 0 then some (-11 : Int32) else (if p1 < 0 then some (-12 : Int32) else (if p1 ≤ (10 : Int32) then (if (4 : Int32) < p1 then oGR σ 11 p0 4 (fun a2 => oA (zk σ a2 = 6) (oB (fX5_hasFrame σ a2 p2) (fun x2 => (if x2 = 0 then some (-11 : Int32) else oGR σ 11 p0 4 (fun a3 => oGR σ 6 a3 0 (fun a4 => oLr σ a4 p2 (fun a5 => oA (zk σ a5 = 4) (oB (fX3_fact σ a5 p1) (fun x3 => some x3))))))))) else oGR σ 11 p0 4 (fun a6 => oA (zk σ a6 = 6) (oB (fX5_fact σ a6 p1) (fun x4 => some x4)))) else some (-12 : Int32))))))
set_option maxRecDepth 100000 in
theorem wX11_about {Γ : zG} (E : zE Γ cX11_about RX11 3 { frames := 1, cells := 0, slots := 0, locals := 21 }) (σ : zS) (p0 : Nat) (p1 : Int32) (p2 : Int32) {R : Int32} (h : fX11_about σ p0 p1 p2 = some R) (K : zRet Γ cX11_about 3 0 0 (some (.int R)) σ) : zJ Γ 3 0 0 σ 0 [(0, .ref p0), (1, .int p1), (2, .int p2)] [] := by
  unfold fX11_about at h
  refine zj_aload_n E dX11_about_0 rfl 0 rfl ?_
  refine zs_getR E zc10 4 (by decide) zw_2_11 rfl dX11_about_1 h (fun a1 h => ?_)
  refine zs_getIN E zc5 2 (by decide) (znf_45) rfl dX11_about_4 h (fun x1 h => ?_)
  refine zj_if_ne (tgt := 13) E dX11_about_7 (by decide) h (fun h => ?_) (fun h => ?_)
  · refine zj_iload_n E dX11_about_13 rfl 1 rfl ?_
    refine zj_if_lt (tgt := 23) E dX11_about_14 (by decide) h (fun h => ?_) (fun h => ?_)
    · refine zj_bipush (v := (-12 : Int32)) E dX11_about_23 (by decide) ?_
      have e9 := Option.some.inj h
      subst e9
      exact (show zRet Γ cX11_about 3 0 0 (some (.int (-12 : Int32))) σ from K) _ _ dX11_about_25
    · refine zj_iload_n E dX11_about_17 rfl 1 rfl ?_
      refine zj_bipush (v := 10) E dX11_about_18 (by decide) ?_
      refine zj_icmp_le (tgt := 26) E dX11_about_20 (by decide) h (fun h => ?_) (fun h => ?_)
      · refine zj_iload_n E dX11_about_26 rfl 1 rfl ?_
        refine zj_iconst (v := 4) E dX11_about_27 (by decide) ?_
        refine zj_icmp_gt (tgt := 40) E dX11_about_28 (by decide) h (fun h => ?_) (fun h => ?_)
        · refine zj_aload_n E dX11_about_40 rfl 0 rfl ?_
          refine zs_getR E zc10 4 (by decide) zw_2_11 rfl dX11_about_41 h (fun a2 h => ?_)
          refine zj_iload_n E dX11_about_44 rfl 2 rfl ?_
          obtain ⟨hk, h⟩ := oA_some h
          obtain ⟨x2, hc, h⟩ := oB_some h
          refine zs_callV (As := [.int p2]) (rest := []) E zc5 zyX5_hasFrame zw_25_15 (kX5_hasFrame _ _ _ _ _ hc) rfl rfl hk rfl ⟨by decide, by decide⟩ ⟨by decide, by decide⟩ (Nat.le_of_ble_eq_true rfl) dX11_about_45 rfl (show zJ Γ 3 0 0 σ 48 [(0, .ref p0), (1, .int p1), (2, .int p2)] [.int x2] from ?_)
          refine zj_if_eq (tgt := 67) E dX11_about_48 (by decide) h (fun h => ?_) (fun h => ?_)
          · refine zj_bipush (v := (-11 : Int32)) E dX11_about_67 (by decide) ?_
            have e9 := Option.some.inj h
            subst e9
            exact (show zRet Γ cX11_about 3 0 0 (some (.int (-11 : Int32))) σ from K) _ _ dX11_about_69
          · refine zj_aload_n E dX11_about_51 rfl 0 rfl ?_
            refine zs_getR E zc10 4 (by decide) zw_2_11 rfl dX11_about_52 h (fun a3 h => ?_)
            refine zs_getRN E zc5 0 (by decide) (znf_41) rfl dX11_about_55 h (fun a4 h => ?_)
            refine zj_iload_n E dX11_about_58 rfl 2 rfl ?_
            refine zs_aald E dX11_about_59 h (fun a5 h => ?_)
            refine zj_iload_n E dX11_about_60 rfl 1 rfl ?_
            obtain ⟨hk, h⟩ := oA_some h
            obtain ⟨x3, hc, h⟩ := oB_some h
            refine zs_callV (As := [.int p1]) (rest := []) E zc3 zyX3_fact zw_26_17 (kX3_fact _ _ _ _ _ hc) rfl rfl hk rfl ⟨by decide, by decide⟩ ⟨by decide, by decide⟩ (Nat.le_of_ble_eq_true rfl) dX11_about_61 rfl (show zJ Γ 3 0 0 σ 64 [(0, .ref p0), (1, .int p1), (2, .int p2)] [.int x3] from ?_)
            refine zj_goto (tgt := 69) E dX11_about_64 (by decide) ?_
            have e9 := Option.some.inj h
            subst e9
            exact (show zRet Γ cX11_about 3 0 0 (some (.int x3)) σ from K) _ _ dX11_about_69
        · refine zj_aload_n E dX11_about_31 rfl 0 rfl ?_
          refine zs_getR E zc10 4 (by decide) zw_2_11 rfl dX11_about_32 h (fun a6 h => ?_)
          refine zj_iload_n E dX11_about_35 rfl 1 rfl ?_
          obtain ⟨hk, h⟩ := oA_some h
          obtain ⟨x4, hc, h⟩ := oB_some h
          refine zs_callV (As := [.int p1]) (rest := []) E zc5 zyX5_fact zw_26_12 (kX5_fact _ _ _ _ _ hc) rfl rfl hk rfl ⟨by decide, by decide⟩ ⟨by decide, by decide⟩ (Nat.le_of_ble_eq_true rfl) dX11_about_36 rfl (show zJ Γ 3 0 0 σ 39 [(0, .ref p0), (1, .int p1), (2, .int p2)] [.int x4] from ?_)
          have e9 := Option.some.inj h
          subst e9
          exact (show zRet Γ cX11_about 3 0 0 (some (.int x4)) σ from K) _ _ dX11_about_39
      · refine zj_bipush (v := (-12 : Int32)) E dX11_about_23 (by decide) ?_
        have e9 := Option.some.inj h
        subst e9
        exact (show zRet Γ cX11_about 3 0 0 (some (.int (-12 : Int32))) σ from K) _ _ dX11_about_25
  · refine zj_bipush (v := (-11 : Int32)) E dX11_about_10 (by decide) ?_
    have e9 := Option.some.inj h
    subst e9
    exact (show zRet Γ cX11_about 3 0 0 (some (.int (-11 : Int32))) σ from K) _ _ dX11_about_12
set_option maxRecDepth 100000 in
theorem kX11_about (l : Launch) (D : va_G) (cs : zCs) (z0 : Nat) (σ : zS) {p0 : Nat} {p1 : Int32} {p2 : Int32} {r : Int32} (h : fX11_about σ p0 p1 p2 = some r) : zM l D cs z0 yX11_about cX11_about 3 (some .int) { frames := 1, cells := 0, slots := 0, locals := 21 } [.ref p0, .int p1, .int p2] σ (some (.int r)) σ 0 0 := by
  exact zM_of (by decide) rfl (Or.inl rfl) (Nat.le_of_ble_eq_true rfl) rfl (fun Γ e1 e2 e3 e4 E hN K => wX11_about E σ _ _ _ h K)
/-! X11_show -/
def fX11_show (σ : zS) (p0 : Nat) (p1 : Int32) : Option (Int32 × zS) := oGR σ 11 p0 4 (fun a1 => oA (zk σ a1 = 6) (oB (fX5_hasFrame σ a1 p1) (fun x1 => (if x1 = 0 then (if p1 = (-1 : Int32) then oGR σ 11 p0 4 (fun a2 => oGI σ 6 a2 2 (fun x2 => (if x2 = 0 then some ((-11 : Int32), σ) else oGR σ 11 p0 3 (fun a3 => oGR σ 11 p0 4 (fun a4 => oA (zk σ a4 = 6) (oB (fX5_defaultPicture σ a4) (fun a5 => oA (zk σ a3 = 7) (oB (fX7_copy σ a3 a5) (fun σ1 => some (1, σ1)))))))))) else some ((-11 : Int32), σ)) else oGR σ 11 p0 3 (fun a6 => oGR σ 11 p0 4 (fun a7 => oA (zk σ a6 = 7) (oB (fX7_compose σ a6 a7 p1) (fun σ2 => some (1, σ2)))))))))
set_option maxRecDepth 100000 in
theorem wX11_show {Γ : zG} (E : zE Γ cX11_show RX11 2 { frames := 3, cells := 0, slots := 0, locals := 88 }) (σ : zS) (p0 : Nat) (p1 : Int32) {R : (Int32 × zS)} (h : fX11_show σ p0 p1 = some R) (K : zRet Γ cX11_show 2 0 0 (some (.int R.1)) R.2) : zJ Γ 2 0 0 σ 0 [(0, .ref p0), (1, .int p1)] [] := by
  unfold fX11_show at h
  refine zj_aload_n E dX11_show_0 rfl 0 rfl ?_
  refine zs_getR E zc10 4 (by decide) zw_2_11 rfl dX11_show_1 h (fun a1 h => ?_)
  refine zj_iload_n E dX11_show_4 rfl 1 rfl ?_
  obtain ⟨hk, h⟩ := oA_some h
  obtain ⟨x1, hc, h⟩ := oB_some h
  refine zs_callV (As := [.int p1]) (rest := []) E zc5 zyX5_hasFrame zw_25_15 (kX5_hasFrame _ _ _ _ _ hc) rfl rfl hk rfl ⟨by decide, by decide⟩ ⟨by decide, by decide⟩ (Nat.le_of_ble_eq_true rfl) dX11_show_5 rfl (show zJ Γ 2 0 0 σ 8 [(0, .ref p0), (1, .int p1)] [.int x1] from ?_)
  refine zj_if_eq (tgt := 25) E dX11_show_8 (by decide) h (fun h => ?_) (fun h => ?_)
  · refine zj_iload_n E dX11_show_25 rfl 1 rfl ?_
    refine zj_iconst (v := (-1 : Int32)) E dX11_show_26 (by decide) ?_
    refine zj_icmp_ne (tgt := 56) E dX11_show_27 (by decide) h (fun h => ?_) (fun h => ?_)
    · refine zj_bipush (v := (-11 : Int32)) E dX11_show_56 (by decide) ?_
      have e9 := Option.some.inj h
      subst e9
      exact (show zRet Γ cX11_show 2 0 0 (some (.int (-11 : Int32))) σ from K) _ _ dX11_show_58
    · refine zj_aload_n E dX11_show_30 rfl 0 rfl ?_
      refine zs_getR E zc10 4 (by decide) zw_2_11 rfl dX11_show_31 h (fun a2 h => ?_)
      refine zs_getIN E zc5 2 (by decide) (znf_45) rfl dX11_show_34 h (fun x2 h => ?_)
      refine zj_if_eq (tgt := 56) E dX11_show_37 (by decide) h (fun h => ?_) (fun h => ?_)
      · refine zj_bipush (v := (-11 : Int32)) E dX11_show_56 (by decide) ?_
        have e9 := Option.some.inj h
        subst e9
        exact (show zRet Γ cX11_show 2 0 0 (some (.int (-11 : Int32))) σ from K) _ _ dX11_show_58
      · refine zj_aload_n E dX11_show_40 rfl 0 rfl ?_
        refine zs_getR E zc10 3 (by decide) zw_2_7 rfl dX11_show_41 h (fun a3 h => ?_)
        refine zj_aload_n E dX11_show_44 rfl 0 rfl ?_
        refine zs_getR E zc10 4 (by decide) zw_2_11 rfl dX11_show_45 h (fun a4 h => ?_)
        obtain ⟨hk, h⟩ := oA_some h
        obtain ⟨a5, hc, h⟩ := oB_some h
        refine zs_callV (As := []) (rest := [.ref a3]) E zc5 zyX5_defaultPicture zw_28_7 (kX5_defaultPicture _ _ _ _ _ hc) rfl rfl hk rfl ⟨by decide, by decide⟩ ⟨by decide, by decide⟩ (Nat.le_of_ble_eq_true rfl) dX11_show_48 rfl (show zJ Γ 2 0 0 σ 51 [(0, .ref p0), (1, .int p1)] [.ref a5, .ref a3] from ?_)
        obtain ⟨hk, h⟩ := oA_some h
        obtain ⟨σ1, hc, h⟩ := oB_some h
        refine zs_callV (As := [.ref a5]) (rest := []) E zc6 zyX7_copy zw_28_8 (kX7_copy _ _ _ _ _ hc) rfl rfl hk rfl ⟨by decide, by decide⟩ ⟨by decide, by decide⟩ (Nat.le_of_ble_eq_true rfl) dX11_show_51 rfl (show zJ Γ 2 0 0 σ1 54 [(0, .ref p0), (1, .int p1)] [] from ?_)
        refine zj_iconst (v := 1) E dX11_show_54 (by decide) ?_
        have e9 := Option.some.inj h
        subst e9
        exact (show zRet Γ cX11_show 2 0 0 (some (.int 1)) σ1 from K) _ _ dX11_show_55
  · refine zj_aload_n E dX11_show_11 rfl 0 rfl ?_
    refine zs_getR E zc10 3 (by decide) zw_2_7 rfl dX11_show_12 h (fun a6 h => ?_)
    refine zj_aload_n E dX11_show_15 rfl 0 rfl ?_
    refine zs_getR E zc10 4 (by decide) zw_2_11 rfl dX11_show_16 h (fun a7 h => ?_)
    refine zj_iload_n E dX11_show_19 rfl 1 rfl ?_
    obtain ⟨hk, h⟩ := oA_some h
    obtain ⟨σ2, hc, h⟩ := oB_some h
    refine zs_callV (As := [.ref a7, .int p1]) (rest := []) E zc6 zyX7_compose zw_27_11 (kX7_compose _ _ _ _ _ hc) rfl rfl hk rfl ⟨by decide, by decide⟩ ⟨by decide, by decide⟩ (Nat.le_of_ble_eq_true rfl) dX11_show_20 rfl (show zJ Γ 2 0 0 σ2 23 [(0, .ref p0), (1, .int p1)] [] from ?_)
    refine zj_iconst (v := 1) E dX11_show_23 (by decide) ?_
    have e9 := Option.some.inj h
    subst e9
    exact (show zRet Γ cX11_show 2 0 0 (some (.int 1)) σ2 from K) _ _ dX11_show_24
set_option maxRecDepth 100000 in
theorem kX11_show (l : Launch) (D : va_G) (cs : zCs) (z0 : Nat) (σ : zS) {p0 : Nat} {p1 : Int32} {r : Int32} {σ' : zS} (h : fX11_show σ p0 p1 = some (r, σ')) : zM l D cs z0 yX11_show cX11_show 2 (some .int) { frames := 3, cells := 0, slots := 0, locals := 88 } [.ref p0, .int p1] σ (some (.int r)) σ' 0 0 := by
  exact zM_of (by decide) rfl (Or.inl rfl) (Nat.le_of_ble_eq_true rfl) rfl (fun Γ e1 e2 e3 e4 E hN K => wX11_show E σ _ _ h K)
/-! X11_write -/
def fX11_write (σ : zS) (p0 : Nat) : Option (Int32 × zS) := oGR σ 11 p0 4 (fun a1 => oGI σ 6 a1 2 (fun x1 => (if x1 = 0 then some ((-13 : Int32), σ) else oGR σ 11 p0 4 (fun a2 => oGI σ 6 a2 7 (fun x2 => (if x2 = 0 then some ((-13 : Int32), σ) else oGR σ 11 p0 2 (fun a3 => oGR σ 11 p0 4 (fun a4 => oA (zk σ a3 = 10) (oB (fX10_run σ a3 a4) (fun σ1 => oGR σ1 11 p0 2 (fun a5 => oGR σ1 10 a5 0 (fun a6 => oGI σ1 2 a6 1 (fun x3 => some (x3, σ1))))))))))))))
set_option maxRecDepth 100000 in
theorem wX11_write {Γ : zG} (E : zE Γ cX11_write RX11 1 { frames := 5, cells := 0, slots := 0, locals := 114 }) (σ : zS) (p0 : Nat) {R : (Int32 × zS)} (h : fX11_write σ p0 = some R) (K : zRet Γ cX11_write 1 0 0 (some (.int R.1)) R.2) : zJ Γ 1 0 0 σ 0 [(0, .ref p0)] [] := by
  unfold fX11_write at h
  refine zj_aload_n E dX11_write_0 rfl 0 rfl ?_
  refine zs_getR E zc10 4 (by decide) zw_2_11 rfl dX11_write_1 h (fun a1 h => ?_)
  refine zs_getIN E zc5 2 (by decide) (znf_45) rfl dX11_write_4 h (fun x1 h => ?_)
  refine zj_if_eq (tgt := 20) E dX11_write_7 (by decide) h (fun h => ?_) (fun h => ?_)
  · refine zj_bipush (v := (-13 : Int32)) E dX11_write_20 (by decide) ?_
    have e9 := Option.some.inj h
    subst e9
    exact (show zRet Γ cX11_write 1 0 0 (some (.int (-13 : Int32))) σ from K) _ _ dX11_write_22
  · refine zj_aload_n E dX11_write_10 rfl 0 rfl ?_
    refine zs_getR E zc10 4 (by decide) zw_2_11 rfl dX11_write_11 h (fun a2 h => ?_)
    refine zs_getIN E zc5 7 (by decide) (znf_57) rfl dX11_write_14 h (fun x2 h => ?_)
    refine zj_if_ne (tgt := 23) E dX11_write_17 (by decide) h (fun h => ?_) (fun h => ?_)
    · refine zj_aload_n E dX11_write_23 rfl 0 rfl ?_
      refine zs_getR E zc10 2 (by decide) zw_2_3 rfl dX11_write_24 h (fun a3 h => ?_)
      refine zj_aload_n E dX11_write_27 rfl 0 rfl ?_
      refine zs_getR E zc10 4 (by decide) zw_2_11 rfl dX11_write_28 h (fun a4 h => ?_)
      obtain ⟨hk, h⟩ := oA_some h
      obtain ⟨σ1, hc, h⟩ := oB_some h
      refine zs_callV (As := [.ref a4]) (rest := []) E zc9 zyX10_run zw_30_8 (kX10_run _ _ _ _ _ hc) rfl rfl hk rfl ⟨by decide, by decide⟩ ⟨by decide, by decide⟩ (Nat.le_of_ble_eq_true rfl) dX11_write_31 rfl (show zJ Γ 1 0 0 σ1 34 [(0, .ref p0)] [] from ?_)
      refine zj_aload_n E dX11_write_34 rfl 0 rfl ?_
      refine zs_getR E zc10 2 (by decide) zw_2_3 rfl dX11_write_35 h (fun a5 h => ?_)
      refine zs_getRN E zc9 0 (by decide) (znf_60) rfl dX11_write_38 h (fun a6 h => ?_)
      refine zs_getIN E zc1 1 (by decide) (znf_5) rfl dX11_write_41 h (fun x3 h => ?_)
      have e9 := Option.some.inj h
      subst e9
      exact (show zRet Γ cX11_write 1 0 0 (some (.int x3)) σ1 from K) _ _ dX11_write_44
    · refine zj_bipush (v := (-13 : Int32)) E dX11_write_20 (by decide) ?_
      have e9 := Option.some.inj h
      subst e9
      exact (show zRet Γ cX11_write 1 0 0 (some (.int (-13 : Int32))) σ from K) _ _ dX11_write_22
set_option maxRecDepth 100000 in
theorem kX11_write (l : Launch) (D : va_G) (cs : zCs) (z0 : Nat) (σ : zS) {p0 : Nat} {r : Int32} {σ' : zS} (h : fX11_write σ p0 = some (r, σ')) : zM l D cs z0 yX11_write cX11_write 1 (some .int) { frames := 5, cells := 0, slots := 0, locals := 114 } [.ref p0] σ (some (.int r)) σ' 0 0 := by
  exact zM_of (by decide) rfl (Or.inl rfl) (Nat.le_of_ble_eq_true rfl) rfl (fun Γ e1 e2 e3 e4 E hN K => wX11_write E σ _ h K)
/-! X11_out -/
def fX11_out (σ : zS) (p0 : Nat) (p1 : Int32) : Option Int32 := oGR σ 11 p0 2 (fun a1 => oGR σ 10 a1 0 (fun a2 => oA (zk σ a2 = 2) (oB (fX1_at σ a2 p1) (fun x1 => some x1))))
set_option maxRecDepth 100000 in
theorem wX11_out {Γ : zG} (E : zE Γ cX11_out RX11 2 { frames := 1, cells := 0, slots := 0, locals := 21 }) (σ : zS) (p0 : Nat) (p1 : Int32) {R : Int32} (h : fX11_out σ p0 p1 = some R) (K : zRet Γ cX11_out 2 0 0 (some (.int R)) σ) : zJ Γ 2 0 0 σ 0 [(0, .ref p0), (1, .int p1)] [] := by
  unfold fX11_out at h
  refine zj_aload_n E dX11_out_0 rfl 0 rfl ?_
  refine zs_getR E zc10 2 (by decide) zw_2_3 rfl dX11_out_1 h (fun a1 h => ?_)
  refine zs_getRN E zc9 0 (by decide) (znf_60) rfl dX11_out_4 h (fun a2 h => ?_)
  refine zj_iload_n E dX11_out_7 rfl 1 rfl ?_
  obtain ⟨hk, h⟩ := oA_some h
  obtain ⟨x1, hc, h⟩ := oB_some h
  refine zs_callV (As := [.int p1]) (rest := []) E zc1 zyX1_at zw_34_2 (kX1_at _ _ _ _ _ hc) rfl rfl hk rfl ⟨by decide, by decide⟩ ⟨by decide, by decide⟩ (Nat.le_of_ble_eq_true rfl) dX11_out_8 rfl (show zJ Γ 2 0 0 σ 11 [(0, .ref p0), (1, .int p1)] [.int x1] from ?_)
  have e9 := Option.some.inj h
  subst e9
  exact (show zRet Γ cX11_out 2 0 0 (some (.int x1)) σ from K) _ _ dX11_out_11
set_option maxRecDepth 100000 in
theorem kX11_out (l : Launch) (D : va_G) (cs : zCs) (z0 : Nat) (σ : zS) {p0 : Nat} {p1 : Int32} {r : Int32} (h : fX11_out σ p0 p1 = some r) : zM l D cs z0 yX11_out cX11_out 2 (some .int) { frames := 1, cells := 0, slots := 0, locals := 21 } [.ref p0, .int p1] σ (some (.int r)) σ 0 0 := by
  exact zM_of (by decide) rfl (Or.inl rfl) (Nat.le_of_ble_eq_true rfl) rfl (fun Γ e1 e2 e3 e4 E hN K => wX11_out E σ _ _ h K)
/-! X12_init -/
def fX12_init (σ : zS) (p0 : Nat) : Option zS := oNa σ 20 8000 (fun a1 σ1 => oPR σ1 12 p0 2 a1 (fun σ2 => oPI σ2 12 p0 3 (-1 : Int32) (fun σ3 => oNa σ3 21 12 (fun a2 σ4 => oPR σ4 12 p0 4 a2 (fun σ5 => oNa σ5 21 96 (fun a3 σ6 => oPR σ6 12 p0 5 a3 (fun σ7 => oNa σ7 21 4608 (fun a4 σ8 => oPR σ8 12 p0 6 a4 (fun σ9 => oNa σ9 21 256 (fun a5 σ10 => oPR σ10 12 p0 10 a5 (fun σ11 => oNa σ11 21 256 (fun a6 σ12 => oPR σ12 12 p0 11 a6 (fun σ13 => oNa σ13 20 14000 (fun a7 σ14 => oPR σ14 12 p0 13 a7 (fun σ15 => oNa σ15 20 8000 (fun a8 σ16 => oPR σ16 12 p0 15 a8 (fun σ17 => oNa σ17 20 1100 (fun a9 σ18 => oPR σ18 12 p0 20 a9 (fun σ19 => oNa σ19 21 380 (fun a10 σ20 => oPR σ20 12 p0 21 a10 (fun σ21 => oNa σ21 21 380 (fun a11 σ22 => oPR σ22 12 p0 22 a11 (fun σ23 => oPI σ23 12 p0 1 0 (fun σ24 => some σ24))))))))))))))))))))))))
set_option maxRecDepth 100000 in
theorem wX12_init {Γ : zG} (E : zE Γ cX12_init RX12 1 { frames := 1, cells := 11, slots := 37088, locals := 20 }) (hN : (zgt Γ).name = "<init>") (σ : zS) (p0 : Nat) {R : zS} (h : fX12_init σ p0 = some R) (K : zRet Γ cX12_init 1 11 37088 (none) R) : zJ Γ 1 0 0 σ 0 [(0, .ref p0)] [] := by
  unfold fX12_init at h
  refine zj_aload_n E dX12_init_0 rfl 0 rfl ?_
  refine zs_obj E zw_6_2 zw_1_11 zw_1_12 (by decide) (Nat.le_of_ble_eq_true rfl) dX12_init_1 ?_
  refine zj_aload_n E dX12_init_4 rfl 0 rfl ?_
  refine zj_sipush (v := 8000) E dX12_init_5 (by decide) ?_
  refine zt_newB (N := 8000) E zw_3_0 (by decide) ⟨by decide, by decide⟩ dX12_init_8 h (fun a1 σ1 h => ?_)
  show zJ Γ 1 1 8000 σ1 10 [(0, .ref p0)] [.ref a1, .ref p0]
  refine zs_putFR E zc11 hN 2 (by decide) zw_6_3 rfl rfl rfl dX12_init_10 h (fun σ2 h => ?_)
  refine zj_aload_n E dX12_init_13 rfl 0 rfl ?_
  refine zj_iconst (v := (-1 : Int32)) E dX12_init_14 (by decide) ?_
  refine zs_putI E zc11 3 (by decide) zw_6_4 rfl rfl dX12_init_15 h (fun σ3 h => ?_)
  refine zj_aload_n E dX12_init_18 rfl 0 rfl ?_
  refine zj_bipush (v := 12) E dX12_init_19 (by decide) ?_
  refine zt_newI (N := 12) E zw_2_17 (by decide) ⟨by decide, by decide⟩ dX12_init_21 h (fun a2 σ4 h => ?_)
  show zJ Γ 1 2 8012 σ4 23 [(0, .ref p0)] [.ref a2, .ref p0]
  refine zs_putFR E zc11 hN 4 (by decide) zw_6_5 rfl rfl rfl dX12_init_23 h (fun σ5 h => ?_)
  refine zj_aload_n E dX12_init_26 rfl 0 rfl ?_
  refine zj_bipush (v := 96) E dX12_init_27 (by decide) ?_
  refine zt_newI (N := 96) E zw_2_17 (by decide) ⟨by decide, by decide⟩ dX12_init_29 h (fun a3 σ6 h => ?_)
  show zJ Γ 1 3 8108 σ6 31 [(0, .ref p0)] [.ref a3, .ref p0]
  refine zs_putFR E zc11 hN 5 (by decide) zw_6_6 rfl rfl rfl dX12_init_31 h (fun σ7 h => ?_)
  refine zj_aload_n E dX12_init_34 rfl 0 rfl ?_
  refine zj_sipush (v := 4608) E dX12_init_35 (by decide) ?_
  refine zt_newI (N := 4608) E zw_2_17 (by decide) ⟨by decide, by decide⟩ dX12_init_38 h (fun a4 σ8 h => ?_)
  show zJ Γ 1 4 12716 σ8 40 [(0, .ref p0)] [.ref a4, .ref p0]
  refine zs_putFR E zc11 hN 6 (by decide) zw_6_7 rfl rfl rfl dX12_init_40 h (fun σ9 h => ?_)
  refine zj_aload_n E dX12_init_43 rfl 0 rfl ?_
  refine zj_sipush (v := 256) E dX12_init_44 (by decide) ?_
  refine zt_newI (N := 256) E zw_2_17 (by decide) ⟨by decide, by decide⟩ dX12_init_47 h (fun a5 σ10 h => ?_)
  show zJ Γ 1 5 12972 σ10 49 [(0, .ref p0)] [.ref a5, .ref p0]
  refine zs_putFR E zc11 hN 10 (by decide) zw_6_8 rfl rfl rfl dX12_init_49 h (fun σ11 h => ?_)
  refine zj_aload_n E dX12_init_52 rfl 0 rfl ?_
  refine zj_sipush (v := 256) E dX12_init_53 (by decide) ?_
  refine zt_newI (N := 256) E zw_2_17 (by decide) ⟨by decide, by decide⟩ dX12_init_56 h (fun a6 σ12 h => ?_)
  show zJ Γ 1 6 13228 σ12 58 [(0, .ref p0)] [.ref a6, .ref p0]
  refine zs_putFR E zc11 hN 11 (by decide) zw_6_9 rfl rfl rfl dX12_init_58 h (fun σ13 h => ?_)
  refine zj_aload_n E dX12_init_61 rfl 0 rfl ?_
  refine zj_sipush (v := 14000) E dX12_init_62 (by decide) ?_
  refine zt_newB (N := 14000) E zw_3_0 (by decide) ⟨by decide, by decide⟩ dX12_init_65 h (fun a7 σ14 h => ?_)
  show zJ Γ 1 7 27228 σ14 67 [(0, .ref p0)] [.ref a7, .ref p0]
  refine zs_putFR E zc11 hN 13 (by decide) zw_6_10 rfl rfl rfl dX12_init_67 h (fun σ15 h => ?_)
  refine zj_aload_n E dX12_init_70 rfl 0 rfl ?_
  refine zj_sipush (v := 8000) E dX12_init_71 (by decide) ?_
  refine zt_newB (N := 8000) E zw_3_0 (by decide) ⟨by decide, by decide⟩ dX12_init_74 h (fun a8 σ16 h => ?_)
  show zJ Γ 1 8 35228 σ16 76 [(0, .ref p0)] [.ref a8, .ref p0]
  refine zs_putFR E zc11 hN 15 (by decide) zw_6_11 rfl rfl rfl dX12_init_76 h (fun σ17 h => ?_)
  refine zj_aload_n E dX12_init_79 rfl 0 rfl ?_
  refine zj_sipush (v := 1100) E dX12_init_80 (by decide) ?_
  refine zt_newB (N := 1100) E zw_3_0 (by decide) ⟨by decide, by decide⟩ dX12_init_83 h (fun a9 σ18 h => ?_)
  show zJ Γ 1 9 36328 σ18 85 [(0, .ref p0)] [.ref a9, .ref p0]
  refine zs_putFR E zc11 hN 20 (by decide) zw_6_12 rfl rfl rfl dX12_init_85 h (fun σ19 h => ?_)
  refine zj_aload_n E dX12_init_88 rfl 0 rfl ?_
  refine zj_sipush (v := 380) E dX12_init_89 (by decide) ?_
  refine zt_newI (N := 380) E zw_2_17 (by decide) ⟨by decide, by decide⟩ dX12_init_92 h (fun a10 σ20 h => ?_)
  show zJ Γ 1 10 36708 σ20 94 [(0, .ref p0)] [.ref a10, .ref p0]
  refine zs_putFR E zc11 hN 21 (by decide) zw_6_13 rfl rfl rfl dX12_init_94 h (fun σ21 h => ?_)
  refine zj_aload_n E dX12_init_97 rfl 0 rfl ?_
  refine zj_sipush (v := 380) E dX12_init_98 (by decide) ?_
  refine zt_newI (N := 380) E zw_2_17 (by decide) ⟨by decide, by decide⟩ dX12_init_101 h (fun a11 σ22 h => ?_)
  show zJ Γ 1 11 37088 σ22 103 [(0, .ref p0)] [.ref a11, .ref p0]
  refine zs_putFR E zc11 hN 22 (by decide) zw_6_14 rfl rfl rfl dX12_init_103 h (fun σ23 h => ?_)
  refine zj_aload_n E dX12_init_106 rfl 0 rfl ?_
  refine zj_iconst (v := 0) E dX12_init_107 (by decide) ?_
  refine zs_putI E zc11 1 (by decide) zw_6_15 rfl rfl dX12_init_108 h (fun σ24 h => ?_)
  have e9 := Option.some.inj h
  subst e9
  exact (show zRet Γ cX12_init 1 11 37088 (none) σ24 from K) _ _ dX12_init_111
set_option maxRecDepth 100000 in
theorem kX12_init (l : Launch) (D : va_G) (cs : zCs) (z0 : Nat) (σ : zS) {p0 : Nat}  {σ' : zS} (h : fX12_init σ p0 = some σ') : zM l D cs z0 yX12_init cX12_init 1 none { frames := 1, cells := 11, slots := 37088, locals := 20 } [.ref p0] σ none σ' 11 37088 := by
  exact zM_of (by decide) rfl rfl (Nat.le_of_ble_eq_true rfl) rfl (fun Γ e1 e2 e3 e4 E hN K => wX12_init E hN σ _ h K)
/-! X12_thrown -/
def fX12_thrown (σ : zS) (p0 : Nat) : Option Int32 := oGI σ 12 p0 0 (fun x1 => some x1)
set_option maxRecDepth 100000 in
theorem wX12_thrown {Γ : zG} (E : zE Γ cX12_thrown RX12 1 { frames := 0, cells := 0, slots := 0, locals := 0 }) (σ : zS) (p0 : Nat) {R : Int32} (h : fX12_thrown σ p0 = some R) (K : zRet Γ cX12_thrown 1 0 0 (some (.int R)) σ) : zJ Γ 1 0 0 σ 0 [(0, .ref p0)] [] := by
  unfold fX12_thrown at h
  refine zj_aload_n E dX12_thrown_0 rfl 0 rfl ?_
  refine zs_getI E zc11 0 (by decide) zw_7_9 rfl dX12_thrown_1 h (fun x1 h => ?_)
  have e9 := Option.some.inj h
  subst e9
  exact (show zRet Γ cX12_thrown 1 0 0 (some (.int x1)) σ from K) _ _ dX12_thrown_4
set_option maxRecDepth 100000 in
theorem kX12_thrown (l : Launch) (D : va_G) (cs : zCs) (z0 : Nat) (σ : zS) {p0 : Nat} {r : Int32} (h : fX12_thrown σ p0 = some r) : zM l D cs z0 yX12_thrown cX12_thrown 1 (some .int) { frames := 0, cells := 0, slots := 0, locals := 0 } [.ref p0] σ (some (.int r)) σ 0 0 := by
  exact zM_of (by decide) rfl (Or.inl rfl) (Nat.le_of_ble_eq_true rfl) rfl (fun Γ e1 e2 e3 e4 E hN K => wX12_thrown E σ _ h K)
/-! X12_type -/
def jX12_type_37 (Γ : zG) (l0 : Nat) (l1 : Int32) : (Int32 × zS) → Prop := fun x => zJ Γ 4 0 0 x.2 37 [(0, .ref l0), (1, .int l1), (3, .int x.1)] []
def eX12_type_37 (Γ : zG) (l0 : Nat) (l1 : Int32) : zS → Prop := fun b => zJ Γ 4 0 0 b 73 [(0, .ref l0)] []
def bX12_type_37 (l0 : Nat) (l1 : Int32) (l3 : Int32) (σ : zS) : Option ((Int32 × zS) ⊕ zS) := (if l3 < 0 then some (.inr σ) else oGR σ 12 l0 2 (fun a1 => oGI σ 12 l0 1 (fun x2 => oSt σ 20 a1 x2 (((l1 >>> (((8 : Int32) * l3) &&& 31)).toInt8.toInt32).toInt8.toInt32) (fun σ2 => oGI σ2 12 l0 1 (fun x3 => oPI σ2 12 l0 1 (x3 + (1 : Int32)) (fun σ3 => oL (l3 + (-1 : Int32)) (fun v2 => some (.inl (v2, σ3)))))))))
set_option maxRecDepth 100000 in
theorem wX12_type_L37 {Γ : zG} (E : zE Γ cX12_type RX12 4 { frames := 0, cells := 0, slots := 0, locals := 0 }) (l0 : Nat) (l1 : Int32) : ∀ x R, (fun x => bX12_type_37 l0 l1 x.1 x.2) x = some R → Sum.elim (jX12_type_37 Γ l0 l1) (eX12_type_37 Γ l0 l1) R → jX12_type_37 Γ l0 l1 x := by
  intro x R h K
  obtain ⟨l3, σ⟩ := x
  have h : bX12_type_37 l0 l1 l3 σ = some R := h
  show zJ Γ 4 0 0 σ 37 [(0, .ref l0), (1, .int l1), (3, .int l3)] []
  unfold bX12_type_37 at h
  refine zj_iload_n E dX12_type_37 rfl 2 rfl ?_
  refine zj_if_lt (tgt := 73) E dX12_type_38 (by decide) h (fun h => ?_) (fun h => ?_)
  · have e9 := Option.some.inj h
    subst e9
    refine zj_lv [0] rfl ?_
    exact K
  · refine zj_aload_n E dX12_type_41 rfl 0 rfl ?_
    refine zs_getR E zc11 2 (by decide) zw_6_3 rfl dX12_type_42 h (fun a1 h => ?_)
    refine zj_aload_n E dX12_type_45 rfl 0 rfl ?_
    refine zs_getI E zc11 1 (by decide) zw_6_15 rfl dX12_type_46 h (fun x2 h => ?_)
    refine zj_iload_n E dX12_type_49 rfl 1 rfl ?_
    refine zj_bipush (v := 8) E dX12_type_50 (by decide) ?_
    refine zj_iload_n E dX12_type_52 rfl 2 rfl ?_
    refine zj_imul E dX12_type_53 ?_
    refine zj_ishr E dX12_type_54 ?_
    refine zj_i2b E dX12_type_55 ?_
    refine zs_bast E dX12_type_56 h (fun σ2 h => ?_)
    refine zj_aload_n E dX12_type_57 rfl 0 rfl ?_
    refine zj_dup E dX12_type_58 rfl ?_
    refine zs_getI E zc11 1 (by decide) zw_6_15 rfl dX12_type_59 h (fun x3 h => ?_)
    refine zj_iconst (v := 1) E dX12_type_62 (by decide) ?_
    refine zj_iadd E dX12_type_63 ?_
    refine zs_putI E zc11 1 (by decide) zw_6_15 rfl rfl dX12_type_64 h (fun σ3 h => ?_)
    refine zs_iinc (lv2 := fun v2 => [(3, .int v2), (0, .ref l0), (1, .int l1)]) E dX12_type_67 2 rfl (by decide) (by decide) (fun _ => rfl) h (fun v2 h => ?_)
    refine zj_goto (tgt := 37) E dX12_type_70 (by decide) ?_
    have e9 := Option.some.inj h
    subst e9
    refine zj_lv [1, 2, 0] rfl ?_
    exact K
def fX12_type (σ : zS) (p0 : Nat) (p1 : Int32) (p2 : Int32) : Option (Int32 × zS) := oPI σ 12 p0 0 0 (fun σ1 => (if p2 < (1 : Int32) then some ((-12 : Int32), σ1) else (if p2 ≤ (4 : Int32) then oGI σ1 12 p0 1 (fun x1 => (if (x1 + p2) ≤ (8000 : Int32) then oL (p2 - (1 : Int32)) (fun v1 => oB (zloop zF (fun x => bX12_type_37 p0 p1 x.1 x.2) (v1, σ1)) (fun b1 => (fun σ4 => oGI σ4 12 p0 1 (fun x4 => some (x4, σ4))) b1)) else some ((-14 : Int32), σ1))) else some ((-12 : Int32), σ1))))
set_option maxRecDepth 100000 in
theorem wX12_type {Γ : zG} (E : zE Γ cX12_type RX12 4 { frames := 0, cells := 0, slots := 0, locals := 0 }) (σ : zS) (p0 : Nat) (p1 : Int32) (p2 : Int32) {R : (Int32 × zS)} (h : fX12_type σ p0 p1 p2 = some R) (K : zRet Γ cX12_type 4 0 0 (some (.int R.1)) R.2) : zJ Γ 4 0 0 σ 0 [(0, .ref p0), (1, .int p1), (2, .int p2)] [] := by
  unfold fX12_type at h
  refine zj_aload_n E dX12_type_0 rfl 0 rfl ?_
  refine zj_iconst (v := 0) E dX12_type_1 (by decide) ?_
  refine zs_putI E zc11 0 (by decide) zw_7_9 rfl rfl dX12_type_2 h (fun σ1 h => ?_)
  refine zj_iload_n E dX12_type_5 rfl 2 rfl ?_
  refine zj_iconst (v := 1) E dX12_type_6 (by decide) ?_
  refine zj_icmp_lt (tgt := 15) E dX12_type_7 (by decide) h (fun h => ?_) (fun h => ?_)
  · refine zj_bipush (v := (-12 : Int32)) E dX12_type_15 (by decide) ?_
    have e9 := Option.some.inj h
    subst e9
    exact (show zRet Γ cX12_type 4 0 0 (some (.int (-12 : Int32))) σ1 from K) _ _ dX12_type_17
  · refine zj_iload_n E dX12_type_10 rfl 2 rfl ?_
    refine zj_iconst (v := 4) E dX12_type_11 (by decide) ?_
    refine zj_icmp_le (tgt := 18) E dX12_type_12 (by decide) h (fun h => ?_) (fun h => ?_)
    · refine zj_aload_n E dX12_type_18 rfl 0 rfl ?_
      refine zs_getI E zc11 1 (by decide) zw_6_15 rfl dX12_type_19 h (fun x1 h => ?_)
      refine zj_iload_n E dX12_type_22 rfl 2 rfl ?_
      refine zj_iadd E dX12_type_23 ?_
      refine zj_sipush (v := 8000) E dX12_type_24 (by decide) ?_
      refine zj_icmp_le (tgt := 33) E dX12_type_27 (by decide) h (fun h => ?_) (fun h => ?_)
      · refine zj_iload_n E dX12_type_33 rfl 2 rfl ?_
        refine zj_iconst (v := 1) E dX12_type_34 (by decide) ?_
        refine zj_isub E dX12_type_35 ?_
        refine zs_istore_n (lv2 := fun v1 => [(3, .int v1), (0, .ref p0), (1, .int p1), (2, .int p2)]) E dX12_type_36 rfl (by decide) (fun _ => rfl) h (fun v1 h => ?_)
        obtain ⟨b1, hb1, h⟩ := oB_some h
        refine zj_lv [1, 2, 0] rfl ?_
        refine zj_loop (wX12_type_L37 E p0 p1) zF (v1, σ1) b1 hb1 ?_
        obtain ⟨σ4, rfl⟩ : ∃ z, z = b1 := ⟨_, rfl⟩
        try dsimp only at h
        show zJ Γ 4 0 0 σ4 73 [(0, .ref p0)] []
        refine zj_aload_n E dX12_type_73 rfl 0 rfl ?_
        refine zs_getI E zc11 1 (by decide) zw_6_15 rfl dX12_type_74 h (fun x4 h => ?_)
        have e9 := Option.some.inj h
        subst e9
        exact (show zRet Γ cX12_type 4 0 0 (some (.int x4)) σ4 from K) _ _ dX12_type_77
      · refine zj_bipush (v := (-14 : Int32)) E dX12_type_30 (by decide) ?_
        have e9 := Option.some.inj h
        subst e9
        exact (show zRet Γ cX12_type 4 0 0 (some (.int (-14 : Int32))) σ1 from K) _ _ dX12_type_32
    · refine zj_bipush (v := (-12 : Int32)) E dX12_type_15 (by decide) ?_
      have e9 := Option.some.inj h
      subst e9
      exact (show zRet Γ cX12_type 4 0 0 (some (.int (-12 : Int32))) σ1 from K) _ _ dX12_type_17
set_option maxRecDepth 100000 in
theorem kX12_type (l : Launch) (D : va_G) (cs : zCs) (z0 : Nat) (σ : zS) {p0 : Nat} {p1 : Int32} {p2 : Int32} {r : Int32} {σ' : zS} (h : fX12_type σ p0 p1 p2 = some (r, σ')) : zM l D cs z0 yX12_type cX12_type 4 (some .int) { frames := 0, cells := 0, slots := 0, locals := 0 } [.ref p0, .int p1, .int p2] σ (some (.int r)) σ' 0 0 := by
  exact zM_of (by decide) rfl (Or.inl rfl) (Nat.le_of_ble_eq_true rfl) rfl (fun Γ e1 e2 e3 e4 E hN K => wX12_type E σ _ _ _ h K)
