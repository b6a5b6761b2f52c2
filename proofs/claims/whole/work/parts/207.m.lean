/-! X10_init -/
def fX10_init (σ : zS) (p0 : Nat) (p1 : Nat) : Option zS := oNw σ 2 (fun a1 σ1 => oB (fX1_init σ1 a1 9968) (fun σ2 => oPR σ2 10 p0 0 a1 (fun σ3 => oPR σ3 10 p0 1 p1 (fun σ4 => some σ4))))
set_option maxRecDepth 100000 in
theorem wX10_init {Γ : zG} (E : zE Γ cX10_init RX10 2 { frames := 2, cells := 2, slots := 9970, locals := 41 }) (hN : (zgt Γ).name = "<init>") (σ : zS) (p0 : Nat) (p1 : Nat) {R : zS} (h : fX10_init σ p0 p1 = some R) (K : zRet Γ cX10_init 2 2 9970 (none) R) : zJ Γ 2 0 0 σ 0 [(0, .ref p0), (1, .ref p1)] [] := by
  unfold fX10_init at h
  refine zj_aload_n E dX10_init_0 rfl 0 rfl ?_
  refine zs_obj E zw_5_12 zw_1_11 zw_1_12 (by decide) (Nat.le_of_ble_eq_true rfl) dX10_init_1 ?_
  refine zj_aload_n E dX10_init_4 rfl 0 rfl ?_
  refine zt_new E zc1 zw_5_13 zw_1_17 zw_1_18 (by decide) ⟨by decide, by decide⟩ dX10_init_5 h (fun a1 σ1 h => ?_)
  show zJ Γ 2 1 2 σ1 8 [(0, .ref p0), (1, .ref p1)] [.ref a1, .ref p0]
  refine zj_dup E dX10_init_8 rfl ?_
  refine zj_sipush (v := 9968) E dX10_init_9 (by decide) ?_
  obtain ⟨σ2, hc, h⟩ := oB_some h
  refine zs_callI (As := [.int 9968]) (rest := [.ref a1, .ref p0]) E zyX1_init zw_5_16 (kX1_init _ _ _ _ _ (N := 9968) (by decide) hc) rfl rfl rfl ⟨by decide, by decide⟩ ⟨by decide, by decide⟩ (Nat.le_of_ble_eq_true rfl) dX10_init_12 rfl (show zJ Γ 2 2 9970 σ2 15 [(0, .ref p0), (1, .ref p1)] [.ref a1, .ref p0] from ?_)
  refine zs_putFR E zc9 hN 0 (by decide) zw_5_14 rfl rfl rfl dX10_init_15 h (fun σ3 h => ?_)
  refine zj_aload_n E dX10_init_18 rfl 0 rfl ?_
  refine zj_aload_n E dX10_init_19 rfl 1 rfl ?_
  refine zs_putFR E zc9 hN 1 (by decide) zw_5_15 rfl rfl rfl dX10_init_20 h (fun σ4 h => ?_)
  have e9 := Option.some.inj h
  subst e9
  exact (show zRet Γ cX10_init 2 2 9970 (none) σ4 from K) _ _ dX10_init_23
set_option maxRecDepth 100000 in
theorem kX10_init (l : Launch) (D : va_G) (cs : zCs) (z0 : Nat) (σ : zS) {p0 : Nat} {p1 : Nat}  {σ' : zS} (h : fX10_init σ p0 p1 = some σ') : zM l D cs z0 yX10_init cX10_init 2 none { frames := 2, cells := 2, slots := 9970, locals := 41 } [.ref p0, .ref p1] σ none σ' 2 9970 := by
  exact zM_of (by decide) rfl rfl (Nat.le_of_ble_eq_true rfl) rfl (fun Γ e1 e2 e3 e4 E hN K => wX10_init E hN σ _ _ h K)
/-! X10_openChunk -/
def fX10_openChunk (σ : zS) (p0 : Nat) (p1 : Int32) (p2 : Int32) : Option zS := oGR σ 10 p0 0 (fun a1 => oA (zk σ a1 = 2) (oB (fX1_addNumber σ a1 p1) (fun σ1 => oGR σ1 10 p0 0 (fun a2 => oGI σ1 2 a2 1 (fun x1 => oPI σ1 10 p0 2 x1 (fun σ2 => oGR σ2 10 p0 0 (fun a3 => oA (zk σ2 a3 = 2) (oB (fX1_addNumber σ2 a3 p2) (fun σ3 => some σ3)))))))))
set_option maxRecDepth 100000 in
theorem wX10_openChunk {Γ : zG} (E : zE Γ cX10_openChunk RX10 3 { frames := 2, cells := 0, slots := 0, locals := 42 }) (σ : zS) (p0 : Nat) (p1 : Int32) (p2 : Int32) {R : zS} (h : fX10_openChunk σ p0 p1 p2 = some R) (K : zRet Γ cX10_openChunk 3 0 0 (none) R) : zJ Γ 3 0 0 σ 0 [(0, .ref p0), (1, .int p1), (2, .int p2)] [] := by
  unfold fX10_openChunk at h
  refine zj_aload_n E dX10_openChunk_0 rfl 0 rfl ?_
  refine zs_getR E zc9 0 (by decide) zw_5_14 rfl dX10_openChunk_1 h (fun a1 h => ?_)
  refine zj_iload_n E dX10_openChunk_4 rfl 1 rfl ?_
  obtain ⟨hk, h⟩ := oA_some h
  obtain ⟨σ1, hc, h⟩ := oB_some h
  refine zs_callV (As := [.int p1]) (rest := []) E zc1 zyX1_addNumber zw_30_18 (kX1_addNumber _ _ _ _ _ hc) rfl rfl hk rfl ⟨by decide, by decide⟩ ⟨by decide, by decide⟩ (Nat.le_of_ble_eq_true rfl) dX10_openChunk_5 rfl (show zJ Γ 3 0 0 σ1 8 [(0, .ref p0), (1, .int p1), (2, .int p2)] [] from ?_)
  refine zj_aload_n E dX10_openChunk_8 rfl 0 rfl ?_
  refine zj_aload_n E dX10_openChunk_9 rfl 0 rfl ?_
  refine zs_getR E zc9 0 (by decide) zw_5_14 rfl dX10_openChunk_10 h (fun a2 h => ?_)
  refine zs_getIN E zc1 1 (by decide) (znf_6) rfl dX10_openChunk_13 h (fun x1 h => ?_)
  refine zs_putI E zc9 2 (by decide) zw_31_5 rfl rfl dX10_openChunk_16 h (fun σ2 h => ?_)
  refine zj_aload_n E dX10_openChunk_19 rfl 0 rfl ?_
  refine zs_getR E zc9 0 (by decide) zw_5_14 rfl dX10_openChunk_20 h (fun a3 h => ?_)
  refine zj_iload_n E dX10_openChunk_23 rfl 2 rfl ?_
  obtain ⟨hk, h⟩ := oA_some h
  obtain ⟨σ3, hc, h⟩ := oB_some h
  refine zs_callV (As := [.int p2]) (rest := []) E zc1 zyX1_addNumber zw_30_18 (kX1_addNumber _ _ _ _ _ hc) rfl rfl hk rfl ⟨by decide, by decide⟩ ⟨by decide, by decide⟩ (Nat.le_of_ble_eq_true rfl) dX10_openChunk_24 rfl (show zJ Γ 3 0 0 σ3 27 [(0, .ref p0), (1, .int p1), (2, .int p2)] [] from ?_)
  have e9 := Option.some.inj h
  subst e9
  exact (show zRet Γ cX10_openChunk 3 0 0 (none) σ3 from K) _ _ dX10_openChunk_27
set_option maxRecDepth 100000 in
theorem kX10_openChunk (l : Launch) (D : va_G) (cs : zCs) (z0 : Nat) (σ : zS) {p0 : Nat} {p1 : Int32} {p2 : Int32}  {σ' : zS} (h : fX10_openChunk σ p0 p1 p2 = some σ') : zM l D cs z0 yX10_openChunk cX10_openChunk 3 none { frames := 2, cells := 0, slots := 0, locals := 42 } [.ref p0, .int p1, .int p2] σ none σ' 0 0 := by
  exact zM_of (by decide) rfl rfl (Nat.le_of_ble_eq_true rfl) rfl (fun Γ e1 e2 e3 e4 E hN K => wX10_openChunk E σ _ _ _ h K)
/-! X10_closeChunk -/
def fX10_closeChunk (σ : zS) (p0 : Nat) : Option zS := oGR σ 10 p0 0 (fun a1 => oGR σ 10 p0 1 (fun a2 => oGR σ 10 p0 0 (fun a3 => oGI σ 10 p0 2 (fun x1 => oGR σ 10 p0 0 (fun a4 => oGI σ 2 a4 1 (fun x2 => oA (zk σ a2 = 8) (oB (fX8_ofChunk σ a2 a3 x1 x2) (fun x3 => oA (zk σ a1 = 2) (oB (fX1_addNumber σ a1 x3) (fun σ1 => some σ1))))))))))
set_option maxRecDepth 100000 in
theorem wX10_closeChunk {Γ : zG} (E : zE Γ cX10_closeChunk RX10 1 { frames := 2, cells := 0, slots := 0, locals := 46 }) (σ : zS) (p0 : Nat) {R : zS} (h : fX10_closeChunk σ p0 = some R) (K : zRet Γ cX10_closeChunk 1 0 0 (none) R) : zJ Γ 1 0 0 σ 0 [(0, .ref p0)] [] := by
  unfold fX10_closeChunk at h
  refine zj_aload_n E dX10_closeChunk_0 rfl 0 rfl ?_
  refine zs_getR E zc9 0 (by decide) zw_5_14 rfl dX10_closeChunk_1 h (fun a1 h => ?_)
  refine zj_aload_n E dX10_closeChunk_4 rfl 0 rfl ?_
  refine zs_getR E zc9 1 (by decide) zw_5_15 rfl dX10_closeChunk_5 h (fun a2 h => ?_)
  refine zj_aload_n E dX10_closeChunk_8 rfl 0 rfl ?_
  refine zs_getR E zc9 0 (by decide) zw_5_14 rfl dX10_closeChunk_9 h (fun a3 h => ?_)
  refine zj_aload_n E dX10_closeChunk_12 rfl 0 rfl ?_
  refine zs_getI E zc9 2 (by decide) zw_31_5 rfl dX10_closeChunk_13 h (fun x1 h => ?_)
  refine zj_aload_n E dX10_closeChunk_16 rfl 0 rfl ?_
  refine zs_getR E zc9 0 (by decide) zw_5_14 rfl dX10_closeChunk_17 h (fun a4 h => ?_)
  refine zs_getIN E zc1 1 (by decide) (znf_6) rfl dX10_closeChunk_20 h (fun x2 h => ?_)
  obtain ⟨hk, h⟩ := oA_some h
  obtain ⟨x3, hc, h⟩ := oB_some h
  refine zs_callV (As := [.ref a3, .int x1, .int x2]) (rest := [.ref a1]) E zc7 zyX8_ofChunk zw_31_11 (kX8_ofChunk _ _ _ _ _ hc) rfl rfl hk rfl ⟨by decide, by decide⟩ ⟨by decide, by decide⟩ (Nat.le_of_ble_eq_true rfl) dX10_closeChunk_23 rfl (show zJ Γ 1 0 0 σ 26 [(0, .ref p0)] [.int x3, .ref a1] from ?_)
  obtain ⟨hk, h⟩ := oA_some h
  obtain ⟨σ1, hc, h⟩ := oB_some h
  refine zs_callV (As := [.int x3]) (rest := []) E zc1 zyX1_addNumber zw_30_18 (kX1_addNumber _ _ _ _ _ hc) rfl rfl hk rfl ⟨by decide, by decide⟩ ⟨by decide, by decide⟩ (Nat.le_of_ble_eq_true rfl) dX10_closeChunk_26 rfl (show zJ Γ 1 0 0 σ1 29 [(0, .ref p0)] [] from ?_)
  have e9 := Option.some.inj h
  subst e9
  exact (show zRet Γ cX10_closeChunk 1 0 0 (none) σ1 from K) _ _ dX10_closeChunk_29
set_option maxRecDepth 100000 in
theorem kX10_closeChunk (l : Launch) (D : va_G) (cs : zCs) (z0 : Nat) (σ : zS) {p0 : Nat}  {σ' : zS} (h : fX10_closeChunk σ p0 = some σ') : zM l D cs z0 yX10_closeChunk cX10_closeChunk 1 none { frames := 2, cells := 0, slots := 0, locals := 46 } [.ref p0] σ none σ' 0 0 := by
  exact zM_of (by decide) rfl rfl (Nat.le_of_ble_eq_true rfl) rfl (fun Γ e1 e2 e3 e4 E hN K => wX10_closeChunk E σ _ h K)
/-! X10_addHead -/
def fX10_addHead (σ : zS) (p0 : Nat) (p1 : Nat) : Option zS := oA (zk σ p0 = 10) (oB (fX10_openChunk σ p0 13 1229472850) (fun σ1 => oGR σ1 10 p0 0 (fun a1 => oGI σ1 6 p1 4 (fun x1 => oA (zk σ1 a1 = 2) (oB (fX1_addNumber σ1 a1 x1) (fun σ2 => oGR σ2 10 p0 0 (fun a2 => oGI σ2 6 p1 5 (fun x2 => oA (zk σ2 a2 = 2) (oB (fX1_addNumber σ2 a2 x2) (fun σ3 => oGR σ3 10 p0 0 (fun a3 => oA (zk σ3 a3 = 2) (oB (fX1_addNumber σ3 a3 134610944) (fun σ4 => oGR σ4 10 p0 0 (fun a4 => oA (zk σ4 a4 = 2) (oB (fX1_add σ4 a4 0) (fun σ5 => oA (zk σ5 p0 = 10) (oB (fX10_closeChunk σ5 p0) (fun σ6 => some σ6))))))))))))))))))
set_option maxRecDepth 100000 in
theorem wX10_addHead {Γ : zG} (E : zE Γ cX10_addHead RX10 2 { frames := 3, cells := 0, slots := 0, locals := 66 }) (σ : zS) (p0 : Nat) (p1 : Nat) {R : zS} (h : fX10_addHead σ p0 p1 = some R) (K : zRet Γ cX10_addHead 2 0 0 (none) R) : zJ Γ 2 0 0 σ 0 [(0, .ref p0), (1, .ref p1)] [] := by
  unfold fX10_addHead at h
  refine zj_aload_n E dX10_addHead_0 rfl 0 rfl ?_
  refine zj_bipush (v := 13) E dX10_addHead_1 (by decide) ?_
  refine zj_ldc (v := 1229472850) E zw_30_23 dX10_addHead_3 ?_
  obtain ⟨hk, h⟩ := oA_some h
  obtain ⟨σ1, hc, h⟩ := oB_some h
  refine zs_callV (As := [.int 13, .int 1229472850]) (rest := []) E zc9 zyX10_openChunk zw_31_1 (kX10_openChunk _ _ _ _ _ hc) rfl rfl hk rfl ⟨by decide, by decide⟩ ⟨by decide, by decide⟩ (Nat.le_of_ble_eq_true rfl) dX10_addHead_5 rfl (show zJ Γ 2 0 0 σ1 8 [(0, .ref p0), (1, .ref p1)] [] from ?_)
  refine zj_aload_n E dX10_addHead_8 rfl 0 rfl ?_
  refine zs_getR E zc9 0 (by decide) zw_5_14 rfl dX10_addHead_9 h (fun a1 h => ?_)
  refine zj_aload_n E dX10_addHead_12 rfl 1 rfl ?_
  refine zs_getIN E zc5 4 (by decide) (znf_50) rfl dX10_addHead_13 h (fun x1 h => ?_)
  obtain ⟨hk, h⟩ := oA_some h
  obtain ⟨σ2, hc, h⟩ := oB_some h
  refine zs_callV (As := [.int x1]) (rest := []) E zc1 zyX1_addNumber zw_30_18 (kX1_addNumber _ _ _ _ _ hc) rfl rfl hk rfl ⟨by decide, by decide⟩ ⟨by decide, by decide⟩ (Nat.le_of_ble_eq_true rfl) dX10_addHead_16 rfl (show zJ Γ 2 0 0 σ2 19 [(0, .ref p0), (1, .ref p1)] [] from ?_)
  refine zj_aload_n E dX10_addHead_19 rfl 0 rfl ?_
  refine zs_getR E zc9 0 (by decide) zw_5_14 rfl dX10_addHead_20 h (fun a2 h => ?_)
  refine zj_aload_n E dX10_addHead_23 rfl 1 rfl ?_
  refine zs_getIN E zc5 5 (by decide) (znf_52) rfl dX10_addHead_24 h (fun x2 h => ?_)
  obtain ⟨hk, h⟩ := oA_some h
  obtain ⟨σ3, hc, h⟩ := oB_some h
  refine zs_callV (As := [.int x2]) (rest := []) E zc1 zyX1_addNumber zw_30_18 (kX1_addNumber _ _ _ _ _ hc) rfl rfl hk rfl ⟨by decide, by decide⟩ ⟨by decide, by decide⟩ (Nat.le_of_ble_eq_true rfl) dX10_addHead_27 rfl (show zJ Γ 2 0 0 σ3 30 [(0, .ref p0), (1, .ref p1)] [] from ?_)
  refine zj_aload_n E dX10_addHead_30 rfl 0 rfl ?_
  refine zs_getR E zc9 0 (by decide) zw_5_14 rfl dX10_addHead_31 h (fun a3 h => ?_)
  refine zj_ldc (v := 134610944) E zw_31_0 dX10_addHead_34 ?_
  obtain ⟨hk, h⟩ := oA_some h
  obtain ⟨σ4, hc, h⟩ := oB_some h
  refine zs_callV (As := [.int 134610944]) (rest := []) E zc1 zyX1_addNumber zw_30_18 (kX1_addNumber _ _ _ _ _ hc) rfl rfl hk rfl ⟨by decide, by decide⟩ ⟨by decide, by decide⟩ (Nat.le_of_ble_eq_true rfl) dX10_addHead_36 rfl (show zJ Γ 2 0 0 σ4 39 [(0, .ref p0), (1, .ref p1)] [] from ?_)
  refine zj_aload_n E dX10_addHead_39 rfl 0 rfl ?_
  refine zs_getR E zc9 0 (by decide) zw_5_14 rfl dX10_addHead_40 h (fun a4 h => ?_)
  refine zj_iconst (v := 0) E dX10_addHead_43 (by decide) ?_
  obtain ⟨hk, h⟩ := oA_some h
  obtain ⟨σ5, hc, h⟩ := oB_some h
  refine zs_callV (As := [.int 0]) (rest := []) E zc1 zyX1_add zw_31_6 (kX1_add _ _ _ _ _ hc) rfl rfl hk rfl ⟨by decide, by decide⟩ ⟨by decide, by decide⟩ (Nat.le_of_ble_eq_true rfl) dX10_addHead_44 rfl (show zJ Γ 2 0 0 σ5 47 [(0, .ref p0), (1, .ref p1)] [] from ?_)
  refine zj_aload_n E dX10_addHead_47 rfl 0 rfl ?_
  obtain ⟨hk, h⟩ := oA_some h
  obtain ⟨σ6, hc, h⟩ := oB_some h
  refine zs_callV (As := []) (rest := []) E zc9 zyX10_closeChunk zw_31_7 (kX10_closeChunk _ _ _ _ _ hc) rfl rfl hk rfl ⟨by decide, by decide⟩ ⟨by decide, by decide⟩ (Nat.le_of_ble_eq_true rfl) dX10_addHead_48 rfl (show zJ Γ 2 0 0 σ6 51 [(0, .ref p0), (1, .ref p1)] [] from ?_)
  have e9 := Option.some.inj h
  subst e9
  exact (show zRet Γ cX10_addHead 2 0 0 (none) σ6 from K) _ _ dX10_addHead_51
set_option maxRecDepth 100000 in
theorem kX10_addHead (l : Launch) (D : va_G) (cs : zCs) (z0 : Nat) (σ : zS) {p0 : Nat} {p1 : Nat}  {σ' : zS} (h : fX10_addHead σ p0 p1 = some σ') : zM l D cs z0 yX10_addHead cX10_addHead 2 none { frames := 3, cells := 0, slots := 0, locals := 66 } [.ref p0, .ref p1] σ none σ' 0 0 := by
  exact zM_of (by decide) rfl rfl (Nat.le_of_ble_eq_true rfl) rfl (fun Γ e1 e2 e3 e4 E hN K => wX10_addHead E σ _ _ h K)
/-! X10_addSerial -/
def fX10_addSerial (σ : zS) (p0 : Nat) : Option zS := oGR σ 10 p0 0 (fun a1 => oGI σ 10 p0 3 (fun x1 => oA (zk σ a1 = 2) (oB (fX1_addNumber σ a1 x1) (fun σ1 => oGI σ1 10 p0 3 (fun x2 => oPI σ1 10 p0 3 (x2 + (1 : Int32)) (fun σ2 => some σ2))))))
set_option maxRecDepth 100000 in
theorem wX10_addSerial {Γ : zG} (E : zE Γ cX10_addSerial RX10 1 { frames := 2, cells := 0, slots := 0, locals := 42 }) (σ : zS) (p0 : Nat) {R : zS} (h : fX10_addSerial σ p0 = some R) (K : zRet Γ cX10_addSerial 1 0 0 (none) R) : zJ Γ 1 0 0 σ 0 [(0, .ref p0)] [] := by
  unfold fX10_addSerial at h
  refine zj_aload_n E dX10_addSerial_0 rfl 0 rfl ?_
  refine zs_getR E zc9 0 (by decide) zw_5_14 rfl dX10_addSerial_1 h (fun a1 h => ?_)
  refine zj_aload_n E dX10_addSerial_4 rfl 0 rfl ?_
  refine zs_getI E zc9 3 (by decide) zw_30_12 rfl dX10_addSerial_5 h (fun x1 h => ?_)
  obtain ⟨hk, h⟩ := oA_some h
  obtain ⟨σ1, hc, h⟩ := oB_some h
  refine zs_callV (As := [.int x1]) (rest := []) E zc1 zyX1_addNumber zw_30_18 (kX1_addNumber _ _ _ _ _ hc) rfl rfl hk rfl ⟨by decide, by decide⟩ ⟨by decide, by decide⟩ (Nat.le_of_ble_eq_true rfl) dX10_addSerial_8 rfl (show zJ Γ 1 0 0 σ1 11 [(0, .ref p0)] [] from ?_)
  refine zj_aload_n E dX10_addSerial_11 rfl 0 rfl ?_
  refine zj_dup E dX10_addSerial_12 rfl ?_
  refine zs_getI E zc9 3 (by decide) zw_30_12 rfl dX10_addSerial_13 h (fun x2 h => ?_)
  refine zj_iconst (v := 1) E dX10_addSerial_16 (by decide) ?_
  refine zj_iadd E dX10_addSerial_17 ?_
  refine zs_putI E zc9 3 (by decide) zw_30_12 rfl rfl dX10_addSerial_18 h (fun σ2 h => ?_)
  have e9 := Option.some.inj h
  subst e9
  exact (show zRet Γ cX10_addSerial 1 0 0 (none) σ2 from K) _ _ dX10_addSerial_21
set_option maxRecDepth 100000 in
theorem kX10_addSerial (l : Launch) (D : va_G) (cs : zCs) (z0 : Nat) (σ : zS) {p0 : Nat}  {σ' : zS} (h : fX10_addSerial σ p0 = some σ') : zM l D cs z0 yX10_addSerial cX10_addSerial 1 none { frames := 2, cells := 0, slots := 0, locals := 42 } [.ref p0] σ none σ' 0 0 := by
  exact zM_of (by decide) rfl rfl (Nat.le_of_ble_eq_true rfl) rfl (fun Γ e1 e2 e3 e4 E hN K => wX10_addSerial E σ _ h K)
/-! X10_addControl -/
def fX10_addControl (σ : zS) (p0 : Nat) (p1 : Nat) : Option zS := oA (zk σ p0 = 10) (oB (fX10_openChunk σ p0 26 1717785676) (fun σ1 => oA (zk σ1 p0 = 10) (oB (fX10_addSerial σ1 p0) (fun σ2 => oGR σ2 10 p0 0 (fun a1 => oGI σ2 4 p1 1 (fun x1 => oA (zk σ2 a1 = 2) (oB (fX1_addNumber σ2 a1 x1) (fun σ3 => oGR σ3 10 p0 0 (fun a2 => oGI σ3 4 p1 2 (fun x2 => oA (zk σ3 a2 = 2) (oB (fX1_addNumber σ3 a2 x2) (fun σ4 => oGR σ4 10 p0 0 (fun a3 => oGI σ4 4 p1 3 (fun x3 => oA (zk σ4 a3 = 2) (oB (fX1_addNumber σ4 a3 x3) (fun σ5 => oGR σ5 10 p0 0 (fun a4 => oGI σ5 4 p1 4 (fun x4 => oA (zk σ5 a4 = 2) (oB (fX1_addNumber σ5 a4 x4) (fun σ6 => oGR σ6 10 p0 0 (fun a5 => oA (zk σ6 a5 = 2) (oB (fX1_addNumber σ6 a5 65546) (fun σ7 => oGR σ7 10 p0 0 (fun a6 => oGI σ7 4 p1 5 (fun x5 => oA (zk σ7 a6 = 2) (oB (fX1_add σ7 a6 x5) (fun σ8 => oGR σ8 10 p0 0 (fun a7 => oGI σ8 4 p1 6 (fun x6 => oA (zk σ8 a7 = 2) (oB (fX1_add σ8 a7 x6) (fun σ9 => oA (zk σ9 p0 = 10) (oB (fX10_closeChunk σ9 p0) (fun σ10 => some σ10)))))))))))))))))))))))))))))))))
set_option maxRecDepth 100000 in
theorem wX10_addControl {Γ : zG} (E : zE Γ cX10_addControl RX10 2 { frames := 3, cells := 0, slots := 0, locals := 66 }) (σ : zS) (p0 : Nat) (p1 : Nat) {R : zS} (h : fX10_addControl σ p0 p1 = some R) (K : zRet Γ cX10_addControl 2 0 0 (none) R) : zJ Γ 2 0 0 σ 0 [(0, .ref p0), (1, .ref p1)] [] := by
  unfold fX10_addControl at h
  refine zj_aload_n E dX10_addControl_0 rfl 0 rfl ?_
  refine zj_bipush (v := 26) E dX10_addControl_1 (by decide) ?_
  refine zj_ldc (v := 1717785676) E zw_31_16 dX10_addControl_3 ?_
  obtain ⟨hk, h⟩ := oA_some h
  obtain ⟨σ1, hc, h⟩ := oB_some h
  refine zs_callV (As := [.int 26, .int 1717785676]) (rest := []) E zc9 zyX10_openChunk zw_31_1 (kX10_openChunk _ _ _ _ _ hc) rfl rfl hk rfl ⟨by decide, by decide⟩ ⟨by decide, by decide⟩ (Nat.le_of_ble_eq_true rfl) dX10_addControl_5 rfl (show zJ Γ 2 0 0 σ1 8 [(0, .ref p0), (1, .ref p1)] [] from ?_)
  refine zj_aload_n E dX10_addControl_8 rfl 0 rfl ?_
  obtain ⟨hk, h⟩ := oA_some h
  obtain ⟨σ2, hc, h⟩ := oB_some h
  refine zs_callV (As := []) (rest := []) E zc9 zyX10_addSerial zw_31_18 (kX10_addSerial _ _ _ _ _ hc) rfl rfl hk rfl ⟨by decide, by decide⟩ ⟨by decide, by decide⟩ (Nat.le_of_ble_eq_true rfl) dX10_addControl_9 rfl (show zJ Γ 2 0 0 σ2 12 [(0, .ref p0), (1, .ref p1)] [] from ?_)
  refine zj_aload_n E dX10_addControl_12 rfl 0 rfl ?_
  refine zs_getR E zc9 0 (by decide) zw_5_14 rfl dX10_addControl_13 h (fun a1 h => ?_)
  refine zj_aload_n E dX10_addControl_16 rfl 1 rfl ?_
  refine zs_getIN E zc3 1 (by decide) (znf_20) rfl dX10_addControl_17 h (fun x1 h => ?_)
  obtain ⟨hk, h⟩ := oA_some h
  obtain ⟨σ3, hc, h⟩ := oB_some h
  refine zs_callV (As := [.int x1]) (rest := []) E zc1 zyX1_addNumber zw_30_18 (kX1_addNumber _ _ _ _ _ hc) rfl rfl hk rfl ⟨by decide, by decide⟩ ⟨by decide, by decide⟩ (Nat.le_of_ble_eq_true rfl) dX10_addControl_20 rfl (show zJ Γ 2 0 0 σ3 23 [(0, .ref p0), (1, .ref p1)] [] from ?_)
  refine zj_aload_n E dX10_addControl_23 rfl 0 rfl ?_
  refine zs_getR E zc9 0 (by decide) zw_5_14 rfl dX10_addControl_24 h (fun a2 h => ?_)
  refine zj_aload_n E dX10_addControl_27 rfl 1 rfl ?_
  refine zs_getIN E zc3 2 (by decide) (znf_25) rfl dX10_addControl_28 h (fun x2 h => ?_)
  obtain ⟨hk, h⟩ := oA_some h
  obtain ⟨σ4, hc, h⟩ := oB_some h
  refine zs_callV (As := [.int x2]) (rest := []) E zc1 zyX1_addNumber zw_30_18 (kX1_addNumber _ _ _ _ _ hc) rfl rfl hk rfl ⟨by decide, by decide⟩ ⟨by decide, by decide⟩ (Nat.le_of_ble_eq_true rfl) dX10_addControl_31 rfl (show zJ Γ 2 0 0 σ4 34 [(0, .ref p0), (1, .ref p1)] [] from ?_)
  refine zj_aload_n E dX10_addControl_34 rfl 0 rfl ?_
  refine zs_getR E zc9 0 (by decide) zw_5_14 rfl dX10_addControl_35 h (fun a3 h => ?_)
  refine zj_aload_n E dX10_addControl_38 rfl 1 rfl ?_
  refine zs_getIN E zc3 3 (by decide) (znf_29) rfl dX10_addControl_39 h (fun x3 h => ?_)
  obtain ⟨hk, h⟩ := oA_some h
  obtain ⟨σ5, hc, h⟩ := oB_some h
  refine zs_callV (As := [.int x3]) (rest := []) E zc1 zyX1_addNumber zw_30_18 (kX1_addNumber _ _ _ _ _ hc) rfl rfl hk rfl ⟨by decide, by decide⟩ ⟨by decide, by decide⟩ (Nat.le_of_ble_eq_true rfl) dX10_addControl_42 rfl (show zJ Γ 2 0 0 σ5 45 [(0, .ref p0), (1, .ref p1)] [] from ?_)
  refine zj_aload_n E dX10_addControl_45 rfl 0 rfl ?_
  refine zs_getR E zc9 0 (by decide) zw_5_14 rfl dX10_addControl_46 h (fun a4 h => ?_)
  refine zj_aload_n E dX10_addControl_49 rfl 1 rfl ?_
  refine zs_getIN E zc3 4 (by decide) (znf_32) rfl dX10_addControl_50 h (fun x4 h => ?_)
  obtain ⟨hk, h⟩ := oA_some h
  obtain ⟨σ6, hc, h⟩ := oB_some h
  refine zs_callV (As := [.int x4]) (rest := []) E zc1 zyX1_addNumber zw_30_18 (kX1_addNumber _ _ _ _ _ hc) rfl rfl hk rfl ⟨by decide, by decide⟩ ⟨by decide, by decide⟩ (Nat.le_of_ble_eq_true rfl) dX10_addControl_53 rfl (show zJ Γ 2 0 0 σ6 56 [(0, .ref p0), (1, .ref p1)] [] from ?_)
  refine zj_aload_n E dX10_addControl_56 rfl 0 rfl ?_
  refine zs_getR E zc9 0 (by decide) zw_5_14 rfl dX10_addControl_57 h (fun a5 h => ?_)
  refine zj_ldc (v := 65546) E zw_31_17 dX10_addControl_60 ?_
  obtain ⟨hk, h⟩ := oA_some h
  obtain ⟨σ7, hc, h⟩ := oB_some h
  refine zs_callV (As := [.int 65546]) (rest := []) E zc1 zyX1_addNumber zw_30_18 (kX1_addNumber _ _ _ _ _ hc) rfl rfl hk rfl ⟨by decide, by decide⟩ ⟨by decide, by decide⟩ (Nat.le_of_ble_eq_true rfl) dX10_addControl_62 rfl (show zJ Γ 2 0 0 σ7 65 [(0, .ref p0), (1, .ref p1)] [] from ?_)
  refine zj_aload_n E dX10_addControl_65 rfl 0 rfl ?_
  refine zs_getR E zc9 0 (by decide) zw_5_14 rfl dX10_addControl_66 h (fun a6 h => ?_)
  refine zj_aload_n E dX10_addControl_69 rfl 1 rfl ?_
  refine zs_getIN E zc3 5 (by decide) (znf_35) rfl dX10_addControl_70 h (fun x5 h => ?_)
  obtain ⟨hk, h⟩ := oA_some h
  obtain ⟨σ8, hc, h⟩ := oB_some h
  refine zs_callV (As := [.int x5]) (rest := []) E zc1 zyX1_add zw_31_6 (kX1_add _ _ _ _ _ hc) rfl rfl hk rfl ⟨by decide, by decide⟩ ⟨by decide, by decide⟩ (Nat.le_of_ble_eq_true rfl) dX10_addControl_73 rfl (show zJ Γ 2 0 0 σ8 76 [(0, .ref p0), (1, .ref p1)] [] from ?_)
  refine zj_aload_n E dX10_addControl_76 rfl 0 rfl ?_
  refine zs_getR E zc9 0 (by decide) zw_5_14 rfl dX10_addControl_77 h (fun a7 h => ?_)
  refine zj_aload_n E dX10_addControl_80 rfl 1 rfl ?_
  refine zs_getIN E zc3 6 (by decide) (znf_38) rfl dX10_addControl_81 h (fun x6 h => ?_)
  obtain ⟨hk, h⟩ := oA_some h
  obtain ⟨σ9, hc, h⟩ := oB_some h
  refine zs_callV (As := [.int x6]) (rest := []) E zc1 zyX1_add zw_31_6 (kX1_add _ _ _ _ _ hc) rfl rfl hk rfl ⟨by decide, by decide⟩ ⟨by decide, by decide⟩ (Nat.le_of_ble_eq_true rfl) dX10_addControl_84 rfl (show zJ Γ 2 0 0 σ9 87 [(0, .ref p0), (1, .ref p1)] [] from ?_)
  refine zj_aload_n E dX10_addControl_87 rfl 0 rfl ?_
  obtain ⟨hk, h⟩ := oA_some h
  obtain ⟨σ10, hc, h⟩ := oB_some h
  refine zs_callV (As := []) (rest := []) E zc9 zyX10_closeChunk zw_31_7 (kX10_closeChunk _ _ _ _ _ hc) rfl rfl hk rfl ⟨by decide, by decide⟩ ⟨by decide, by decide⟩ (Nat.le_of_ble_eq_true rfl) dX10_addControl_88 rfl (show zJ Γ 2 0 0 σ10 91 [(0, .ref p0), (1, .ref p1)] [] from ?_)
  have e9 := Option.some.inj h
  subst e9
  exact (show zRet Γ cX10_addControl 2 0 0 (none) σ10 from K) _ _ dX10_addControl_91
set_option maxRecDepth 100000 in
theorem kX10_addControl (l : Launch) (D : va_G) (cs : zCs) (z0 : Nat) (σ : zS) {p0 : Nat} {p1 : Nat}  {σ' : zS} (h : fX10_addControl σ p0 p1 = some σ') : zM l D cs z0 yX10_addControl cX10_addControl 2 none { frames := 3, cells := 0, slots := 0, locals := 66 } [.ref p0, .ref p1] σ none σ' 0 0 := by
  exact zM_of (by decide) rfl rfl (Nat.le_of_ble_eq_true rfl) rfl (fun Γ e1 e2 e3 e4 E hN K => wX10_addControl E σ _ _ h K)
/-! X10_rawSize -/
def fX10_rawSize (σ : zS) (p0 : Nat) : Option Int32 := oGI σ 4 p0 2 (fun x1 => oGI σ 4 p0 1 (fun x2 => some (x1 * ((1 : Int32) + ((4 : Int32) * x2)))))
set_option maxRecDepth 100000 in
theorem wX10_rawSize {Γ : zG} (E : zE Γ cX10_rawSize RX10 1 { frames := 0, cells := 0, slots := 0, locals := 0 }) (σ : zS) (p0 : Nat) {R : Int32} (h : fX10_rawSize σ p0 = some R) (K : zRet Γ cX10_rawSize 1 0 0 (some (.int R)) σ) : zJ Γ 1 0 0 σ 0 [(0, .ref p0)] [] := by
  unfold fX10_rawSize at h
  refine zj_aload_n E dX10_rawSize_0 rfl 0 rfl ?_
  refine zs_getIN E zc3 2 (by decide) (znf_25) rfl dX10_rawSize_1 h (fun x1 h => ?_)
  refine zj_iconst (v := 1) E dX10_rawSize_4 (by decide) ?_
  refine zj_iconst (v := 4) E dX10_rawSize_5 (by decide) ?_
  refine zj_aload_n E dX10_rawSize_6 rfl 0 rfl ?_
  refine zs_getIN E zc3 1 (by decide) (znf_20) rfl dX10_rawSize_7 h (fun x2 h => ?_)
  refine zj_imul E dX10_rawSize_10 ?_
  refine zj_iadd E dX10_rawSize_11 ?_
  refine zj_imul E dX10_rawSize_12 ?_
  have e9 := Option.some.inj h
  subst e9
  exact (show zRet Γ cX10_rawSize 1 0 0 (some (.int (x1 * ((1 : Int32) + ((4 : Int32) * x2))))) σ from K) _ _ dX10_rawSize_13
set_option maxRecDepth 100000 in
theorem kX10_rawSize (l : Launch) (D : va_G) (cs : zCs) (z0 : Nat) (σ : zS) {p0 : Nat} {r : Int32} (h : fX10_rawSize σ p0 = some r) : zM l D cs z0 yX10_rawSize cX10_rawSize 1 (some .int) { frames := 0, cells := 0, slots := 0, locals := 0 } [.ref p0] σ (some (.int r)) σ 0 0 := by
  exact zM_of (by decide) rfl (Or.inl rfl) (Nat.le_of_ble_eq_true rfl) rfl (fun Γ e1 e2 e3 e4 E hN K => wX10_rawSize E σ _ h K)
/-! X10_addPacked -/
def jX10_addPacked_83 (Γ : zG) (l0 : Nat) (l1 : Nat) (l3 : Int32) : (Int32 × zS) → Prop := fun x => zJ Γ 6 0 0 x.2 83 [(0, .ref l0), (1, .ref l1), (3, .int l3), (4, .int x.1)] []
def eX10_addPacked_83 (Γ : zG) (l0 : Nat) (l1 : Nat) (l3 : Int32) : zS → Prop := fun b => zJ Γ 6 0 0 b 146 [(0, .ref l0), (3, .int l3)] []
def jX10_addPacked_103 (Γ : zG) (l0 : Nat) (l1 : Nat) (l3 : Int32) (l4 : Int32) : (Int32 × zS) → Prop := fun x => zJ Γ 6 0 0 x.2 103 [(0, .ref l0), (1, .ref l1), (3, .int l3), (4, .int l4), (5, .int x.1)] []
def eX10_addPacked_103 (Γ : zG) (l0 : Nat) (l1 : Nat) (l3 : Int32) (l4 : Int32) : zS → Prop := fun b => zJ Γ 6 0 0 b 140 [(0, .ref l0), (1, .ref l1), (3, .int l3), (4, .int l4)] []
def bX10_addPacked_103 (l0 : Nat) (l1 : Nat) (l3 : Int32) (l4 : Int32) (l5 : Int32) (σ : zS) : Option ((Int32 × zS) ⊕ zS) := oGI σ 4 l1 1 (fun x4 => (if x4 ≤ l5 then some (.inr σ) else oGR σ 10 l0 0 (fun a10 => oGR σ 4 l1 0 (fun a11 => oGI σ 4 l1 1 (fun x5 => oLd σ 21 a11 ((l4 * x5) + l5) (fun x6 => oA (zk σ a10 = 2) (oB (fX1_addNumber σ a10 x6) (fun σ9 => oL (l5 + 1) (fun v1 => some (.inl (v1, σ9)))))))))))
set_option maxRecDepth 100000 in
theorem wX10_addPacked_L103 {Γ : zG} (E : zE Γ cX10_addPacked RX10 6 { frames := 2, cells := 0, slots := 0, locals := 46 }) (l0 : Nat) (l1 : Nat) (l3 : Int32) (l4 : Int32) : ∀ x R, (fun x => bX10_addPacked_103 l0 l1 l3 l4 x.1 x.2) x = some R → Sum.elim (jX10_addPacked_103 Γ l0 l1 l3 l4) (eX10_addPacked_103 Γ l0 l1 l3 l4) R → jX10_addPacked_103 Γ l0 l1 l3 l4 x := by
  intro x R h K
  obtain ⟨l5, σ⟩ := x
  have h : bX10_addPacked_103 l0 l1 l3 l4 l5 σ = some R := h
  show zJ Γ 6 0 0 σ 103 [(0, .ref l0), (1, .ref l1), (3, .int l3), (4, .int l4), (5, .int l5)] []
  unfold bX10_addPacked_103 at h
  refine zj_iload E dX10_addPacked_103 4 rfl ?_
  refine zj_aload_n E dX10_addPacked_105 rfl 1 rfl ?_
  refine zs_getIN E zc3 1 (by decide) (znf_20) rfl dX10_addPacked_106 h (fun x4 h => ?_)
  refine zj_icmp_ge (tgt := 140) E dX10_addPacked_109 (by decide) h (fun h => ?_) (fun h => ?_)
  · have e9 := Option.some.inj h
    subst e9
    refine zj_lv [0, 1, 2, 3] rfl ?_
    exact K
  · refine zj_aload_n E dX10_addPacked_112 rfl 0 rfl ?_
    refine zs_getR E zc9 0 (by decide) zw_5_14 rfl dX10_addPacked_113 h (fun a10 h => ?_)
    refine zj_aload_n E dX10_addPacked_116 rfl 1 rfl ?_
    refine zs_getRN E zc3 0 (by decide) (znf_16) rfl dX10_addPacked_117 h (fun a11 h => ?_)
    refine zj_iload E dX10_addPacked_120 3 rfl ?_
    refine zj_aload_n E dX10_addPacked_122 rfl 1 rfl ?_
    refine zs_getIN E zc3 1 (by decide) (znf_20) rfl dX10_addPacked_123 h (fun x5 h => ?_)
    refine zj_imul E dX10_addPacked_126 ?_
    refine zj_iload E dX10_addPacked_127 4 rfl ?_
    refine zj_iadd E dX10_addPacked_129 ?_
    refine zs_iald E dX10_addPacked_130 h (fun x6 h => ?_)
    obtain ⟨hk, h⟩ := oA_some h
    obtain ⟨σ9, hc, h⟩ := oB_some h
    refine zs_callV (As := [.int x6]) (rest := []) E zc1 zyX1_addNumber zw_30_18 (kX1_addNumber _ _ _ _ _ hc) rfl rfl hk rfl ⟨by decide, by decide⟩ ⟨by decide, by decide⟩ (Nat.le_of_ble_eq_true rfl) dX10_addPacked_131 rfl (show zJ Γ 6 0 0 σ9 134 [(0, .ref l0), (1, .ref l1), (3, .int l3), (4, .int l4), (5, .int l5)] [] from ?_)
    refine zs_iinc (lv2 := fun v1 => [(5, .int v1), (0, .ref l0), (1, .ref l1), (3, .int l3), (4, .int l4)]) E dX10_addPacked_134 4 rfl (by decide) (by decide) (fun _ => rfl) h (fun v1 h => ?_)
    refine zj_goto (tgt := 103) E dX10_addPacked_137 (by decide) ?_
    have e9 := Option.some.inj h
    subst e9
    refine zj_lv [1, 2, 3, 4, 0] rfl ?_
    exact K
def bX10_addPacked_83 (l0 : Nat) (l1 : Nat) (l3 : Int32) (l4 : Int32) (σ : zS) : Option ((Int32 × zS) ⊕ zS) := oGI σ 4 l1 2 (fun x3 => (if x3 ≤ l4 then some (.inr σ) else oGR σ 10 l0 0 (fun a9 => oA (zk σ a9 = 2) (oB (fX1_add σ a9 0) (fun σ8 => oB (zloop zF (fun x => bX10_addPacked_103 l0 l1 l3 l4 x.1 x.2) (0, σ8)) (fun b1 => (fun σ10 => oL (l4 + 1) (fun v2 => some (.inl (v2, σ10)))) b1))))))
set_option maxRecDepth 100000 in
theorem wX10_addPacked_L83 {Γ : zG} (E : zE Γ cX10_addPacked RX10 6 { frames := 2, cells := 0, slots := 0, locals := 46 }) (l0 : Nat) (l1 : Nat) (l3 : Int32) : ∀ x R, (fun x => bX10_addPacked_83 l0 l1 l3 x.1 x.2) x = some R → Sum.elim (jX10_addPacked_83 Γ l0 l1 l3) (eX10_addPacked_83 Γ l0 l1 l3) R → jX10_addPacked_83 Γ l0 l1 l3 x := by
  intro x R h K
  obtain ⟨l4, σ⟩ := x
  have h : bX10_addPacked_83 l0 l1 l3 l4 σ = some R := h
  show zJ Γ 6 0 0 σ 83 [(0, .ref l0), (1, .ref l1), (3, .int l3), (4, .int l4)] []
  unfold bX10_addPacked_83 at h
  refine zj_iload E dX10_addPacked_83 3 rfl ?_
  refine zj_aload_n E dX10_addPacked_85 rfl 1 rfl ?_
  refine zs_getIN E zc3 2 (by decide) (znf_25) rfl dX10_addPacked_86 h (fun x3 h => ?_)
  refine zj_icmp_ge (tgt := 146) E dX10_addPacked_89 (by decide) h (fun h => ?_) (fun h => ?_)
  · have e9 := Option.some.inj h
    subst e9
    refine zj_lv [0, 2] rfl ?_
    exact K
  · refine zj_aload_n E dX10_addPacked_92 rfl 0 rfl ?_
    refine zs_getR E zc9 0 (by decide) zw_5_14 rfl dX10_addPacked_93 h (fun a9 h => ?_)
    refine zj_iconst (v := 0) E dX10_addPacked_96 (by decide) ?_
    obtain ⟨hk, h⟩ := oA_some h
    obtain ⟨σ8, hc, h⟩ := oB_some h
    refine zs_callV (As := [.int 0]) (rest := []) E zc1 zyX1_add zw_31_6 (kX1_add _ _ _ _ _ hc) rfl rfl hk rfl ⟨by decide, by decide⟩ ⟨by decide, by decide⟩ (Nat.le_of_ble_eq_true rfl) dX10_addPacked_97 rfl (show zJ Γ 6 0 0 σ8 100 [(0, .ref l0), (1, .ref l1), (3, .int l3), (4, .int l4)] [] from ?_)
    refine zj_iconst (v := 0) E dX10_addPacked_100 (by decide) ?_
    refine zj_istore (lv2 := [(5, .int 0), (0, .ref l0), (1, .ref l1), (3, .int l3), (4, .int l4)]) E dX10_addPacked_101 (by decide) rfl ?_
    obtain ⟨b1, hb1, h⟩ := oB_some h
    refine zj_lv [1, 2, 3, 4, 0] rfl ?_
    refine zj_loop (wX10_addPacked_L103 E l0 l1 l3 l4) zF (0, σ8) b1 hb1 ?_
    obtain ⟨σ10, rfl⟩ : ∃ z, z = b1 := ⟨_, rfl⟩
    try dsimp only at h
    show zJ Γ 6 0 0 σ10 140 [(0, .ref l0), (1, .ref l1), (3, .int l3), (4, .int l4)] []
    refine zs_iinc (lv2 := fun v2 => [(4, .int v2), (0, .ref l0), (1, .ref l1), (3, .int l3)]) E dX10_addPacked_140 3 rfl (by decide) (by decide) (fun _ => rfl) h (fun v2 h => ?_)
    refine zj_goto (tgt := 83) E dX10_addPacked_143 (by decide) ?_
    have e9 := Option.some.inj h
    subst e9
    refine zj_lv [1, 2, 3, 0] rfl ?_
    exact K
def fX10_addPacked (σ : zS) (p0 : Nat) (p1 : Nat) : Option zS := oB (fX10_rawSize σ p1) (fun x1 => oGR σ 10 p0 0 (fun a1 => oA (zk σ a1 = 2) (oB (fX1_add σ a1 120) (fun σ1 => oGR σ1 10 p0 0 (fun a2 => oA (zk σ1 a2 = 2) (oB (fX1_add σ1 a2 1) (fun σ2 => oGR σ2 10 p0 0 (fun a3 => oA (zk σ2 a3 = 2) (oB (fX1_add σ2 a3 1) (fun σ3 => oGR σ3 10 p0 0 (fun a4 => oA (zk σ3 a4 = 2) (oB (fX1_add σ3 a4 x1) (fun σ4 => oGR σ4 10 p0 0 (fun a5 => oA (zk σ4 a5 = 2) (oB (fX1_add σ4 a5 ((x1.toUInt32 >>> ((8 : Int32).toUInt32 &&& Int32.toUInt32 31)).toInt32)) (fun σ5 => oGR σ5 10 p0 0 (fun a6 => oA (zk σ5 a6 = 2) (oB (fX1_add σ5 a6 (x1 ^^^ (-1 : Int32))) (fun σ6 => oGR σ6 10 p0 0 (fun a7 => oA (zk σ6 a7 = 2) (oB (fX1_add σ6 a7 (((x1 ^^^ (-1 : Int32)).toUInt32 >>> ((8 : Int32).toUInt32 &&& Int32.toUInt32 31)).toInt32)) (fun σ7 => oGR σ7 10 p0 0 (fun a8 => oGI σ7 2 a8 1 (fun x2 => oB (zloop zF (fun x => bX10_addPacked_83 p0 p1 x2 x.1 x.2) (0, σ7)) (fun b2 => (fun σ11 => oGR σ11 10 p0 0 (fun a12 => oGR σ11 10 p0 0 (fun a13 => oGR σ11 10 p0 0 (fun a14 => oGI σ11 2 a14 1 (fun x7 => oB (fX8_ofRaw σ11 a13 x2 x7) (fun x8 => oA (zk σ11 a12 = 2) (oB (fX1_addNumber σ11 a12 x8) (fun σ12 => some σ12)))))))) b2)))))))))))))))))))))))))
set_option maxRecDepth 100000 in
theorem wX10_addPacked {Γ : zG} (E : zE Γ cX10_addPacked RX10 6 { frames := 2, cells := 0, slots := 0, locals := 46 }) (σ : zS) (p0 : Nat) (p1 : Nat) {R : zS} (h : fX10_addPacked σ p0 p1 = some R) (K : zRet Γ cX10_addPacked 6 0 0 (none) R) : zJ Γ 6 0 0 σ 0 [(0, .ref p0), (1, .ref p1)] [] := by
  unfold fX10_addPacked at h
  refine zj_aload_n E dX10_addPacked_0 rfl 1 rfl ?_
  obtain ⟨x1, hc, h⟩ := oB_some h
  refine zs_callS (As := [.ref p1]) (rest := []) E zyX10_rawSize zw_32_4 (kX10_rawSize _ _ _ _ _ hc) rfl rfl rfl ⟨by decide, by decide⟩ ⟨by decide, by decide⟩ (Nat.le_of_ble_eq_true rfl) dX10_addPacked_1 rfl (show zJ Γ 6 0 0 σ 4 [(0, .ref p0), (1, .ref p1)] [.int x1] from ?_)
  refine zj_istore_n (lv2 := [(2, .int x1), (0, .ref p0), (1, .ref p1)]) E dX10_addPacked_4 rfl (by decide) rfl ?_
  refine zj_aload_n E dX10_addPacked_5 rfl 1 rfl ?_
  refine zs_getR E zc9 0 (by decide) zw_5_14 rfl dX10_addPacked_6 h (fun a1 h => ?_)
  refine zj_bipush (v := 120) E dX10_addPacked_9 (by decide) ?_
  obtain ⟨hk, h⟩ := oA_some h
  obtain ⟨σ1, hc, h⟩ := oB_some h
  refine zs_callV (As := [.int 120]) (rest := []) E zc1 zyX1_add zw_31_6 (kX1_add _ _ _ _ _ hc) rfl rfl hk rfl ⟨by decide, by decide⟩ ⟨by decide, by decide⟩ (Nat.le_of_ble_eq_true rfl) dX10_addPacked_11 rfl (show zJ Γ 6 0 0 σ1 14 [(2, .int x1), (0, .ref p0), (1, .ref p1)] [] from ?_)
  refine zj_aload_n E dX10_addPacked_14 rfl 1 rfl ?_
  refine zs_getR E zc9 0 (by decide) zw_5_14 rfl dX10_addPacked_15 h (fun a2 h => ?_)
  refine zj_iconst (v := 1) E dX10_addPacked_18 (by decide) ?_
  obtain ⟨hk, h⟩ := oA_some h
  obtain ⟨σ2, hc, h⟩ := oB_some h
  refine zs_callV (As := [.int 1]) (rest := []) E zc1 zyX1_add zw_31_6 (kX1_add _ _ _ _ _ hc) rfl rfl hk rfl ⟨by decide, by decide⟩ ⟨by decide, by decide⟩ (Nat.le_of_ble_eq_true rfl) dX10_addPacked_19 rfl (show zJ Γ 6 0 0 σ2 22 [(2, .int x1), (0, .ref p0), (1, .ref p1)] [] from ?_)
  refine zj_aload_n E dX10_addPacked_22 rfl 1 rfl ?_
  refine zs_getR E zc9 0 (by decide) zw_5_14 rfl dX10_addPacked_23 h (fun a3 h => ?_)
  refine zj_iconst (v := 1) E dX10_addPacked_26 (by decide) ?_
  obtain ⟨hk, h⟩ := oA_some h
  obtain ⟨σ3, hc, h⟩ := oB_some h
  refine zs_callV (As := [.int 1]) (rest := []) E zc1 zyX1_add zw_31_6 (kX1_add _ _ _ _ _ hc) rfl rfl hk rfl ⟨by decide, by decide⟩ ⟨by decide, by decide⟩ (Nat.le_of_ble_eq_true rfl) dX10_addPacked_27 rfl (show zJ Γ 6 0 0 σ3 30 [(2, .int x1), (0, .ref p0), (1, .ref p1)] [] from ?_)
  refine zj_aload_n E dX10_addPacked_30 rfl 1 rfl ?_
  refine zs_getR E zc9 0 (by decide) zw_5_14 rfl dX10_addPacked_31 h (fun a4 h => ?_)
  refine zj_iload_n E dX10_addPacked_34 rfl 0 rfl ?_
  obtain ⟨hk, h⟩ := oA_some h
  obtain ⟨σ4, hc, h⟩ := oB_some h
  refine zs_callV (As := [.int x1]) (rest := []) E zc1 zyX1_add zw_31_6 (kX1_add _ _ _ _ _ hc) rfl rfl hk rfl ⟨by decide, by decide⟩ ⟨by decide, by decide⟩ (Nat.le_of_ble_eq_true rfl) dX10_addPacked_35 rfl (show zJ Γ 6 0 0 σ4 38 [(2, .int x1), (0, .ref p0), (1, .ref p1)] [] from ?_)
  refine zj_aload_n E dX10_addPacked_38 rfl 1 rfl ?_
  refine zs_getR E zc9 0 (by decide) zw_5_14 rfl dX10_addPacked_39 h (fun a5 h => ?_)
  refine zj_iload_n E dX10_addPacked_42 rfl 0 rfl ?_
  refine zj_bipush (v := 8) E dX10_addPacked_43 (by decide) ?_
  refine zj_iushr E dX10_addPacked_45 ?_
  obtain ⟨hk, h⟩ := oA_some h
  obtain ⟨σ5, hc, h⟩ := oB_some h
  refine zs_callV (As := [.int ((x1.toUInt32 >>> ((8 : Int32).toUInt32 &&& Int32.toUInt32 31)).toInt32)]) (rest := []) E zc1 zyX1_add zw_31_6 (kX1_add _ _ _ _ _ hc) rfl rfl hk rfl ⟨by decide, by decide⟩ ⟨by decide, by decide⟩ (Nat.le_of_ble_eq_true rfl) dX10_addPacked_46 rfl (show zJ Γ 6 0 0 σ5 49 [(2, .int x1), (0, .ref p0), (1, .ref p1)] [] from ?_)
  refine zj_aload_n E dX10_addPacked_49 rfl 1 rfl ?_
  refine zs_getR E zc9 0 (by decide) zw_5_14 rfl dX10_addPacked_50 h (fun a6 h => ?_)
  refine zj_iload_n E dX10_addPacked_53 rfl 0 rfl ?_
  refine zj_iconst (v := (-1 : Int32)) E dX10_addPacked_54 (by decide) ?_
  refine zj_ixor E dX10_addPacked_55 ?_
  obtain ⟨hk, h⟩ := oA_some h
  obtain ⟨σ6, hc, h⟩ := oB_some h
  refine zs_callV (As := [.int (x1 ^^^ (-1 : Int32))]) (rest := []) E zc1 zyX1_add zw_31_6 (kX1_add _ _ _ _ _ hc) rfl rfl hk rfl ⟨by decide, by decide⟩ ⟨by decide, by decide⟩ (Nat.le_of_ble_eq_true rfl) dX10_addPacked_56 rfl (show zJ Γ 6 0 0 σ6 59 [(2, .int x1), (0, .ref p0), (1, .ref p1)] [] from ?_)
  refine zj_aload_n E dX10_addPacked_59 rfl 1 rfl ?_
  refine zs_getR E zc9 0 (by decide) zw_5_14 rfl dX10_addPacked_60 h (fun a7 h => ?_)
  refine zj_iload_n E dX10_addPacked_63 rfl 0 rfl ?_
  refine zj_iconst (v := (-1 : Int32)) E dX10_addPacked_64 (by decide) ?_
  refine zj_ixor E dX10_addPacked_65 ?_
  refine zj_bipush (v := 8) E dX10_addPacked_66 (by decide) ?_
  refine zj_iushr E dX10_addPacked_68 ?_
  obtain ⟨hk, h⟩ := oA_some h
  obtain ⟨σ7, hc, h⟩ := oB_some h
  refine zs_callV (As := [.int (((x1 ^^^ (-1 : Int32)).toUInt32 >>> ((8 : Int32).toUInt32 &&& Int32.toUInt32 31)).toInt32)]) (rest := []) E zc1 zyX1_add zw_31_6 (kX1_add _ _ _ _ _ hc) rfl rfl hk rfl ⟨by decide, by decide⟩ ⟨by decide, by decide⟩ (Nat.le_of_ble_eq_true rfl) dX10_addPacked_69 rfl (show zJ Γ 6 0 0 σ7 72 [(2, .int x1), (0, .ref p0), (1, .ref p1)] [] from ?_)
  refine zj_aload_n E dX10_addPacked_72 rfl 1 rfl ?_
  refine zs_getR E zc9 0 (by decide) zw_5_14 rfl dX10_addPacked_73 h (fun a8 h => ?_)
  refine zs_getIN E zc1 1 (by decide) (znf_6) rfl dX10_addPacked_76 h (fun x2 h => ?_)
  refine zj_istore_n (lv2 := [(3, .int x2), (2, .int x1), (0, .ref p0), (1, .ref p1)]) E dX10_addPacked_79 rfl (by decide) rfl ?_
  refine zj_iconst (v := 0) E dX10_addPacked_80 (by decide) ?_
  refine zj_istore (lv2 := [(4, .int 0), (3, .int x2), (2, .int x1), (0, .ref p0), (1, .ref p1)]) E dX10_addPacked_81 (by decide) rfl ?_
  obtain ⟨b2, hb2, h⟩ := oB_some h
  refine zj_lv [3, 4, 1, 0] rfl ?_
  refine zj_loop (wX10_addPacked_L83 E p0 p1 x2) zF (0, σ7) b2 hb2 ?_
  obtain ⟨σ11, rfl⟩ : ∃ z, z = b2 := ⟨_, rfl⟩
  try dsimp only at h
  show zJ Γ 6 0 0 σ11 146 [(0, .ref p0), (3, .int x2)] []
  refine zj_aload_n E dX10_addPacked_146 rfl 0 rfl ?_
  refine zs_getR E zc9 0 (by decide) zw_5_14 rfl dX10_addPacked_147 h (fun a12 h => ?_)
  refine zj_aload_n E dX10_addPacked_150 rfl 0 rfl ?_
  refine zs_getR E zc9 0 (by decide) zw_5_14 rfl dX10_addPacked_151 h (fun a13 h => ?_)
  refine zj_iload_n E dX10_addPacked_154 rfl 1 rfl ?_
  refine zj_aload_n E dX10_addPacked_155 rfl 0 rfl ?_
  refine zs_getR E zc9 0 (by decide) zw_5_14 rfl dX10_addPacked_156 h (fun a14 h => ?_)
  refine zs_getIN E zc1 1 (by decide) (znf_6) rfl dX10_addPacked_159 h (fun x7 h => ?_)
  obtain ⟨x8, hc, h⟩ := oB_some h
  refine zs_callS (As := [.ref a13, .int x2, .int x7]) (rest := [.ref a12]) E zyX8_ofRaw zw_32_11 (kX8_ofRaw _ _ _ _ _ hc) rfl rfl rfl ⟨by decide, by decide⟩ ⟨by decide, by decide⟩ (Nat.le_of_ble_eq_true rfl) dX10_addPacked_162 rfl (show zJ Γ 6 0 0 σ11 165 [(0, .ref p0), (3, .int x2)] [.int x8, .ref a12] from ?_)
  obtain ⟨hk, h⟩ := oA_some h
  obtain ⟨σ12, hc, h⟩ := oB_some h
  refine zs_callV (As := [.int x8]) (rest := []) E zc1 zyX1_addNumber zw_30_18 (kX1_addNumber _ _ _ _ _ hc) rfl rfl hk rfl ⟨by decide, by decide⟩ ⟨by decide, by decide⟩ (Nat.le_of_ble_eq_true rfl) dX10_addPacked_165 rfl (show zJ Γ 6 0 0 σ12 168 [(0, .ref p0), (3, .int x2)] [] from ?_)
  have e9 := Option.some.inj h
  subst e9
  exact (show zRet Γ cX10_addPacked 6 0 0 (none) σ12 from K) _ _ dX10_addPacked_168
set_option maxRecDepth 100000 in
theorem kX10_addPacked (l : Launch) (D : va_G) (cs : zCs) (z0 : Nat) (σ : zS) {p0 : Nat} {p1 : Nat}  {σ' : zS} (h : fX10_addPacked σ p0 p1 = some σ') : zM l D cs z0 yX10_addPacked cX10_addPacked 6 none { frames := 2, cells := 0, slots := 0, locals := 46 } [.ref p0, .ref p1] σ none σ' 0 0 := by
  exact zM_of (by decide) rfl rfl (Nat.le_of_ble_eq_true rfl) rfl (fun Γ e1 e2 e3 e4 E hN K => wX10_addPacked E σ _ _ h K)
/-! X10_addDefaultData -/
def fX10_addDefaultData (σ : zS) (p0 : Nat) (p1 : Nat) : Option zS := oB (fX10_rawSize σ p1) (fun x1 => oA (zk σ p0 = 10) (oB (fX10_openChunk σ p0 ((11 : Int32) + x1) 1229209940) (fun σ1 => oA (zk σ1 p0 = 10) (oB (fX10_addPacked σ1 p0 p1) (fun σ2 => oA (zk σ2 p0 = 10) (oB (fX10_closeChunk σ2 p0) (fun σ3 => some σ3)))))))
set_option maxRecDepth 100000 in
theorem wX10_addDefaultData {Γ : zG} (E : zE Γ cX10_addDefaultData RX10 2 { frames := 3, cells := 0, slots := 0, locals := 71 }) (σ : zS) (p0 : Nat) (p1 : Nat) {R : zS} (h : fX10_addDefaultData σ p0 p1 = some R) (K : zRet Γ cX10_addDefaultData 2 0 0 (none) R) : zJ Γ 2 0 0 σ 0 [(0, .ref p0), (1, .ref p1)] [] := by
  unfold fX10_addDefaultData at h
  refine zj_aload_n E dX10_addDefaultData_0 rfl 0 rfl ?_
  refine zj_bipush (v := 11) E dX10_addDefaultData_1 (by decide) ?_
  refine zj_aload_n E dX10_addDefaultData_3 rfl 1 rfl ?_
  obtain ⟨x1, hc, h⟩ := oB_some h
  refine zs_callS (As := [.ref p1]) (rest := [.int 11, .ref p0]) E zyX10_rawSize zw_32_4 (kX10_rawSize _ _ _ _ _ hc) rfl rfl rfl ⟨by decide, by decide⟩ ⟨by decide, by decide⟩ (Nat.le_of_ble_eq_true rfl) dX10_addDefaultData_4 rfl (show zJ Γ 2 0 0 σ 7 [(0, .ref p0), (1, .ref p1)] [.int x1, .int 11, .ref p0] from ?_)
  refine zj_iadd E dX10_addDefaultData_7 ?_
  refine zj_ldc (v := 1229209940) E zw_32_3 dX10_addDefaultData_8 ?_
  obtain ⟨hk, h⟩ := oA_some h
  obtain ⟨σ1, hc, h⟩ := oB_some h
  refine zs_callV (As := [.int ((11 : Int32) + x1), .int 1229209940]) (rest := []) E zc9 zyX10_openChunk zw_31_1 (kX10_openChunk _ _ _ _ _ hc) rfl rfl hk rfl ⟨by decide, by decide⟩ ⟨by decide, by decide⟩ (Nat.le_of_ble_eq_true rfl) dX10_addDefaultData_10 rfl (show zJ Γ 2 0 0 σ1 13 [(0, .ref p0), (1, .ref p1)] [] from ?_)
  refine zj_aload_n E dX10_addDefaultData_13 rfl 0 rfl ?_
  refine zj_aload_n E dX10_addDefaultData_14 rfl 1 rfl ?_
  obtain ⟨hk, h⟩ := oA_some h
  obtain ⟨σ2, hc, h⟩ := oB_some h
  refine zs_callV (As := [.ref p1]) (rest := []) E zc9 zyX10_addPacked zw_32_7 (kX10_addPacked _ _ _ _ _ hc) rfl rfl hk rfl ⟨by decide, by decide⟩ ⟨by decide, by decide⟩ (Nat.le_of_ble_eq_true rfl) dX10_addDefaultData_15 rfl (show zJ Γ 2 0 0 σ2 18 [(0, .ref p0), (1, .ref p1)] [] from ?_)
  refine zj_aload_n E dX10_addDefaultData_18 rfl 0 rfl ?_
  obtain ⟨hk, h⟩ := oA_some h
  obtain ⟨σ3, hc, h⟩ := oB_some h
  refine zs_callV (As := []) (rest := []) E zc9 zyX10_closeChunk zw_31_7 (kX10_closeChunk _ _ _ _ _ hc) rfl rfl hk rfl ⟨by decide, by decide⟩ ⟨by decide, by decide⟩ (Nat.le_of_ble_eq_true rfl) dX10_addDefaultData_19 rfl (show zJ Γ 2 0 0 σ3 22 [(0, .ref p0), (1, .ref p1)] [] from ?_)
  have e9 := Option.some.inj h
  subst e9
  exact (show zRet Γ cX10_addDefaultData 2 0 0 (none) σ3 from K) _ _ dX10_addDefaultData_22
set_option maxRecDepth 100000 in
theorem kX10_addDefaultData (l : Launch) (D : va_G) (cs : zCs) (z0 : Nat) (σ : zS) {p0 : Nat} {p1 : Nat}  {σ' : zS} (h : fX10_addDefaultData σ p0 p1 = some σ') : zM l D cs z0 yX10_addDefaultData cX10_addDefaultData 2 none { frames := 3, cells := 0, slots := 0, locals := 71 } [.ref p0, .ref p1] σ none σ' 0 0 := by
  exact zM_of (by decide) rfl rfl (Nat.le_of_ble_eq_true rfl) rfl (fun Γ e1 e2 e3 e4 E hN K => wX10_addDefaultData E σ _ _ h K)
/-! X10_addFrameData -/
def fX10_addFrameData (σ : zS) (p0 : Nat) (p1 : Nat) : Option zS := oB (fX10_rawSize σ p1) (fun x1 => oA (zk σ p0 = 10) (oB (fX10_openChunk σ p0 ((15 : Int32) + x1) 1717846356) (fun σ1 => oA (zk σ1 p0 = 10) (oB (fX10_addSerial σ1 p0) (fun σ2 => oA (zk σ2 p0 = 10) (oB (fX10_addPacked σ2 p0 p1) (fun σ3 => oA (zk σ3 p0 = 10) (oB (fX10_closeChunk σ3 p0) (fun σ4 => some σ4)))))))))
set_option maxRecDepth 100000 in
theorem wX10_addFrameData {Γ : zG} (E : zE Γ cX10_addFrameData RX10 2 { frames := 3, cells := 0, slots := 0, locals := 71 }) (σ : zS) (p0 : Nat) (p1 : Nat) {R : zS} (h : fX10_addFrameData σ p0 p1 = some R) (K : zRet Γ cX10_addFrameData 2 0 0 (none) R) : zJ Γ 2 0 0 σ 0 [(0, .ref p0), (1, .ref p1)] [] := by
  unfold fX10_addFrameData at h
  refine zj_aload_n E dX10_addFrameData_0 rfl 0 rfl ?_
  refine zj_bipush (v := 15) E dX10_addFrameData_1 (by decide) ?_
  refine zj_aload_n E dX10_addFrameData_3 rfl 1 rfl ?_
  obtain ⟨x1, hc, h⟩ := oB_some h
  refine zs_callS (As := [.ref p1]) (rest := [.int 15, .ref p0]) E zyX10_rawSize zw_32_4 (kX10_rawSize _ _ _ _ _ hc) rfl rfl rfl ⟨by decide, by decide⟩ ⟨by decide, by decide⟩ (Nat.le_of_ble_eq_true rfl) dX10_addFrameData_4 rfl (show zJ Γ 2 0 0 σ 7 [(0, .ref p0), (1, .ref p1)] [.int x1, .int 15, .ref p0] from ?_)
  refine zj_iadd E dX10_addFrameData_7 ?_
  refine zj_ldc (v := 1717846356) E zw_32_16 dX10_addFrameData_8 ?_
  obtain ⟨hk, h⟩ := oA_some h
  obtain ⟨σ1, hc, h⟩ := oB_some h
  refine zs_callV (As := [.int ((15 : Int32) + x1), .int 1717846356]) (rest := []) E zc9 zyX10_openChunk zw_31_1 (kX10_openChunk _ _ _ _ _ hc) rfl rfl hk rfl ⟨by decide, by decide⟩ ⟨by decide, by decide⟩ (Nat.le_of_ble_eq_true rfl) dX10_addFrameData_10 rfl (show zJ Γ 2 0 0 σ1 13 [(0, .ref p0), (1, .ref p1)] [] from ?_)
  refine zj_aload_n E dX10_addFrameData_13 rfl 0 rfl ?_
  obtain ⟨hk, h⟩ := oA_some h
  obtain ⟨σ2, hc, h⟩ := oB_some h
  refine zs_callV (As := []) (rest := []) E zc9 zyX10_addSerial zw_31_18 (kX10_addSerial _ _ _ _ _ hc) rfl rfl hk rfl ⟨by decide, by decide⟩ ⟨by decide, by decide⟩ (Nat.le_of_ble_eq_true rfl) dX10_addFrameData_14 rfl (show zJ Γ 2 0 0 σ2 17 [(0, .ref p0), (1, .ref p1)] [] from ?_)
  refine zj_aload_n E dX10_addFrameData_17 rfl 0 rfl ?_
  refine zj_aload_n E dX10_addFrameData_18 rfl 1 rfl ?_
  obtain ⟨hk, h⟩ := oA_some h
  obtain ⟨σ3, hc, h⟩ := oB_some h
  refine zs_callV (As := [.ref p1]) (rest := []) E zc9 zyX10_addPacked zw_32_7 (kX10_addPacked _ _ _ _ _ hc) rfl rfl hk rfl ⟨by decide, by decide⟩ ⟨by decide, by decide⟩ (Nat.le_of_ble_eq_true rfl) dX10_addFrameData_19 rfl (show zJ Γ 2 0 0 σ3 22 [(0, .ref p0), (1, .ref p1)] [] from ?_)
  refine zj_aload_n E dX10_addFrameData_22 rfl 0 rfl ?_
  obtain ⟨hk, h⟩ := oA_some h
  obtain ⟨σ4, hc, h⟩ := oB_some h
  refine zs_callV (As := []) (rest := []) E zc9 zyX10_closeChunk zw_31_7 (kX10_closeChunk _ _ _ _ _ hc) rfl rfl hk rfl ⟨by decide, by decide⟩ ⟨by decide, by decide⟩ (Nat.le_of_ble_eq_true rfl) dX10_addFrameData_23 rfl (show zJ Γ 2 0 0 σ4 26 [(0, .ref p0), (1, .ref p1)] [] from ?_)
  have e9 := Option.some.inj h
  subst e9
  exact (show zRet Γ cX10_addFrameData 2 0 0 (none) σ4 from K) _ _ dX10_addFrameData_26
set_option maxRecDepth 100000 in
theorem kX10_addFrameData (l : Launch) (D : va_G) (cs : zCs) (z0 : Nat) (σ : zS) {p0 : Nat} {p1 : Nat}  {σ' : zS} (h : fX10_addFrameData σ p0 p1 = some σ') : zM l D cs z0 yX10_addFrameData cX10_addFrameData 2 none { frames := 3, cells := 0, slots := 0, locals := 71 } [.ref p0, .ref p1] σ none σ' 0 0 := by
  exact zM_of (by decide) rfl rfl (Nat.le_of_ble_eq_true rfl) rfl (fun Γ e1 e2 e3 e4 E hN K => wX10_addFrameData E σ _ _ h K)
/-! X10_run -/
def jX10_run_107 (Γ : zG) (l0 : Nat) (l1 : Nat) : (Int32 × zS) → Prop := fun x => zJ Γ 3 0 0 x.2 107 [(0, .ref l0), (1, .ref l1), (2, .int x.1)] []
def eX10_run_107 (Γ : zG) (l0 : Nat) (l1 : Nat) : zS → Prop := fun b => zJ Γ 3 0 0 b 147 [(0, .ref l0)] []
def bX10_run_107 (l0 : Nat) (l1 : Nat) (l2 : Int32) (σ : zS) : Option ((Int32 × zS) ⊕ zS) := oGI σ 6 l1 7 (fun x5 => (if x5 ≤ l2 then some (.inr σ) else (if (8 : Int32) ≤ l2 then some (.inr σ) else oGR σ 6 l1 0 (fun a7 => oLr σ a7 l2 (fun a8 => oA (zk σ l0 = 10) (oB (fX10_addControl σ l0 a8) (fun σ11 => oGR σ11 6 l1 0 (fun a9 => oLr σ11 a9 l2 (fun a10 => oA (zk σ11 l0 = 10) (oB (fX10_addFrameData σ11 l0 a10) (fun σ12 => oL (l2 + 1) (fun v1 => some (.inl (v1, σ12))))))))))))))
set_option maxRecDepth 100000 in
theorem wX10_run_L107 {Γ : zG} (E : zE Γ cX10_run RX10 3 { frames := 4, cells := 0, slots := 0, locals := 92 }) (l0 : Nat) (l1 : Nat) : ∀ x R, (fun x => bX10_run_107 l0 l1 x.1 x.2) x = some R → Sum.elim (jX10_run_107 Γ l0 l1) (eX10_run_107 Γ l0 l1) R → jX10_run_107 Γ l0 l1 x := by
  intro x R h K
  obtain ⟨l2, σ⟩ := x
  have h : bX10_run_107 l0 l1 l2 σ = some R := h
  show zJ Γ 3 0 0 σ 107 [(0, .ref l0), (1, .ref l1), (2, .int l2)] []
  unfold bX10_run_107 at h
  refine zj_iload_n E dX10_run_107 rfl 2 rfl ?_
  refine zj_aload_n E dX10_run_108 rfl 1 rfl ?_
  refine zs_getIN E zc5 7 (by decide) (znf_56) rfl dX10_run_109 h (fun x5 h => ?_)
  refine zj_icmp_ge (tgt := 147) E dX10_run_112 (by decide) h (fun h => ?_) (fun h => ?_)
  · have e9 := Option.some.inj h
    subst e9
    refine zj_lv [0] rfl ?_
    exact K
  · refine zj_iload_n E dX10_run_115 rfl 2 rfl ?_
    refine zj_bipush (v := 8) E dX10_run_116 (by decide) ?_
    refine zj_icmp_ge (tgt := 147) E dX10_run_118 (by decide) h (fun h => ?_) (fun h => ?_)
    · have e9 := Option.some.inj h
      subst e9
      refine zj_lv [0] rfl ?_
      exact K
    · refine zj_aload_n E dX10_run_121 rfl 0 rfl ?_
      refine zj_aload_n E dX10_run_122 rfl 1 rfl ?_
      refine zs_getRN E zc5 0 (by decide) (znf_39) rfl dX10_run_123 h (fun a7 h => ?_)
      refine zj_iload_n E dX10_run_126 rfl 2 rfl ?_
      refine zs_aald E dX10_run_127 h (fun a8 h => ?_)
      obtain ⟨hk, h⟩ := oA_some h
      obtain ⟨σ11, hc, h⟩ := oB_some h
      refine zs_callV (As := [.ref a8]) (rest := []) E zc9 zyX10_addControl zw_31_12 (kX10_addControl _ _ _ _ _ hc) rfl rfl hk rfl ⟨by decide, by decide⟩ ⟨by decide, by decide⟩ (Nat.le_of_ble_eq_true rfl) dX10_run_128 rfl (show zJ Γ 3 0 0 σ11 131 [(0, .ref l0), (1, .ref l1), (2, .int l2)] [] from ?_)
      refine zj_aload_n E dX10_run_131 rfl 0 rfl ?_
      refine zj_aload_n E dX10_run_132 rfl 1 rfl ?_
      refine zs_getRN E zc5 0 (by decide) (znf_39) rfl dX10_run_133 h (fun a9 h => ?_)
      refine zj_iload_n E dX10_run_136 rfl 2 rfl ?_
      refine zs_aald E dX10_run_137 h (fun a10 h => ?_)
      obtain ⟨hk, h⟩ := oA_some h
      obtain ⟨σ12, hc, h⟩ := oB_some h
      refine zs_callV (As := [.ref a10]) (rest := []) E zc9 zyX10_addFrameData zw_32_12 (kX10_addFrameData _ _ _ _ _ hc) rfl rfl hk rfl ⟨by decide, by decide⟩ ⟨by decide, by decide⟩ (Nat.le_of_ble_eq_true rfl) dX10_run_138 rfl (show zJ Γ 3 0 0 σ12 141 [(0, .ref l0), (1, .ref l1), (2, .int l2)] [] from ?_)
      refine zs_iinc (lv2 := fun v1 => [(2, .int v1), (0, .ref l0), (1, .ref l1)]) E dX10_run_141 2 rfl (by decide) (by decide) (fun _ => rfl) h (fun v1 h => ?_)
      refine zj_goto (tgt := 107) E dX10_run_144 (by decide) ?_
      have e9 := Option.some.inj h
      subst e9
      refine zj_lv [1, 2, 0] rfl ?_
      exact K
def fX10_run_106 (σ : zS) (l0 : Nat) (l1 : Nat) (s0 : Int32) : Option zS := oB (zloop zF (fun x => bX10_run_107 l0 l1 x.1 x.2) (s0, σ)) (fun b1 => (fun σ13 => oA (zk σ13 l0 = 10) (oB (fX10_openChunk σ13 l0 0 1229278788) (fun σ14 => oA (zk σ14 l0 = 10) (oB (fX10_closeChunk σ14 l0) (fun σ15 => some σ15))))) b1)
set_option maxRecDepth 100000 in
theorem wX10_run_106 {Γ : zG} (E : zE Γ cX10_run RX10 3 { frames := 4, cells := 0, slots := 0, locals := 92 }) (σ : zS) (l0 : Nat) (l1 : Nat) (s0 : Int32) {R : zS} (h : fX10_run_106 σ l0 l1 s0 = some R) (K : zRet Γ cX10_run 3 0 0 (none) R) : zJ Γ 3 0 0 σ 106 [(0, .ref l0), (1, .ref l1)] [.int s0] := by
  unfold fX10_run_106 at h
  refine zj_istore_n (lv2 := [(2, .int s0), (0, .ref l0), (1, .ref l1)]) E dX10_run_106 rfl (by decide) rfl ?_
  obtain ⟨b1, hb1, h⟩ := oB_some h
  refine zj_lv [1, 2, 0] rfl ?_
  refine zj_loop (wX10_run_L107 E l0 l1) zF (s0, σ) b1 hb1 ?_
  obtain ⟨σ13, rfl⟩ : ∃ z, z = b1 := ⟨_, rfl⟩
  try dsimp only at h
  show zJ Γ 3 0 0 σ13 147 [(0, .ref l0)] []
  refine zj_aload_n E dX10_run_147 rfl 0 rfl ?_
  refine zj_iconst (v := 0) E dX10_run_148 (by decide) ?_
  refine zj_ldc (v := 1229278788) E zw_30_16 dX10_run_149 ?_
  obtain ⟨hk, h⟩ := oA_some h
  obtain ⟨σ14, hc, h⟩ := oB_some h
  refine zs_callV (As := [.int 0, .int 1229278788]) (rest := []) E zc9 zyX10_openChunk zw_31_1 (kX10_openChunk _ _ _ _ _ hc) rfl rfl hk rfl ⟨by decide, by decide⟩ ⟨by decide, by decide⟩ (Nat.le_of_ble_eq_true rfl) dX10_run_151 rfl (show zJ Γ 3 0 0 σ14 154 [(0, .ref l0)] [] from ?_)
  refine zj_aload_n E dX10_run_154 rfl 0 rfl ?_
  obtain ⟨hk, h⟩ := oA_some h
  obtain ⟨σ15, hc, h⟩ := oB_some h
  refine zs_callV (As := []) (rest := []) E zc9 zyX10_closeChunk zw_31_7 (kX10_closeChunk _ _ _ _ _ hc) rfl rfl hk rfl ⟨by decide, by decide⟩ ⟨by decide, by decide⟩ (Nat.le_of_ble_eq_true rfl) dX10_run_155 rfl (show zJ Γ 3 0 0 σ15 158 [(0, .ref l0)] [] from ?_)
  have e9 := Option.some.inj h
  subst e9
  exact (show zRet Γ cX10_run 3 0 0 (none) σ15 from K) _ _ dX10_run_158
def fX10_run_86 (σ : zS) (l0 : Nat) (l1 : Nat) : Option zS := oA (zk σ l1 = 6) (oB (fX5_defaultPicture σ l1) (fun a6 => oA (zk σ l0 = 10) (oB (fX10_addDefaultData σ l0 a6) (fun σ10 => oGI σ10 6 l1 3 (fun x4 => (if x4 = 0 then fX10_run_106 σ10 l0 l1 0 else fX10_run_106 σ10 l0 l1 1))))))
set_option maxRecDepth 100000 in
theorem wX10_run_86 {Γ : zG} (E : zE Γ cX10_run RX10 3 { frames := 4, cells := 0, slots := 0, locals := 92 }) (σ : zS) (l0 : Nat) (l1 : Nat) {R : zS} (h : fX10_run_86 σ l0 l1 = some R) (K : zRet Γ cX10_run 3 0 0 (none) R) : zJ Γ 3 0 0 σ 86 [(0, .ref l0), (1, .ref l1)] [] := by
  unfold fX10_run_86 at h
  refine zj_aload_n E dX10_run_86 rfl 0 rfl ?_
  refine zj_aload_n E dX10_run_87 rfl 1 rfl ?_
  obtain ⟨hk, h⟩ := oA_some h
  obtain ⟨a6, hc, h⟩ := oB_some h
  refine zs_callV (As := []) (rest := [.ref l0]) E zc5 zyX5_defaultPicture zw_31_22 (kX5_defaultPicture _ _ _ _ _ hc) rfl rfl hk rfl ⟨by decide, by decide⟩ ⟨by decide, by decide⟩ (Nat.le_of_ble_eq_true rfl) dX10_run_88 rfl (show zJ Γ 3 0 0 σ 91 [(0, .ref l0), (1, .ref l1)] [.ref a6, .ref l0] from ?_)
  obtain ⟨hk, h⟩ := oA_some h
  obtain ⟨σ10, hc, h⟩ := oB_some h
  refine zs_callV (As := [.ref a6]) (rest := []) E zc9 zyX10_addDefaultData zw_31_23 (kX10_addDefaultData _ _ _ _ _ hc) rfl rfl hk rfl ⟨by decide, by decide⟩ ⟨by decide, by decide⟩ (Nat.le_of_ble_eq_true rfl) dX10_run_91 rfl (show zJ Γ 3 0 0 σ10 94 [(0, .ref l0), (1, .ref l1)] [] from ?_)
  refine zj_aload_n E dX10_run_94 rfl 1 rfl ?_
  refine zs_getIN E zc5 3 (by decide) (znf_46) rfl dX10_run_95 h (fun x4 h => ?_)
  refine zj_if_eq (tgt := 105) E dX10_run_98 (by decide) h (fun h => ?_) (fun h => ?_)
  · refine zj_iconst (v := 0) E dX10_run_105 (by decide) ?_
    refine zj_lv [0, 1] rfl ?_
    exact wX10_run_106 E _ _ _ _ h K
  · refine zj_iconst (v := 1) E dX10_run_101 (by decide) ?_
    refine zj_goto (tgt := 106) E dX10_run_102 (by decide) ?_
    refine zj_lv [0, 1] rfl ?_
    exact wX10_run_106 E _ _ _ _ h K
def fX10_run (σ : zS) (p0 : Nat) (p1 : Nat) : Option zS := oGR σ 10 p0 0 (fun a1 => oA (zk σ a1 = 2) (oB (fX1_clear σ a1) (fun σ1 => oPI σ1 10 p0 3 0 (fun σ2 => oGR σ2 10 p0 0 (fun a2 => oA (zk σ2 a2 = 2) (oB (fX1_addNumber σ2 a2 (-1991225785 : Int32)) (fun σ3 => oGR σ3 10 p0 0 (fun a3 => oA (zk σ3 a3 = 2) (oB (fX1_addNumber σ3 a3 218765834) (fun σ4 => oA (zk σ4 p0 = 10) (oB (fX10_addHead σ4 p0 p1) (fun σ5 => oA (zk σ5 p0 = 10) (oB (fX10_openChunk σ5 p0 8 1633899596) (fun σ6 => oGR σ6 10 p0 0 (fun a4 => oGI σ6 6 p1 7 (fun x1 => oA (zk σ6 a4 = 2) (oB (fX1_addNumber σ6 a4 x1) (fun σ7 => oGR σ7 10 p0 0 (fun a5 => oGI σ7 6 p1 6 (fun x2 => oA (zk σ7 a5 = 2) (oB (fX1_addNumber σ7 a5 x2) (fun σ8 => oA (zk σ8 p0 = 10) (oB (fX10_closeChunk σ8 p0) (fun σ9 => oGI σ9 6 p1 3 (fun x3 => (if x3 = 0 then fX10_run_86 σ9 p0 p1 else oGR σ9 6 p1 0 (fun a11 => oLr σ9 a11 0 (fun a12 => oA (zk σ9 p0 = 10) (oB (fX10_addControl σ9 p0 a12) (fun σ16 => fX10_run_86 σ16 p0 p1))))))))))))))))))))))))))))))
set_option maxRecDepth 100000 in
theorem wX10_run {Γ : zG} (E : zE Γ cX10_run RX10 3 { frames := 4, cells := 0, slots := 0, locals := 92 }) (σ : zS) (p0 : Nat) (p1 : Nat) {R : zS} (h : fX10_run σ p0 p1 = some R) (K : zRet Γ cX10_run 3 0 0 (none) R) : zJ Γ 3 0 0 σ 0 [(0, .ref p0), (1, .ref p1)] [] := by
  unfold fX10_run at h
  refine zj_aload_n E dX10_run_0 rfl 0 rfl ?_
  refine zs_getR E zc9 0 (by decide) zw_5_14 rfl dX10_run_1 h (fun a1 h => ?_)
  obtain ⟨hk, h⟩ := oA_some h
  obtain ⟨σ1, hc, h⟩ := oB_some h
  refine zs_callV (As := []) (rest := []) E zc1 zyX1_clear zw_30_17 (kX1_clear _ _ _ _ _ hc) rfl rfl hk rfl ⟨by decide, by decide⟩ ⟨by decide, by decide⟩ (Nat.le_of_ble_eq_true rfl) dX10_run_4 rfl (show zJ Γ 3 0 0 σ1 7 [(0, .ref p0), (1, .ref p1)] [] from ?_)
  refine zj_aload_n E dX10_run_7 rfl 0 rfl ?_
  refine zj_iconst (v := 0) E dX10_run_8 (by decide) ?_
  refine zs_putI E zc9 3 (by decide) zw_30_12 rfl rfl dX10_run_9 h (fun σ2 h => ?_)
  refine zj_aload_n E dX10_run_12 rfl 0 rfl ?_
  refine zs_getR E zc9 0 (by decide) zw_5_14 rfl dX10_run_13 h (fun a2 h => ?_)
  refine zj_ldc (v := (-1991225785 : Int32)) E zw_30_13 dX10_run_16 ?_
  obtain ⟨hk, h⟩ := oA_some h
  obtain ⟨σ3, hc, h⟩ := oB_some h
  refine zs_callV (As := [.int (-1991225785 : Int32)]) (rest := []) E zc1 zyX1_addNumber zw_30_18 (kX1_addNumber _ _ _ _ _ hc) rfl rfl hk rfl ⟨by decide, by decide⟩ ⟨by decide, by decide⟩ (Nat.le_of_ble_eq_true rfl) dX10_run_18 rfl (show zJ Γ 3 0 0 σ3 21 [(0, .ref p0), (1, .ref p1)] [] from ?_)
  refine zj_aload_n E dX10_run_21 rfl 0 rfl ?_
  refine zs_getR E zc9 0 (by decide) zw_5_14 rfl dX10_run_22 h (fun a3 h => ?_)
  refine zj_ldc (v := 218765834) E zw_30_14 dX10_run_25 ?_
  obtain ⟨hk, h⟩ := oA_some h
  obtain ⟨σ4, hc, h⟩ := oB_some h
  refine zs_callV (As := [.int 218765834]) (rest := []) E zc1 zyX1_addNumber zw_30_18 (kX1_addNumber _ _ _ _ _ hc) rfl rfl hk rfl ⟨by decide, by decide⟩ ⟨by decide, by decide⟩ (Nat.le_of_ble_eq_true rfl) dX10_run_27 rfl (show zJ Γ 3 0 0 σ4 30 [(0, .ref p0), (1, .ref p1)] [] from ?_)
  refine zj_aload_n E dX10_run_30 rfl 0 rfl ?_
  refine zj_aload_n E dX10_run_31 rfl 1 rfl ?_
  obtain ⟨hk, h⟩ := oA_some h
  obtain ⟨σ5, hc, h⟩ := oB_some h
  refine zs_callV (As := [.ref p1]) (rest := []) E zc9 zyX10_addHead zw_30_19 (kX10_addHead _ _ _ _ _ hc) rfl rfl hk rfl ⟨by decide, by decide⟩ ⟨by decide, by decide⟩ (Nat.le_of_ble_eq_true rfl) dX10_run_32 rfl (show zJ Γ 3 0 0 σ5 35 [(0, .ref p0), (1, .ref p1)] [] from ?_)
  refine zj_aload_n E dX10_run_35 rfl 0 rfl ?_
  refine zj_bipush (v := 8) E dX10_run_36 (by decide) ?_
  refine zj_ldc (v := 1633899596) E zw_30_15 dX10_run_38 ?_
  obtain ⟨hk, h⟩ := oA_some h
  obtain ⟨σ6, hc, h⟩ := oB_some h
  refine zs_callV (As := [.int 8, .int 1633899596]) (rest := []) E zc9 zyX10_openChunk zw_31_1 (kX10_openChunk _ _ _ _ _ hc) rfl rfl hk rfl ⟨by decide, by decide⟩ ⟨by decide, by decide⟩ (Nat.le_of_ble_eq_true rfl) dX10_run_40 rfl (show zJ Γ 3 0 0 σ6 43 [(0, .ref p0), (1, .ref p1)] [] from ?_)
  refine zj_aload_n E dX10_run_43 rfl 0 rfl ?_
  refine zs_getR E zc9 0 (by decide) zw_5_14 rfl dX10_run_44 h (fun a4 h => ?_)
  refine zj_aload_n E dX10_run_47 rfl 1 rfl ?_
  refine zs_getIN E zc5 7 (by decide) (znf_56) rfl dX10_run_48 h (fun x1 h => ?_)
  obtain ⟨hk, h⟩ := oA_some h
  obtain ⟨σ7, hc, h⟩ := oB_some h
  refine zs_callV (As := [.int x1]) (rest := []) E zc1 zyX1_addNumber zw_30_18 (kX1_addNumber _ _ _ _ _ hc) rfl rfl hk rfl ⟨by decide, by decide⟩ ⟨by decide, by decide⟩ (Nat.le_of_ble_eq_true rfl) dX10_run_51 rfl (show zJ Γ 3 0 0 σ7 54 [(0, .ref p0), (1, .ref p1)] [] from ?_)
  refine zj_aload_n E dX10_run_54 rfl 0 rfl ?_
  refine zs_getR E zc9 0 (by decide) zw_5_14 rfl dX10_run_55 h (fun a5 h => ?_)
  refine zj_aload_n E dX10_run_58 rfl 1 rfl ?_
  refine zs_getIN E zc5 6 (by decide) (znf_53) rfl dX10_run_59 h (fun x2 h => ?_)
  obtain ⟨hk, h⟩ := oA_some h
  obtain ⟨σ8, hc, h⟩ := oB_some h
  refine zs_callV (As := [.int x2]) (rest := []) E zc1 zyX1_addNumber zw_30_18 (kX1_addNumber _ _ _ _ _ hc) rfl rfl hk rfl ⟨by decide, by decide⟩ ⟨by decide, by decide⟩ (Nat.le_of_ble_eq_true rfl) dX10_run_62 rfl (show zJ Γ 3 0 0 σ8 65 [(0, .ref p0), (1, .ref p1)] [] from ?_)
  refine zj_aload_n E dX10_run_65 rfl 0 rfl ?_
  obtain ⟨hk, h⟩ := oA_some h
  obtain ⟨σ9, hc, h⟩ := oB_some h
  refine zs_callV (As := []) (rest := []) E zc9 zyX10_closeChunk zw_31_7 (kX10_closeChunk _ _ _ _ _ hc) rfl rfl hk rfl ⟨by decide, by decide⟩ ⟨by decide, by decide⟩ (Nat.le_of_ble_eq_true rfl) dX10_run_66 rfl (show zJ Γ 3 0 0 σ9 69 [(0, .ref p0), (1, .ref p1)] [] from ?_)
  refine zj_aload_n E dX10_run_69 rfl 1 rfl ?_
  refine zs_getIN E zc5 3 (by decide) (znf_46) rfl dX10_run_70 h (fun x3 h => ?_)
  refine zj_if_eq (tgt := 86) E dX10_run_73 (by decide) h (fun h => ?_) (fun h => ?_)
  · refine zj_lv [0, 1] rfl ?_
    exact wX10_run_86 E _ _ _ h K
  · refine zj_aload_n E dX10_run_76 rfl 0 rfl ?_
    refine zj_aload_n E dX10_run_77 rfl 1 rfl ?_
    refine zs_getRN E zc5 0 (by decide) (znf_39) rfl dX10_run_78 h (fun a11 h => ?_)
    refine zj_iconst (v := 0) E dX10_run_81 (by decide) ?_
    refine zs_aald E dX10_run_82 h (fun a12 h => ?_)
    obtain ⟨hk, h⟩ := oA_some h
    obtain ⟨σ16, hc, h⟩ := oB_some h
    refine zs_callV (As := [.ref a12]) (rest := []) E zc9 zyX10_addControl zw_31_12 (kX10_addControl _ _ _ _ _ hc) rfl rfl hk rfl ⟨by decide, by decide⟩ ⟨by decide, by decide⟩ (Nat.le_of_ble_eq_true rfl) dX10_run_83 rfl (show zJ Γ 3 0 0 σ16 86 [(0, .ref p0), (1, .ref p1)] [] from ?_)
    refine zj_lv [0, 1] rfl ?_
    exact wX10_run_86 E _ _ _ h K
set_option maxRecDepth 100000 in
theorem kX10_run (l : Launch) (D : va_G) (cs : zCs) (z0 : Nat) (σ : zS) {p0 : Nat} {p1 : Nat}  {σ' : zS} (h : fX10_run σ p0 p1 = some σ') : zM l D cs z0 yX10_run cX10_run 3 none { frames := 4, cells := 0, slots := 0, locals := 92 } [.ref p0, .ref p1] σ none σ' 0 0 := by
  exact zM_of (by decide) rfl rfl (Nat.le_of_ble_eq_true rfl) rfl (fun Γ e1 e2 e3 e4 E hN K => wX10_run E σ _ _ h K)
/-! X11_init -/
def fX11_init (σ : zS) (p0 : Nat) : Option zS := oNw σ 8 (fun a1 σ1 => oB (fX8_init σ1 a1) (fun σ2 => oNw σ2 2 (fun a2 σ3 => oB (fX1_init σ3 a2 8000) (fun σ4 => oPR σ4 11 p0 0 a2 (fun σ5 => oNw σ5 5 (fun a3 σ6 => oGR σ6 11 p0 0 (fun a4 => oB (fX4_init σ6 a3 a4 a1) (fun σ7 => oPR σ7 11 p0 1 a3 (fun σ8 => oNw σ8 10 (fun a5 σ9 => oB (fX10_init σ9 a5 a1) (fun σ10 => oPR σ10 11 p0 2 a5 (fun σ11 => oNw σ11 7 (fun a6 σ12 => oB (fX7_init σ12 a6) (fun σ13 => oPR σ13 11 p0 3 a6 (fun σ14 => oNw σ14 6 (fun a7 σ15 => oB (fX5_init σ15 a7) (fun σ16 => oPR σ16 11 p0 4 a7 (fun σ17 => oPI σ17 11 p0 5 (-1 : Int32) (fun σ18 => some σ18)))))))))))))))))))
set_option maxRecDepth 100000 in
theorem wX11_init {Γ : zG} (E : zE Γ cX11_init RX11 2 { frames := 4, cells := 70, slots := 33936, locals := 83 }) (hN : (zgt Γ).name = "<init>") (σ : zS) (p0 : Nat) {R : zS} (h : fX11_init σ p0 = some R) (K : zRet Γ cX11_init 2 70 33936 (none) R) : zJ Γ 2 0 0 σ 0 [(0, .ref p0)] [] := by
  unfold fX11_init at h
  refine zj_aload_n E dX11_init_0 rfl 0 rfl ?_
  refine zs_obj E zw_1_10 zw_1_11 zw_1_12 (by decide) (Nat.le_of_ble_eq_true rfl) dX11_init_1 ?_
  refine zt_new E zc7 zw_1_13 zw_1_14 zw_1_15 (by decide) ⟨by decide, by decide⟩ dX11_init_4 h (fun a1 σ1 h => ?_)
  show zJ Γ 2 1 1 σ1 7 [(0, .ref p0)] [.ref a1]
  refine zj_dup E dX11_init_7 rfl ?_
  obtain ⟨σ2, hc, h⟩ := oB_some h
  refine zs_callI (As := []) (rest := [.ref a1]) E zyX8_init zw_2_13 (kX8_init _ _ _ _ _ hc) rfl rfl rfl ⟨by decide, by decide⟩ ⟨by decide, by decide⟩ (Nat.le_of_ble_eq_true rfl) dX11_init_8 rfl (show zJ Γ 2 2 257 σ2 11 [(0, .ref p0)] [.ref a1] from ?_)
  refine zj_astore_n (lv2 := [(1, .ref a1), (0, .ref p0)]) E dX11_init_11 rfl (by decide) rfl ?_
  refine zj_aload_n E dX11_init_12 rfl 1 rfl ?_
  refine zt_new E zc1 zw_1_16 zw_1_17 zw_1_18 (by decide) ⟨by decide, by decide⟩ dX11_init_13 h (fun a2 σ3 h => ?_)
  show zJ Γ 2 3 259 σ3 16 [(1, .ref a1), (0, .ref p0)] [.ref a2, .ref p0]
  refine zj_dup E dX11_init_16 rfl ?_
  refine zj_sipush (v := 8000) E dX11_init_17 (by decide) ?_
  obtain ⟨σ4, hc, h⟩ := oB_some h
  refine zs_callI (As := [.int 8000]) (rest := [.ref a2, .ref p0]) E zyX1_init zw_2_20 (kX1_init _ _ _ _ _ (N := 8000) (by decide) hc) rfl rfl rfl ⟨by decide, by decide⟩ ⟨by decide, by decide⟩ (Nat.le_of_ble_eq_true rfl) dX11_init_20 rfl (show zJ Γ 2 4 8259 σ4 23 [(1, .ref a1), (0, .ref p0)] [.ref a2, .ref p0] from ?_)
  refine zs_putFR E zc10 hN 0 (by decide) zw_1_19 rfl rfl rfl dX11_init_23 h (fun σ5 h => ?_)
  refine zj_aload_n E dX11_init_26 rfl 1 rfl ?_
  refine zt_new E zc4 zw_1_20 zw_1_21 zw_1_22 (by decide) ⟨by decide, by decide⟩ dX11_init_27 h (fun a3 σ6 h => ?_)
  show zJ Γ 2 5 8270 σ6 30 [(1, .ref a1), (0, .ref p0)] [.ref a3, .ref p0]
  refine zj_dup E dX11_init_30 rfl ?_
  refine zj_aload_n E dX11_init_31 rfl 1 rfl ?_
  refine zs_getR E zc10 0 (by decide) zw_1_19 rfl dX11_init_32 h (fun a4 h => ?_)
  refine zj_aload_n E dX11_init_35 rfl 0 rfl ?_
  obtain ⟨σ7, hc, h⟩ := oB_some h
  refine zs_callI (As := [.ref a4, .ref a1]) (rest := [.ref a3, .ref p0]) E zyX4_init zw_3_2 (kX4_init _ _ _ _ _ hc) rfl rfl rfl ⟨by decide, by decide⟩ ⟨by decide, by decide⟩ (Nat.le_of_ble_eq_true rfl) dX11_init_36 rfl (show zJ Γ 2 44 21063 σ7 39 [(1, .ref a1), (0, .ref p0)] [.ref a3, .ref p0] from ?_)
  refine zs_putFR E zc10 hN 1 (by decide) zw_1_23 rfl rfl rfl dX11_init_39 h (fun σ8 h => ?_)
  refine zj_aload_n E dX11_init_42 rfl 1 rfl ?_
  refine zt_new E zc9 zw_2_0 zw_2_1 zw_2_2 (by decide) ⟨by decide, by decide⟩ dX11_init_43 h (fun a5 σ9 h => ?_)
  show zJ Γ 2 45 21067 σ9 46 [(1, .ref a1), (0, .ref p0)] [.ref a5, .ref p0]
  refine zj_dup E dX11_init_46 rfl ?_
  refine zj_aload_n E dX11_init_47 rfl 0 rfl ?_
  obtain ⟨σ10, hc, h⟩ := oB_some h
  refine zs_callI (As := [.ref a1]) (rest := [.ref a5, .ref p0]) E zyX10_init zw_5_9 (kX10_init _ _ _ _ _ hc) rfl rfl rfl ⟨by decide, by decide⟩ ⟨by decide, by decide⟩ (Nat.le_of_ble_eq_true rfl) dX11_init_48 rfl (show zJ Γ 2 47 31037 σ10 51 [(1, .ref a1), (0, .ref p0)] [.ref a5, .ref p0] from ?_)
  refine zs_putFR E zc10 hN 2 (by decide) zw_2_3 rfl rfl rfl dX11_init_51 h (fun σ11 h => ?_)
  refine zj_aload_n E dX11_init_54 rfl 1 rfl ?_
  refine zt_new E zc6 zw_2_4 zw_2_5 zw_2_6 (by decide) ⟨by decide, by decide⟩ dX11_init_55 h (fun a6 σ12 h => ?_)
  show zJ Γ 2 48 31041 σ12 58 [(1, .ref a1), (0, .ref p0)] [.ref a6, .ref p0]
  refine zj_dup E dX11_init_58 rfl ?_
  obtain ⟨σ13, hc, h⟩ := oB_some h
  refine zs_callIN (As := []) (rest := [.ref a6, .ref p0]) E zyX7_init znm_3 (kX7_init _ _ _ _ _ hc) rfl rfl rfl ⟨by decide, by decide⟩ ⟨by decide, by decide⟩ (Nat.le_of_ble_eq_true rfl) dX11_init_59 rfl (show zJ Γ 2 50 31553 σ13 62 [(1, .ref a1), (0, .ref p0)] [.ref a6, .ref p0] from ?_)
  refine zs_putFR E zc10 hN 3 (by decide) zw_2_7 rfl rfl rfl dX11_init_62 h (fun σ14 h => ?_)
  refine zj_aload_n E dX11_init_65 rfl 1 rfl ?_
  refine zt_new E zc5 zw_2_8 zw_2_9 zw_2_10 (by decide) ⟨by decide, by decide⟩ dX11_init_66 h (fun a7 σ15 h => ?_)
  show zJ Γ 2 51 31561 σ15 69 [(1, .ref a1), (0, .ref p0)] [.ref a7, .ref p0]
  refine zj_dup E dX11_init_69 rfl ?_
  obtain ⟨σ16, hc, h⟩ := oB_some h
  refine zs_callI (As := []) (rest := [.ref a7, .ref p0]) E zyX5_init zw_5_22 (kX5_init _ _ _ _ _ hc) rfl rfl rfl ⟨by decide, by decide⟩ ⟨by decide, by decide⟩ (Nat.le_of_ble_eq_true rfl) dX11_init_70 rfl (show zJ Γ 2 70 33936 σ16 73 [(1, .ref a1), (0, .ref p0)] [.ref a7, .ref p0] from ?_)
  refine zs_putR E zc10 4 (by decide) zw_2_11 rfl rfl dX11_init_73 h (fun σ17 h => ?_)
  refine zj_aload_n E dX11_init_76 rfl 1 rfl ?_
  refine zj_iconst (v := (-1 : Int32)) E dX11_init_77 (by decide) ?_
  refine zs_putI E zc10 5 (by decide) zw_2_12 rfl rfl dX11_init_78 h (fun σ18 h => ?_)
  have e9 := Option.some.inj h
  subst e9
  exact (show zRet Γ cX11_init 2 70 33936 (none) σ18 from K) _ _ dX11_init_81
set_option maxRecDepth 100000 in
theorem kX11_init (l : Launch) (D : va_G) (cs : zCs) (z0 : Nat) (σ : zS) {p0 : Nat}  {σ' : zS} (h : fX11_init σ p0 = some σ') : zM l D cs z0 yX11_init cX11_init 2 none { frames := 4, cells := 70, slots := 33936, locals := 83 } [.ref p0] σ none σ' 70 33936 := by
  exact zM_of (by decide) rfl rfl (Nat.le_of_ble_eq_true rfl) rfl (fun Γ e1 e2 e3 e4 E hN K => wX11_init E hN σ _ h K)
/-! X11_type -/
def jX11_type_31 (Γ : zG) (l0 : Nat) (l1 : Int32) : (Int32 × zS) → Prop := fun x => zJ Γ 4 0 0 x.2 31 [(0, .ref l0), (1, .int l1), (3, .int x.1)] []
def eX11_type_31 (Γ : zG) (l0 : Nat) (l1 : Int32) : zS → Prop := fun b => zJ Γ 4 0 0 b 54 [(0, .ref l0)] []
def bX11_type_31 (l0 : Nat) (l1 : Int32) (l3 : Int32) (σ : zS) : Option ((Int32 × zS) ⊕ zS) := (if l3 < 0 then some (.inr σ) else oGR σ 11 l0 0 (fun a2 => oA (zk σ a2 = 2) (oB (fX1_add σ a2 ((l1.toUInt32 >>> (((8 : Int32) * l3).toUInt32 &&& Int32.toUInt32 31)).toInt32)) (fun σ1 => oL (l3 + (-1 : Int32)) (fun v2 => some (.inl (v2, σ1)))))))
set_option maxRecDepth 100000 in
theorem wX11_type_L31 {Γ : zG} (E : zE Γ cX11_type RX11 4 { frames := 1, cells := 0, slots := 0, locals := 21 }) (l0 : Nat) (l1 : Int32) : ∀ x R, (fun x => bX11_type_31 l0 l1 x.1 x.2) x = some R → Sum.elim (jX11_type_31 Γ l0 l1) (eX11_type_31 Γ l0 l1) R → jX11_type_31 Γ l0 l1 x := by
  intro x R h K
  obtain ⟨l3, σ⟩ := x
  have h : bX11_type_31 l0 l1 l3 σ = some R := h
  show zJ Γ 4 0 0 σ 31 [(0, .ref l0), (1, .int l1), (3, .int l3)] []
  unfold bX11_type_31 at h
  refine zj_iload_n E dX11_type_31 rfl 2 rfl ?_
  refine zj_if_lt (tgt := 54) E dX11_type_32 (by decide) h (fun h => ?_) (fun h => ?_)
  · have e9 := Option.some.inj h
    subst e9
    refine zj_lv [0] rfl ?_
    exact K
  · refine zj_aload_n E dX11_type_35 rfl 0 rfl ?_
    refine zs_getR E zc10 0 (by decide) zw_1_19 rfl dX11_type_36 h (fun a2 h => ?_)
    refine zj_iload_n E dX11_type_39 rfl 1 rfl ?_
    refine zj_bipush (v := 8) E dX11_type_40 (by decide) ?_
    refine zj_iload_n E dX11_type_42 rfl 2 rfl ?_
    refine zj_imul E dX11_type_43 ?_
    refine zj_iushr E dX11_type_44 ?_
    obtain ⟨hk, h⟩ := oA_some h
    obtain ⟨σ1, hc, h⟩ := oB_some h
    refine zs_callV (As := [.int ((l1.toUInt32 >>> (((8 : Int32) * l3).toUInt32 &&& Int32.toUInt32 31)).toInt32)]) (rest := []) E zc1 zyX1_add zw_7_1 (kX1_add _ _ _ _ _ hc) rfl rfl hk rfl ⟨by decide, by decide⟩ ⟨by decide, by decide⟩ (Nat.le_of_ble_eq_true rfl) dX11_type_45 rfl (show zJ Γ 4 0 0 σ1 48 [(0, .ref l0), (1, .int l1), (3, .int l3)] [] from ?_)
    refine zs_iinc (lv2 := fun v2 => [(3, .int v2), (0, .ref l0), (1, .int l1)]) E dX11_type_48 2 rfl (by decide) (by decide) (fun _ => rfl) h (fun v2 h => ?_)
    refine zj_goto (tgt := 31) E dX11_type_51 (by decide) ?_
    have e9 := Option.some.inj h
    subst e9
    refine zj_lv [1, 2, 0] rfl ?_
    exact K
def fX11_type (σ : zS) (p0 : Nat) (p1 : Int32) (p2 : Int32) : Option (Int32 × zS) := (if p2 < (1 : Int32) then some ((-12 : Int32), σ) else (if p2 ≤ (4 : Int32) then oGR σ 11 p0 0 (fun a1 => oA (zk σ a1 = 2) (oB (fX1_fits σ a1 p2) (fun x1 => (if x1 = 0 then some ((-14 : Int32), σ) else oL (p2 - (1 : Int32)) (fun v1 => oB (zloop zF (fun x => bX11_type_31 p0 p1 x.1 x.2) (v1, σ)) (fun b1 => (fun σ2 => oGR σ2 11 p0 0 (fun a3 => oGI σ2 2 a3 1 (fun x2 => some (x2, σ2)))) b1)))))) else some ((-12 : Int32), σ)))
set_option maxRecDepth 100000 in
theorem wX11_type {Γ : zG} (E : zE Γ cX11_type RX11 4 { frames := 1, cells := 0, slots := 0, locals := 21 }) (σ : zS) (p0 : Nat) (p1 : Int32) (p2 : Int32) {R : (Int32 × zS)} (h : fX11_type σ p0 p1 p2 = some R) (K : zRet Γ cX11_type 4 0 0 (some (.int R.1)) R.2) : zJ Γ 4 0 0 σ 0 [(0, .ref p0), (1, .int p1), (2, .int p2)] [] := by
  unfold fX11_type at h
  refine zj_iload_n E dX11_type_0 rfl 2 rfl ?_
  refine zj_iconst (v := 1) E dX11_type_1 (by decide) ?_
  refine zj_icmp_lt (tgt := 10) E dX11_type_2 (by decide) h (fun h => ?_) (fun h => ?_)
  · refine zj_bipush (v := (-12 : Int32)) E dX11_type_10 (by decide) ?_
    have e9 := Option.some.inj h
    subst e9
    exact (show zRet Γ cX11_type 4 0 0 (some (.int (-12 : Int32))) σ from K) _ _ dX11_type_12
  · refine zj_iload_n E dX11_type_5 rfl 2 rfl ?_
    refine zj_iconst (v := 4) E dX11_type_6 (by decide) ?_
    refine zj_icmp_le (tgt := 13) E dX11_type_7 (by decide) h (fun h => ?_) (fun h => ?_)
    · refine zj_aload_n E dX11_type_13 rfl 0 rfl ?_
      refine zs_getR E zc10 0 (by decide) zw_1_19 rfl dX11_type_14 h (fun a1 h => ?_)
      refine zj_iload_n E dX11_type_17 rfl 2 rfl ?_
      obtain ⟨hk, h⟩ := oA_some h
      obtain ⟨x1, hc, h⟩ := oB_some h
      refine zs_callV (As := [.int p2]) (rest := []) E zc1 zyX1_fits zw_6_20 (kX1_fits _ _ _ _ _ hc) rfl rfl hk rfl ⟨by decide, by decide⟩ ⟨by decide, by decide⟩ (Nat.le_of_ble_eq_true rfl) dX11_type_18 rfl (show zJ Γ 4 0 0 σ 21 [(0, .ref p0), (1, .int p1), (2, .int p2)] [.int x1] from ?_)
      refine zj_if_ne (tgt := 27) E dX11_type_21 (by decide) h (fun h => ?_) (fun h => ?_)
      · refine zj_iload_n E dX11_type_27 rfl 2 rfl ?_
        refine zj_iconst (v := 1) E dX11_type_28 (by decide) ?_
        refine zj_isub E dX11_type_29 ?_
        refine zs_istore_n (lv2 := fun v1 => [(3, .int v1), (0, .ref p0), (1, .int p1), (2, .int p2)]) E dX11_type_30 rfl (by decide) (fun _ => rfl) h (fun v1 h => ?_)
        obtain ⟨b1, hb1, h⟩ := oB_some h
        refine zj_lv [1, 2, 0] rfl ?_
        refine zj_loop (wX11_type_L31 E p0 p1) zF (v1, σ) b1 hb1 ?_
        obtain ⟨σ2, rfl⟩ : ∃ z, z = b1 := ⟨_, rfl⟩
        try dsimp only at h
        show zJ Γ 4 0 0 σ2 54 [(0, .ref p0)] []
        refine zj_aload_n E dX11_type_54 rfl 0 rfl ?_
        refine zs_getR E zc10 0 (by decide) zw_1_19 rfl dX11_type_55 h (fun a3 h => ?_)
        refine zs_getIN E zc1 1 (by decide) (znf_5) rfl dX11_type_58 h (fun x2 h => ?_)
        have e9 := Option.some.inj h
        subst e9
        exact (show zRet Γ cX11_type 4 0 0 (some (.int x2)) σ2 from K) _ _ dX11_type_61
      · refine zj_bipush (v := (-14 : Int32)) E dX11_type_24 (by decide) ?_
        have e9 := Option.some.inj h
        subst e9
        exact (show zRet Γ cX11_type 4 0 0 (some (.int (-14 : Int32))) σ from K) _ _ dX11_type_26
    · refine zj_bipush (v := (-12 : Int32)) E dX11_type_10 (by decide) ?_
      have e9 := Option.some.inj h
      subst e9
      exact (show zRet Γ cX11_type 4 0 0 (some (.int (-12 : Int32))) σ from K) _ _ dX11_type_12
set_option maxRecDepth 100000 in
theorem kX11_type (l : Launch) (D : va_G) (cs : zCs) (z0 : Nat) (σ : zS) {p0 : Nat} {p1 : Int32} {p2 : Int32} {r : Int32} {σ' : zS} (h : fX11_type σ p0 p1 p2 = some (r, σ')) : zM l D cs z0 yX11_type cX11_type 4 (some .int) { frames := 1, cells := 0, slots := 0, locals := 21 } [.ref p0, .int p1, .int p2] σ (some (.int r)) σ' 0 0 := by
  exact zM_of (by decide) rfl (Or.inl rfl) (Nat.le_of_ble_eq_true rfl) rfl (fun Γ e1 e2 e3 e4 E hN K => wX11_type E σ _ _ _ h K)
