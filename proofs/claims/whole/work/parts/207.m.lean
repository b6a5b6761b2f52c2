/-! X10_addDefaultData -/
def fX10_addDefaultData (σ : zS) (p0 : Nat) (p1 : Nat) : Option zS := oB (fX10_rawSize σ p1) (fun x1 => oA (zk σ p0 = 10) (oB (fX10_openChunk σ p0 ((11 : Int32) + x1) 1229209940) (fun σ1 => oA (zk σ1 p0 = 10) (oB (fX10_addPacked σ1 p0 p1) (fun σ2 => oA (zk σ2 p0 = 10) (oB (fX10_closeChunk σ2 p0) (fun σ3 => some σ3)))))))
set_option maxRecDepth 100000 in
theorem wX10_addDefaultData {Γ : zG} (E : zE Γ cX10_addDefaultData RX10 2 { frames := 3, cells := 0, slots := 0, locals := 71 }) (σ : zS) (p0 : Nat) (p1 : Nat) {R : zS} (h : fX10_addDefaultData σ p0 p1 = some R) (K : zRet Γ cX10_addDefaultData 2 0 0 (none) R) : zJ Γ 2 0 0 σ 0 [(0, .ref p0), (1, .ref p1)] [] := by
  unfold fX10_addDefaultData at h
  refine zj_aload_n E dX10_addDefaultData_0 rfl 0 rfl ?_
  refine zj_bipush (v := 11) E dX10_addDefaultData_1 (by decide) ?_
  refine zj_aload_n E dX10_addDefaultData_3 rfl 1 rfl ?_
  obtain ⟨x1, hc, h⟩ := oB_some h
  refine zs_callS (As := [.ref p1]) (rest := [.int 11, .ref p0]) E zyX10_rawSize zw_32_4 (kX10_rawSize _ _ _ _ _ hc) rfl rfl rfl ⟨by decide, by decide⟩ ⟨by decide, by decide⟩ (Nat.le_of_ble_eq_true rfl) dX10_addDefaultData_4 rfl (show zJ Γ 2 0 0 σ 7 [(0, .ref p0), (1, .ref p1)] [.int x1, .int 11, .ref p0] from ?_)
  refine zj_iadd E dX10_addDefaultData_7 ?_
  refine zj_ldc (v := 1229209940) E zw_32_3 dX10_addDefaultData_8 ?_
  obtain ⟨hk, h⟩ := oA_some h
  obtain ⟨σ1, hc, h⟩ := oB_some h
  refine zs_callV (As := [.int ((11 : Int32) + x1), .int 1229209940]) (rest := []) E zc9 zyX10_openChunk zw_31_1 (kX10_openChunk _ _ _ _ _ hc) rfl rfl hk rfl ⟨by decide, by decide⟩ ⟨by decide, by decide⟩ (Nat.le_of_ble_eq_true rfl) dX10_addDefaultData_10 rfl (show zJ Γ 2 0 0 σ1 13 [(0, .ref p0), (1, .ref p1)] [] from ?_)
  refine zj_aload_n E dX10_addDefaultData_13 rfl 0 rfl ?_
  refine zj_aload_n E dX10_addDefaultData_14 rfl 1 rfl ?_
  obtain ⟨hk, h⟩ := oA_some h
  obtain ⟨σ2, hc, h⟩ := oB_some h
  refine zs_callV (As := [.ref p1]) (rest := []) E zc9 zyX10_addPacked zw_32_7 (kX10_addPacked _ _ _ _ _ hc) rfl rfl hk rfl ⟨by decide, by decide⟩ ⟨by decide, by decide⟩ (Nat.le_of_ble_eq_true rfl) dX10_addDefaultData_15 rfl (show zJ Γ 2 0 0 σ2 18 [(0, .ref p0), (1, .ref p1)] [] from ?_)
  refine zj_aload_n E dX10_addDefaultData_18 rfl 0 rfl ?_
  obtain ⟨hk, h⟩ := oA_some h
  obtain ⟨σ3, hc, h⟩ := oB_some h
  refine zs_callV (As := []) (rest := []) E zc9 zyX10_closeChunk zw_31_7 (kX10_closeChunk _ _ _ _ _ hc) rfl rfl hk rfl ⟨by decide, by decide⟩ ⟨by decide, by decide⟩ (Nat.le_of_ble_eq_true rfl) dX10_addDefaultData_19 rfl (show zJ Γ 2 0 0 σ3 22 [(0, .ref p0), (1, .ref p1)] [] from ?_)
  have e9 := Option.some.inj h
  subst e9
  exact (show zRet Γ cX10_addDefaultData 2 0 0 (none) σ3 from K) _ _ dX10_addDefaultData_22
set_option maxRecDepth 100000 in
theorem kX10_addDefaultData (l : Launch) (D : va_G) (cs : zCs) (z0 : Nat) (σ : zS) {p0 : Nat} {p1 : Nat}  {σ' : zS} (h : fX10_addDefaultData σ p0 p1 = some σ') : zM l D cs z0 yX10_addDefaultData cX10_addDefaultData 2 none { frames := 3, cells := 0, slots := 0, locals := 71 } [.ref p0, .ref p1] σ none σ' 0 0 := by
  exact zM_of (by decide) rfl rfl (Nat.le_of_ble_eq_true rfl) rfl (fun Γ e1 e2 e3 e4 E _ K => wX10_addDefaultData E σ _ _ h K)
/-! X10_addFrameData -/
def fX10_addFrameData (σ : zS) (p0 : Nat) (p1 : Nat) : Option zS := oB (fX10_rawSize σ p1) (fun x1 => oA (zk σ p0 = 10) (oB (fX10_openChunk σ p0 ((15 : Int32) + x1) 1717846356) (fun σ1 => oA (zk σ1 p0 = 10) (oB (fX10_addSerial σ1 p0) (fun σ2 => oA (zk σ2 p0 = 10) (oB (fX10_addPacked σ2 p0 p1) (fun σ3 => oA (zk σ3 p0 = 10) (oB (fX10_closeChunk σ3 p0) (fun σ4 => some σ4)))))))))
set_option maxRecDepth 100000 in
theorem wX10_addFrameData {Γ : zG} (E : zE Γ cX10_addFrameData RX10 2 { frames := 3, cells := 0, slots := 0, locals := 71 }) (σ : zS) (p0 : Nat) (p1 : Nat) {R : zS} (h : fX10_addFrameData σ p0 p1 = some R) (K : zRet Γ cX10_addFrameData 2 0 0 (none) R) : zJ Γ 2 0 0 σ 0 [(0, .ref p0), (1, .ref p1)] [] := by
  unfold fX10_addFrameData at h
  refine zj_aload_n E dX10_addFrameData_0 rfl 0 rfl ?_
  refine zj_bipush (v := 15) E dX10_addFrameData_1 (by decide) ?_
  refine zj_aload_n E dX10_addFrameData_3 rfl 1 rfl ?_
  obtain ⟨x1, hc, h⟩ := oB_some h
  refine zs_callS (As := [.ref p1]) (rest := [.int 15, .ref p0]) E zyX10_rawSize zw_32_4 (kX10_rawSize _ _ _ _ _ hc) rfl rfl rfl ⟨by decide, by decide⟩ ⟨by decide, by decide⟩ (Nat.le_of_ble_eq_true rfl) dX10_addFrameData_4 rfl (show zJ Γ 2 0 0 σ 7 [(0, .ref p0), (1, .ref p1)] [.int x1, .int 15, .ref p0] from ?_)
  refine zj_iadd E dX10_addFrameData_7 ?_
  refine zj_ldc (v := 1717846356) E zw_32_16 dX10_addFrameData_8 ?_
  obtain ⟨hk, h⟩ := oA_some h
  obtain ⟨σ1, hc, h⟩ := oB_some h
  refine zs_callV (As := [.int ((15 : Int32) + x1), .int 1717846356]) (rest := []) E zc9 zyX10_openChunk zw_31_1 (kX10_openChunk _ _ _ _ _ hc) rfl rfl hk rfl ⟨by decide, by decide⟩ ⟨by decide, by decide⟩ (Nat.le_of_ble_eq_true rfl) dX10_addFrameData_10 rfl (show zJ Γ 2 0 0 σ1 13 [(0, .ref p0), (1, .ref p1)] [] from ?_)
  refine zj_aload_n E dX10_addFrameData_13 rfl 0 rfl ?_
  obtain ⟨hk, h⟩ := oA_some h
  obtain ⟨σ2, hc, h⟩ := oB_some h
  refine zs_callV (As := []) (rest := []) E zc9 zyX10_addSerial zw_31_18 (kX10_addSerial _ _ _ _ _ hc) rfl rfl hk rfl ⟨by decide, by decide⟩ ⟨by decide, by decide⟩ (Nat.le_of_ble_eq_true rfl) dX10_addFrameData_14 rfl (show zJ Γ 2 0 0 σ2 17 [(0, .ref p0), (1, .ref p1)] [] from ?_)
  refine zj_aload_n E dX10_addFrameData_17 rfl 0 rfl ?_
  refine zj_aload_n E dX10_addFrameData_18 rfl 1 rfl ?_
  obtain ⟨hk, h⟩ := oA_some h
  obtain ⟨σ3, hc, h⟩ := oB_some h
  refine zs_callV (As := [.ref p1]) (rest := []) E zc9 zyX10_addPacked zw_32_7 (kX10_addPacked _ _ _ _ _ hc) rfl rfl hk rfl ⟨by decide, by decide⟩ ⟨by decide, by decide⟩ (Nat.le_of_ble_eq_true rfl) dX10_addFrameData_19 rfl (show zJ Γ 2 0 0 σ3 22 [(0, .ref p0), (1, .ref p1)] [] from ?_)
  refine zj_aload_n E dX10_addFrameData_22 rfl 0 rfl ?_
  obtain ⟨hk, h⟩ := oA_some h
  obtain ⟨σ4, hc, h⟩ := oB_some h
  refine zs_callV (As := []) (rest := []) E zc9 zyX10_closeChunk zw_31_7 (kX10_closeChunk _ _ _ _ _ hc) rfl rfl hk rfl ⟨by decide, by decide⟩ ⟨by decide, by decide⟩ (Nat.le_of_ble_eq_true rfl) dX10_addFrameData_23 rfl (show zJ Γ 2 0 0 σ4 26 [(0, .ref p0), (1, .ref p1)] [] from ?_)
  have e9 := Option.some.inj h
  subst e9
  exact (show zRet Γ cX10_addFrameData 2 0 0 (none) σ4 from K) _ _ dX10_addFrameData_26
set_option maxRecDepth 100000 in
theorem kX10_addFrameData (l : Launch) (D : va_G) (cs : zCs) (z0 : Nat) (σ : zS) {p0 : Nat} {p1 : Nat}  {σ' : zS} (h : fX10_addFrameData σ p0 p1 = some σ') : zM l D cs z0 yX10_addFrameData cX10_addFrameData 2 none { frames := 3, cells := 0, slots := 0, locals := 71 } [.ref p0, .ref p1] σ none σ' 0 0 := by
  exact zM_of (by decide) rfl rfl (Nat.le_of_ble_eq_true rfl) rfl (fun Γ e1 e2 e3 e4 E _ K => wX10_addFrameData E σ _ _ h K)
/-! X10_run -/
def jX10_run_107 (Γ : zG) (l0 : Nat) (l1 : Nat) : (Int32 × zS) → Prop := fun x => zJ Γ 3 0 0 x.2 107 [(0, .ref l0), (1, .ref l1), (2, .int x.1)] []
def eX10_run_107 (Γ : zG) (l0 : Nat) (l1 : Nat) : zS → Prop := fun b => zJ Γ 3 0 0 b 147 [(0, .ref l0)] []
def bX10_run_107 (l0 : Nat) (l1 : Nat) (l2 : Int32) (σ : zS) : Option ((Int32 × zS) ⊕ zS) := oGI σ 6 l1 7 (fun x5 => (if x5 ≤ l2 then some (.inr σ) else (if (8 : Int32) ≤ l2 then some (.inr σ) else oGR σ 6 l1 0 (fun a7 => oLr σ a7 l2 (fun a8 => oA (zk σ l0 = 10) (oB (fX10_addControl σ l0 a8) (fun σ11 => oGR σ11 6 l1 0 (fun a9 => oLr σ11 a9 l2 (fun a10 => oA (zk σ11 l0 = 10) (oB (fX10_addFrameData σ11 l0 a10) (fun σ12 => oL (l2 + 1) (fun v1 => some (.inl (v1, σ12))))))))))))))
set_option maxRecDepth 100000 in
theorem wX10_run_L107 {Γ : zG} (E : zE Γ cX10_run RX10 3 { frames := 4, cells := 0, slots := 0, locals := 92 }) (l0 : Nat) (l1 : Nat) : ∀ x R, (fun x => bX10_run_107 l0 l1 x.1 x.2) x = some R → Sum.elim (jX10_run_107 Γ l0 l1) (eX10_run_107 Γ l0 l1) R → jX10_run_107 Γ l0 l1 x := by
  intro x R h K
  obtain ⟨l2, σ⟩ := x
  have h : bX10_run_107 l0 l1 l2 σ = some R := h
  show zJ Γ 3 0 0 σ 107 [(0, .ref l0), (1, .ref l1), (2, .int l2)] []
  unfold bX10_run_107 at h
  refine zj_iload_n E dX10_run_107 rfl 2 rfl ?_
  refine zj_aload_n E dX10_run_108 rfl 1 rfl ?_
  refine zs_getIN E zc5 7 (by decide) (znf_56) rfl dX10_run_109 h (fun x5 h => ?_)
  refine zj_icmp_ge (tgt := 147) E dX10_run_112 (by decide) h (fun h => ?_) (fun h => ?_)
  · have e9 := Option.some.inj h
    subst e9
    refine zj_lv [0] rfl ?_
    exact K
  · refine zj_iload_n E dX10_run_115 rfl 2 rfl ?_
    refine zj_bipush (v := 8) E dX10_run_116 (by decide) ?_
    refine zj_icmp_ge (tgt := 147) E dX10_run_118 (by decide) h (fun h => ?_) (fun h => ?_)
    · have e9 := Option.some.inj h
      subst e9
      refine zj_lv [0] rfl ?_
      exact K
    · refine zj_aload_n E dX10_run_121 rfl 0 rfl ?_
      refine zj_aload_n E dX10_run_122 rfl 1 rfl ?_
      refine zs_getRN E zc5 0 (by decide) (znf_39) rfl dX10_run_123 h (fun a7 h => ?_)
      refine zj_iload_n E dX10_run_126 rfl 2 rfl ?_
      refine zs_aald E dX10_run_127 h (fun a8 h => ?_)
      obtain ⟨hk, h⟩ := oA_some h
      obtain ⟨σ11, hc, h⟩ := oB_some h
      refine zs_callV (As := [.ref a8]) (rest := []) E zc9 zyX10_addControl zw_31_12 (kX10_addControl _ _ _ _ _ hc) rfl rfl hk rfl ⟨by decide, by decide⟩ ⟨by decide, by decide⟩ (Nat.le_of_ble_eq_true rfl) dX10_run_128 rfl (show zJ Γ 3 0 0 σ11 131 [(0, .ref l0), (1, .ref l1), (2, .int l2)] [] from ?_)
      refine zj_aload_n E dX10_run_131 rfl 0 rfl ?_
      refine zj_aload_n E dX10_run_132 rfl 1 rfl ?_
      refine zs_getRN E zc5 0 (by decide) (znf_39) rfl dX10_run_133 h (fun a9 h => ?_)
      refine zj_iload_n E dX10_run_136 rfl 2 rfl ?_
      refine zs_aald E dX10_run_137 h (fun a10 h => ?_)
      obtain ⟨hk, h⟩ := oA_some h
      obtain ⟨σ12, hc, h⟩ := oB_some h
      refine zs_callV (As := [.ref a10]) (rest := []) E zc9 zyX10_addFrameData zw_32_12 (kX10_addFrameData _ _ _ _ _ hc) rfl rfl hk rfl ⟨by decide, by decide⟩ ⟨by decide, by decide⟩ (Nat.le_of_ble_eq_true rfl) dX10_run_138 rfl (show zJ Γ 3 0 0 σ12 141 [(0, .ref l0), (1, .ref l1), (2, .int l2)] [] from ?_)
      refine zs_iinc (lv2 := fun v1 => [(2, .int v1), (0, .ref l0), (1, .ref l1)]) E dX10_run_141 2 rfl (by decide) (by decide) (fun _ => rfl) h (fun v1 h => ?_)
      refine zj_goto (tgt := 107) E dX10_run_144 (by decide) ?_
      have e9 := Option.some.inj h
      subst e9
      refine zj_lv [1, 2, 0] rfl ?_
      exact K
def fX10_run_106 (σ : zS) (l0 : Nat) (l1 : Nat) (s0 : Int32) : Option zS := oB (zloop zF (fun x => bX10_run_107 l0 l1 x.1 x.2) (s0, σ)) (fun b1 => (fun σ13 => oA (zk σ13 l0 = 10) (oB (fX10_openChunk σ13 l0 0 1229278788) (fun σ14 => oA (zk σ14 l0 = 10) (oB (fX10_closeChunk σ14 l0) (fun σ15 => some σ15))))) b1)
set_option maxRecDepth 100000 in
theorem wX10_run_106 {Γ : zG} (E : zE Γ cX10_run RX10 3 { frames := 4, cells := 0, slots := 0, locals := 92 }) (σ : zS) (l0 : Nat) (l1 : Nat) (s0 : Int32) {R : zS} (h : fX10_run_106 σ l0 l1 s0 = some R) (K : zRet Γ cX10_run 3 0 0 (none) R) : zJ Γ 3 0 0 σ 106 [(0, .ref l0), (1, .ref l1)] [.int s0] := by
  unfold fX10_run_106 at h
  refine zj_istore_n (lv2 := [(2, .int s0), (0, .ref l0), (1, .ref l1)]) E dX10_run_106 rfl (by decide) rfl ?_
  obtain ⟨b1, hb1, h⟩ := oB_some h
  refine zj_lv [1, 2, 0] rfl ?_
  refine zj_loop (wX10_run_L107 E l0 l1) zF (s0, σ) b1 hb1 ?_
  obtain ⟨σ13, rfl⟩ : ∃ z, z = b1 := ⟨_, rfl⟩
  try dsimp only at h
  show zJ Γ 3 0 0 σ13 147 [(0, .ref l0)] []
  refine zj_aload_n E dX10_run_147 rfl 0 rfl ?_
  refine zj_iconst (v := 0) E dX10_run_148 (by decide) ?_
  refine zj_ldc (v := 1229278788) E zw_30_16 dX10_run_149 ?_
  obtain ⟨hk, h⟩ := oA_some h
  obtain ⟨σ14, hc, h⟩ := oB_some h
  refine zs_callV (As := [.int 0, .int 1229278788]) (rest := []) E zc9 zyX10_openChunk zw_31_1 (kX10_openChunk _ _ _ _ _ hc) rfl rfl hk rfl ⟨by decide, by decide⟩ ⟨by decide, by decide⟩ (Nat.le_of_ble_eq_true rfl) dX10_run_151 rfl (show zJ Γ 3 0 0 σ14 154 [(0, .ref l0)] [] from ?_)
  refine zj_aload_n E dX10_run_154 rfl 0 rfl ?_
  obtain ⟨hk, h⟩ := oA_some h
  obtain ⟨σ15, hc, h⟩ := oB_some h
  refine zs_callV (As := []) (rest := []) E zc9 zyX10_closeChunk zw_31_7 (kX10_closeChunk _ _ _ _ _ hc) rfl rfl hk rfl ⟨by decide, by decide⟩ ⟨by decide, by decide⟩ (Nat.le_of_ble_eq_true rfl) dX10_run_155 rfl (show zJ Γ 3 0 0 σ15 158 [(0, .ref l0)] [] from ?_)
  have e9 := Option.some.inj h
  subst e9
  exact (show zRet Γ cX10_run 3 0 0 (none) σ15 from K) _ _ dX10_run_158
def fX10_run_86 (σ : zS) (l0 : Nat) (l1 : Nat) : Option zS := oA (zk σ l1 = 6) (oB (fX5_defaultPicture σ l1) (fun a6 => oA (zk σ l0 = 10) (oB (fX10_addDefaultData σ l0 a6) (fun σ10 => oGI σ10 6 l1 3 (fun x4 => (if x4 = 0 then fX10_run_106 σ10 l0 l1 0 else fX10_run_106 σ10 l0 l1 1))))))
set_option maxRecDepth 100000 in
theorem wX10_run_86 {Γ : zG} (E : zE Γ cX10_run RX10 3 { frames := 4, cells := 0, slots := 0, locals := 92 }) (σ : zS) (l0 : Nat) (l1 : Nat) {R : zS} (h : fX10_run_86 σ l0 l1 = some R) (K : zRet Γ cX10_run 3 0 0 (none) R) : zJ Γ 3 0 0 σ 86 [(0, .ref l0), (1, .ref l1)] [] := by
  unfold fX10_run_86 at h
  refine zj_aload_n E dX10_run_86 rfl 0 rfl ?_
  refine zj_aload_n E dX10_run_87 rfl 1 rfl ?_
  obtain ⟨hk, h⟩ := oA_some h
  obtain ⟨a6, hc, h⟩ := oB_some h
  refine zs_callV (As := []) (rest := [.ref l0]) E zc5 zyX5_defaultPicture zw_31_22 (kX5_defaultPicture _ _ _ _ _ hc) rfl rfl hk rfl ⟨by decide, by decide⟩ ⟨by decide, by decide⟩ (Nat.le_of_ble_eq_true rfl) dX10_run_88 rfl (show zJ Γ 3 0 0 σ 91 [(0, .ref l0), (1, .ref l1)] [.ref a6, .ref l0] from ?_)
  obtain ⟨hk, h⟩ := oA_some h
  obtain ⟨σ10, hc, h⟩ := oB_some h
  refine zs_callV (As := [.ref a6]) (rest := []) E zc9 zyX10_addDefaultData zw_31_23 (kX10_addDefaultData _ _ _ _ _ hc) rfl rfl hk rfl ⟨by decide, by decide⟩ ⟨by decide, by decide⟩ (Nat.le_of_ble_eq_true rfl) dX10_run_91 rfl (show zJ Γ 3 0 0 σ10 94 [(0, .ref l0), (1, .ref l1)] [] from ?_)
  refine zj_aload_n E dX10_run_94 rfl 1 rfl ?_
  refine zs_getIN E zc5 3 (by decide) (znf_46) rfl dX10_run_95 h (fun x4 h => ?_)
  refine zj_if_eq (tgt := 105) E dX10_run_98 (by decide) h (fun h => ?_) (fun h => ?_)
  · refine zj_iconst (v := 0) E dX10_run_105 (by decide) ?_
    refine zj_lv [0, 1] rfl ?_
    exact wX10_run_106 E _ _ _ _ h K
  · refine zj_iconst (v := 1) E dX10_run_101 (by decide) ?_
    refine zj_goto (tgt := 106) E dX10_run_102 (by decide) ?_
    refine zj_lv [0, 1] rfl ?_
    exact wX10_run_106 E _ _ _ _ h K
def fX10_run (σ : zS) (p0 : Nat) (p1 : Nat) : Option zS := oGR σ 10 p0 0 (fun a1 => oA (zk σ a1 = 2) (oB (fX1_clear σ a1) (fun σ1 => oPI σ1 10 p0 3 0 (fun σ2 => oGR σ2 10 p0 0 (fun a2 => oA (zk σ2 a2 = 2) (oB (fX1_addNumber σ2 a2 (-1991225785 : Int32)) (fun σ3 => oGR σ3 10 p0 0 (fun a3 => oA (zk σ3 a3 = 2) (oB (fX1_addNumber σ3 a3 218765834) (fun σ4 => oA (zk σ4 p0 = 10) (oB (fX10_addHead σ4 p0 p1) (fun σ5 => oA (zk σ5 p0 = 10) (oB (fX10_openChunk σ5 p0 8 1633899596) (fun σ6 => oGR σ6 10 p0 0 (fun a4 => oGI σ6 6 p1 7 (fun x1 => oA (zk σ6 a4 = 2) (oB (fX1_addNumber σ6 a4 x1) (fun σ7 => oGR σ7 10 p0 0 (fun a5 => oGI σ7 6 p1 6 (fun x2 => oA (zk σ7 a5 = 2) (oB (fX1_addNumber σ7 a5 x2) (fun σ8 => oA (zk σ8 p0 = 10) (oB (fX10_closeChunk σ8 p0) (fun σ9 => oGI σ9 6 p1 3 (fun x3 => (if x3 = 0 then fX10_run_86 σ9 p0 p1 else oGR σ9 6 p1 0 (fun a11 => oLr σ9 a11 0 (fun a12 => oA (zk σ9 p0 = 10) (oB (fX10_addControl σ9 p0 a12) (fun σ16 => fX10_run_86 σ16 p0 p1))))))))))))))))))))))))))))))
set_option maxRecDepth 100000 in
theorem wX10_run {Γ : zG} (E : zE Γ cX10_run RX10 3 { frames := 4, cells := 0, slots := 0, locals := 92 }) (σ : zS) (p0 : Nat) (p1 : Nat) {R : zS} (h : fX10_run σ p0 p1 = some R) (K : zRet Γ cX10_run 3 0 0 (none) R) : zJ Γ 3 0 0 σ 0 [(0, .ref p0), (1, .ref p1)] [] := by
  unfold fX10_run at h
  refine zj_aload_n E dX10_run_0 rfl 0 rfl ?_
  refine zs_getR E zc9 0 (by decide) zw_5_14 rfl dX10_run_1 h (fun a1 h => ?_)
  obtain ⟨hk, h⟩ := oA_some h
  obtain ⟨σ1, hc, h⟩ := oB_some h
  refine zs_callV (As := []) (rest := []) E zc1 zyX1_clear zw_30_17 (kX1_clear _ _ _ _ _ hc) rfl rfl hk rfl ⟨by decide, by decide⟩ ⟨by decide, by decide⟩ (Nat.le_of_ble_eq_true rfl) dX10_run_4 rfl (show zJ Γ 3 0 0 σ1 7 [(0, .ref p0), (1, .ref p1)] [] from ?_)
  refine zj_aload_n E dX10_run_7 rfl 0 rfl ?_
  refine zj_iconst (v := 0) E dX10_run_8 (by decide) ?_
  refine zs_putI E zc9 3 (by decide) zw_30_12 rfl rfl dX10_run_9 h (fun σ2 h => ?_)
  refine zj_aload_n E dX10_run_12 rfl 0 rfl ?_
  refine zs_getR E zc9 0 (by decide) zw_5_14 rfl dX10_run_13 h (fun a2 h => ?_)
  refine zj_ldc (v := (-1991225785 : Int32)) E zw_30_13 dX10_run_16 ?_
  obtain ⟨hk, h⟩ := oA_some h
  obtain ⟨σ3, hc, h⟩ := oB_some h
  refine zs_callV (As := [.int (-1991225785 : Int32)]) (rest := []) E zc1 zyX1_addNumber zw_30_18 (kX1_addNumber _ _ _ _ _ hc) rfl rfl hk rfl ⟨by decide, by decide⟩ ⟨by decide, by decide⟩ (Nat.le_of_ble_eq_true rfl) dX10_run_18 rfl (show zJ Γ 3 0 0 σ3 21 [(0, .ref p0), (1, .ref p1)] [] from ?_)
  refine zj_aload_n E dX10_run_21 rfl 0 rfl ?_
  refine zs_getR E zc9 0 (by decide) zw_5_14 rfl dX10_run_22 h (fun a3 h => ?_)
  refine zj_ldc (v := 218765834) E zw_30_14 dX10_run_25 ?_
  obtain ⟨hk, h⟩ := oA_some h
  obtain ⟨σ4, hc, h⟩ := oB_some h
  refine zs_callV (As := [.int 218765834]) (rest := []) E zc1 zyX1_addNumber zw_30_18 (kX1_addNumber _ _ _ _ _ hc) rfl rfl hk rfl ⟨by decide, by decide⟩ ⟨by decide, by decide⟩ (Nat.le_of_ble_eq_true rfl) dX10_run_27 rfl (show zJ Γ 3 0 0 σ4 30 [(0, .ref p0), (1, .ref p1)] [] from ?_)
  refine zj_aload_n E dX10_run_30 rfl 0 rfl ?_
  refine zj_aload_n E dX10_run_31 rfl 1 rfl ?_
  obtain ⟨hk, h⟩ := oA_some h
  obtain ⟨σ5, hc, h⟩ := oB_some h
  refine zs_callV (As := [.ref p1]) (rest := []) E zc9 zyX10_addHead zw_30_19 (kX10_addHead _ _ _ _ _ hc) rfl rfl hk rfl ⟨by decide, by decide⟩ ⟨by decide, by decide⟩ (Nat.le_of_ble_eq_true rfl) dX10_run_32 rfl (show zJ Γ 3 0 0 σ5 35 [(0, .ref p0), (1, .ref p1)] [] from ?_)
  refine zj_aload_n E dX10_run_35 rfl 0 rfl ?_
  refine zj_bipush (v := 8) E dX10_run_36 (by decide) ?_
  refine zj_ldc (v := 1633899596) E zw_30_15 dX10_run_38 ?_
  obtain ⟨hk, h⟩ := oA_some h
  obtain ⟨σ6, hc, h⟩ := oB_some h
  refine zs_callV (As := [.int 8, .int 1633899596]) (rest := []) E zc9 zyX10_openChunk zw_31_1 (kX10_openChunk _ _ _ _ _ hc) rfl rfl hk rfl ⟨by decide, by decide⟩ ⟨by decide, by decide⟩ (Nat.le_of_ble_eq_true rfl) dX10_run_40 rfl (show zJ Γ 3 0 0 σ6 43 [(0, .ref p0), (1, .ref p1)] [] from ?_)
  refine zj_aload_n E dX10_run_43 rfl 0 rfl ?_
  refine zs_getR E zc9 0 (by decide) zw_5_14 rfl dX10_run_44 h (fun a4 h => ?_)
  refine zj_aload_n E dX10_run_47 rfl 1 rfl ?_
  refine zs_getIN E zc5 7 (by decide) (znf_56) rfl dX10_run_48 h (fun x1 h => ?_)
  obtain ⟨hk, h⟩ := oA_some h
  obtain ⟨σ7, hc, h⟩ := oB_some h
  refine zs_callV (As := [.int x1]) (rest := []) E zc1 zyX1_addNumber zw_30_18 (kX1_addNumber _ _ _ _ _ hc) rfl rfl hk rfl ⟨by decide, by decide⟩ ⟨by decide, by decide⟩ (Nat.le_of_ble_eq_true rfl) dX10_run_51 rfl (show zJ Γ 3 0 0 σ7 54 [(0, .ref p0), (1, .ref p1)] [] from ?_)
  refine zj_aload_n E dX10_run_54 rfl 0 rfl ?_
  refine zs_getR E zc9 0 (by decide) zw_5_14 rfl dX10_run_55 h (fun a5 h => ?_)
  refine zj_aload_n E dX10_run_58 rfl 1 rfl ?_
  refine zs_getIN E zc5 6 (by decide) (znf_53) rfl dX10_run_59 h (fun x2 h => ?_)
  obtain ⟨hk, h⟩ := oA_some h
  obtain ⟨σ8, hc, h⟩ := oB_some h
  refine zs_callV (As := [.int x2]) (rest := []) E zc1 zyX1_addNumber zw_30_18 (kX1_addNumber _ _ _ _ _ hc) rfl rfl hk rfl ⟨by decide, by decide⟩ ⟨by decide, by decide⟩ (Nat.le_of_ble_eq_true rfl) dX10_run_62 rfl (show zJ Γ 3 0 0 σ8 65 [(0, .ref p0), (1, .ref p1)] [] from ?_)
  refine zj_aload_n E dX10_run_65 rfl 0 rfl ?_
  obtain ⟨hk, h⟩ := oA_some h
  obtain ⟨σ9, hc, h⟩ := oB_some h
  refine zs_callV (As := []) (rest := []) E zc9 zyX10_closeChunk zw_31_7 (kX10_closeChunk _ _ _ _ _ hc) rfl rfl hk rfl ⟨by decide, by decide⟩ ⟨by decide, by decide⟩ (Nat.le_of_ble_eq_true rfl) dX10_run_66 rfl (show zJ Γ 3 0 0 σ9 69 [(0, .ref p0), (1, .ref p1)] [] from ?_)
  refine zj_aload_n E dX10_run_69 rfl 1 rfl ?_
  refine zs_getIN E zc5 3 (by decide) (znf_46) rfl dX10_run_70 h (fun x3 h => ?_)
  refine zj_if_eq (tgt := 86) E dX10_run_73 (by decide) h (fun h => ?_) (fun h => ?_)
  · refine zj_lv [0, 1] rfl ?_
    exact wX10_run_86 E _ _ _ h K
  · refine zj_aload_n E dX10_run_76 rfl 0 rfl ?_
    refine zj_aload_n E dX10_run_77 rfl 1 rfl ?_
    refine zs_getRN E zc5 0 (by decide) (znf_39) rfl dX10_run_78 h (fun a11 h => ?_)
    refine zj_iconst (v := 0) E dX10_run_81 (by decide) ?_
    refine zs_aald E dX10_run_82 h (fun a12 h => ?_)
    obtain ⟨hk, h⟩ := oA_some h
    obtain ⟨σ16, hc, h⟩ := oB_some h
    refine zs_callV (As := [.ref a12]) (rest := []) E zc9 zyX10_addControl zw_31_12 (kX10_addControl _ _ _ _ _ hc) rfl rfl hk rfl ⟨by decide, by decide⟩ ⟨by decide, by decide⟩ (Nat.le_of_ble_eq_true rfl) dX10_run_83 rfl (show zJ Γ 3 0 0 σ16 86 [(0, .ref p0), (1, .ref p1)] [] from ?_)
    refine zj_lv [0, 1] rfl ?_
    exact wX10_run_86 E _ _ _ h K
set_option maxRecDepth 100000 in
theorem kX10_run (l : Launch) (D : va_G) (cs : zCs) (z0 : Nat) (σ : zS) {p0 : Nat} {p1 : Nat}  {σ' : zS} (h : fX10_run σ p0 p1 = some σ') : zM l D cs z0 yX10_run cX10_run 3 none { frames := 4, cells := 0, slots := 0, locals := 92 } [.ref p0, .ref p1] σ none σ' 0 0 := by
  exact zM_of (by decide) rfl rfl (Nat.le_of_ble_eq_true rfl) rfl (fun Γ e1 e2 e3 e4 E _ K => wX10_run E σ _ _ h K)
/-! X11_type -/
def jX11_type_31 (Γ : zG) (l0 : Nat) (l1 : Int32) : (Int32 × zS) → Prop := fun x => zJ Γ 4 0 0 x.2 31 [(0, .ref l0), (1, .int l1), (3, .int x.1)] []
def eX11_type_31 (Γ : zG) (l0 : Nat) (l1 : Int32) : zS → Prop := fun b => zJ Γ 4 0 0 b 54 [(0, .ref l0)] []
def bX11_type_31 (l0 : Nat) (l1 : Int32) (l3 : Int32) (σ : zS) : Option ((Int32 × zS) ⊕ zS) := (if l3 < 0 then some (.inr σ) else oGR σ 11 l0 0 (fun a2 => oA (zk σ a2 = 2) (oB (fX1_add σ a2 ((l1.toUInt32 >>> (((8 : Int32) * l3).toUInt32 &&& Int32.toUInt32 31)).toInt32)) (fun σ1 => oL (l3 + (-1 : Int32)) (fun v2 => some (.inl (v2, σ1)))))))
set_option maxRecDepth 100000 in
theorem wX11_type_L31 {Γ : zG} (E : zE Γ cX11_type RX11 4 { frames := 1, cells := 0, slots := 0, locals := 21 }) (l0 : Nat) (l1 : Int32) : ∀ x R, (fun x => bX11_type_31 l0 l1 x.1 x.2) x = some R → Sum.elim (jX11_type_31 Γ l0 l1) (eX11_type_31 Γ l0 l1) R → jX11_type_31 Γ l0 l1 x := by
  intro x R h K
  obtain ⟨l3, σ⟩ := x
  have h : bX11_type_31 l0 l1 l3 σ = some R := h
  show zJ Γ 4 0 0 σ 31 [(0, .ref l0), (1, .int l1), (3, .int l3)] []
  unfold bX11_type_31 at h
  refine zj_iload_n E dX11_type_31 rfl 2 rfl ?_
  refine zj_if_lt (tgt := 54) E dX11_type_32 (by decide) h (fun h => ?_) (fun h => ?_)
  · have e9 := Option.some.inj h
    subst e9
    refine zj_lv [0] rfl ?_
    exact K
  · refine zj_aload_n E dX11_type_35 rfl 0 rfl ?_
    refine zs_getR E zc10 0 (by decide) zw_1_19 rfl dX11_type_36 h (fun a2 h => ?_)
    refine zj_iload_n E dX11_type_39 rfl 1 rfl ?_
    refine zj_bipush (v := 8) E dX11_type_40 (by decide) ?_
    refine zj_iload_n E dX11_type_42 rfl 2 rfl ?_
    refine zj_imul E dX11_type_43 ?_
    refine zj_iushr E dX11_type_44 ?_
    obtain ⟨hk, h⟩ := oA_some h
    obtain ⟨σ1, hc, h⟩ := oB_some h
    refine zs_callV (As := [.int ((l1.toUInt32 >>> (((8 : Int32) * l3).toUInt32 &&& Int32.toUInt32 31)).toInt32)]) (rest := []) E zc1 zyX1_add zw_7_1 (kX1_add _ _ _ _ _ hc) rfl rfl hk rfl ⟨by decide, by decide⟩ ⟨by decide, by decide⟩ (Nat.le_of_ble_eq_true rfl) dX11_type_45 rfl (show zJ Γ 4 0 0 σ1 48 [(0, .ref l0), (1, .int l1), (3, .int l3)] [] from ?_)
    refine zs_iinc (lv2 := fun v2 => [(3, .int v2), (0, .ref l0), (1, .int l1)]) E dX11_type_48 2 rfl (by decide) (by decide) (fun _ => rfl) h (fun v2 h => ?_)
    refine zj_goto (tgt := 31) E dX11_type_51 (by decide) ?_
    have e9 := Option.some.inj h
    subst e9
    refine zj_lv [1, 2, 0] rfl ?_
    exact K
def fX11_type (σ : zS) (p0 : Nat) (p1 : Int32) (p2 : Int32) : Option (Int32 × zS) := (if p2 < (1 : Int32) then some ((-12 : Int32), σ) else (if p2 ≤ (4 : Int32) then oGR σ 11 p0 0 (fun a1 => oA (zk σ a1 = 2) (oB (fX1_fits σ a1 p2) (fun x1 => (if x1 = 0 then some ((-14 : Int32), σ) else oL (p2 - (1 : Int32)) (fun v1 => oB (zloop zF (fun x => bX11_type_31 p0 p1 x.1 x.2) (v1, σ)) (fun b1 => (fun σ2 => oGR σ2 11 p0 0 (fun a3 => oGI σ2 2 a3 1 (fun x2 => some (x2, σ2)))) b1)))))) else some ((-12 : Int32), σ)))
set_option maxRecDepth 100000 in
theorem wX11_type {Γ : zG} (E : zE Γ cX11_type RX11 4 { frames := 1, cells := 0, slots := 0, locals := 21 }) (σ : zS) (p0 : Nat) (p1 : Int32) (p2 : Int32) {R : (Int32 × zS)} (h : fX11_type σ p0 p1 p2 = some R) (K : zRet Γ cX11_type 4 0 0 (some (.int R.1)) R.2) : zJ Γ 4 0 0 σ 0 [(0, .ref p0), (1, .int p1), (2, .int p2)] [] := by
  unfold fX11_type at h
  refine zj_iload_n E dX11_type_0 rfl 2 rfl ?_
  refine zj_iconst (v := 1) E dX11_type_1 (by decide) ?_
  refine zj_icmp_lt (tgt := 10) E dX11_type_2 (by decide) h (fun h => ?_) (fun h => ?_)
  · refine zj_bipush (v := (-12 : Int32)) E dX11_type_10 (by decide) ?_
    have e9 := Option.some.inj h
    subst e9
    exact (show zRet Γ cX11_type 4 0 0 (some (.int (-12 : Int32))) σ from K) _ _ dX11_type_12
  · refine zj_iload_n E dX11_type_5 rfl 2 rfl ?_
    refine zj_iconst (v := 4) E dX11_type_6 (by decide) ?_
    refine zj_icmp_le (tgt := 13) E dX11_type_7 (by decide) h (fun h => ?_) (fun h => ?_)
    · refine zj_aload_n E dX11_type_13 rfl 0 rfl ?_
      refine zs_getR E zc10 0 (by decide) zw_1_19 rfl dX11_type_14 h (fun a1 h => ?_)
      refine zj_iload_n E dX11_type_17 rfl 2 rfl ?_
      obtain ⟨hk, h⟩ := oA_some h
      obtain ⟨x1, hc, h⟩ := oB_some h
      refine zs_callV (As := [.int p2]) (rest := []) E zc1 zyX1_fits zw_6_20 (kX1_fits _ _ _ _ _ hc) rfl rfl hk rfl ⟨by decide, by decide⟩ ⟨by decide, by decide⟩ (Nat.le_of_ble_eq_true rfl) dX11_type_18 rfl (show zJ Γ 4 0 0 σ 21 [(0, .ref p0), (1, .int p1), (2, .int p2)] [.int x1] from ?_)
      refine zj_if_ne (tgt := 27) E dX11_type_21 (by decide) h (fun h => ?_) (fun h => ?_)
      · refine zj_iload_n E dX11_type_27 rfl 2 rfl ?_
        refine zj_iconst (v := 1) E dX11_type_28 (by decide) ?_
        refine zj_isub E dX11_type_29 ?_
        refine zs_istore_n (lv2 := fun v1 => [(3, .int v1), (0, .ref p0), (1, .int p1), (2, .int p2)]) E dX11_type_30 rfl (by decide) (fun _ => rfl) h (fun v1 h => ?_)
        obtain ⟨b1, hb1, h⟩ := oB_some h
        refine zj_lv [1, 2, 0] rfl ?_
        refine zj_loop (wX11_type_L31 E p0 p1) zF (v1, σ) b1 hb1 ?_
        obtain ⟨σ2, rfl⟩ : ∃ z, z = b1 := ⟨_, rfl⟩
        try dsimp only at h
        show zJ Γ 4 0 0 σ2 54 [(0, .ref p0)] []
        refine zj_aload_n E dX11_type_54 rfl 0 rfl ?_
        refine zs_getR E zc10 0 (by decide) zw_1_19 rfl dX11_type_55 h (fun a3 h => ?_)
        refine zs_getIN E zc1 1 (by decide) (znf_5) rfl dX11_type_58 h (fun x2 h => ?_)
        have e9 := Option.some.inj h
        subst e9
        exact (show zRet Γ cX11_type 4 0 0 (some (.int x2)) σ2 from K) _ _ dX11_type_61
      · refine zj_bipush (v := (-14 : Int32)) E dX11_type_24 (by decide) ?_
        have e9 := Option.some.inj h
        subst e9
        exact (show zRet Γ cX11_type 4 0 0 (some (.int (-14 : Int32))) σ from K) _ _ dX11_type_26
    · refine zj_bipush (v := (-12 : Int32)) E dX11_type_10 (by decide) ?_
      have e9 := Option.some.inj h
      subst e9
      exact (show zRet Γ cX11_type 4 0 0 (some (.int (-12 : Int32))) σ from K) _ _ dX11_type_12
set_option maxRecDepth 100000 in
theorem kX11_type (l : Launch) (D : va_G) (cs : zCs) (z0 : Nat) (σ : zS) {p0 : Nat} {p1 : Int32} {p2 : Int32} {r : Int32} {σ' : zS} (h : fX11_type σ p0 p1 p2 = some (r, σ')) : zM l D cs z0 yX11_type cX11_type 4 (some .int) { frames := 1, cells := 0, slots := 0, locals := 21 } [.ref p0, .int p1, .int p2] σ (some (.int r)) σ' 0 0 := by
  exact zM_of (by decide) rfl (Or.inl rfl) (Nat.le_of_ble_eq_true rfl) rfl (fun Γ e1 e2 e3 e4 E _ K => wX11_type E σ _ _ _ h K)
/-! X11_words -/
def fX11_words (σ : zS) (p0 : Nat) (p1 : Int32) (p2 : Int32) (p3 : Int32) (p4 : Int32) : Option (Int32 × zS) := oGR σ 11 p0 0 (fun a1 => oA (zk σ a1 = 2) (oB (fX1_fits σ a1 16) (fun x1 => (if x1 = 0 then some ((-14 : Int32), σ) else oGR σ 11 p0 0 (fun a2 => oA (zk σ a2 = 2) (oB (fX1_addNumber σ a2 p1) (fun σ1 => oGR σ1 11 p0 0 (fun a3 => oA (zk σ1 a3 = 2) (oB (fX1_addNumber σ1 a3 p2) (fun σ2 => oGR σ2 11 p0 0 (fun a4 => oA (zk σ2 a4 = 2) (oB (fX1_addNumber σ2 a4 p3) (fun σ3 => oGR σ3 11 p0 0 (fun a5 => oA (zk σ3 a5 = 2) (oB (fX1_addNumber σ3 a5 p4) (fun σ4 => oGR σ4 11 p0 0 (fun a6 => oGI σ4 2 a6 1 (fun x2 => some (x2, σ4)))))))))))))))))))
set_option maxRecDepth 100000 in
theorem wX11_words {Γ : zG} (E : zE Γ cX11_words RX11 5 { frames := 2, cells := 0, slots := 0, locals := 42 }) (σ : zS) (p0 : Nat) (p1 : Int32) (p2 : Int32) (p3 : Int32) (p4 : Int32) {R : (Int32 × zS)} (h : fX11_words σ p0 p1 p2 p3 p4 = some R) (K : zRet Γ cX11_words 5 0 0 (some (.int R.1)) R.2) : zJ Γ 5 0 0 σ 0 [(0, .ref p0), (1, .int p1), (2, .int p2), (3, .int p3), (4, .int p4)] [] := by
  unfold fX11_words at h
  refine zj_aload_n E dX11_words_0 rfl 0 rfl ?_
  refine zs_getR E zc10 0 (by decide) zw_1_19 rfl dX11_words_1 h (fun a1 h => ?_)
  refine zj_bipush (v := 16) E dX11_words_4 (by decide) ?_
  obtain ⟨hk, h⟩ := oA_some h
  obtain ⟨x1, hc, h⟩ := oB_some h
  refine zs_callV (As := [.int 16]) (rest := []) E zc1 zyX1_fits zw_6_20 (kX1_fits _ _ _ _ _ hc) rfl rfl hk rfl ⟨by decide, by decide⟩ ⟨by decide, by decide⟩ (Nat.le_of_ble_eq_true rfl) dX11_words_6 rfl (show zJ Γ 5 0 0 σ 9 [(0, .ref p0), (1, .int p1), (2, .int p2), (3, .int p3), (4, .int p4)] [.int x1] from ?_)
  refine zj_if_ne (tgt := 15) E dX11_words_9 (by decide) h (fun h => ?_) (fun h => ?_)
  · refine zj_aload_n E dX11_words_15 rfl 0 rfl ?_
    refine zs_getR E zc10 0 (by decide) zw_1_19 rfl dX11_words_16 h (fun a2 h => ?_)
    refine zj_iload_n E dX11_words_19 rfl 1 rfl ?_
    obtain ⟨hk, h⟩ := oA_some h
    obtain ⟨σ1, hc, h⟩ := oB_some h
    refine zs_callV (As := [.int p1]) (rest := []) E zc1 zyX1_addNumber zw_7_14 (kX1_addNumber _ _ _ _ _ hc) rfl rfl hk rfl ⟨by decide, by decide⟩ ⟨by decide, by decide⟩ (Nat.le_of_ble_eq_true rfl) dX11_words_20 rfl (show zJ Γ 5 0 0 σ1 23 [(0, .ref p0), (1, .int p1), (2, .int p2), (3, .int p3), (4, .int p4)] [] from ?_)
    refine zj_aload_n E dX11_words_23 rfl 0 rfl ?_
    refine zs_getR E zc10 0 (by decide) zw_1_19 rfl dX11_words_24 h (fun a3 h => ?_)
    refine zj_iload_n E dX11_words_27 rfl 2 rfl ?_
    obtain ⟨hk, h⟩ := oA_some h
    obtain ⟨σ2, hc, h⟩ := oB_some h
    refine zs_callV (As := [.int p2]) (rest := []) E zc1 zyX1_addNumber zw_7_14 (kX1_addNumber _ _ _ _ _ hc) rfl rfl hk rfl ⟨by decide, by decide⟩ ⟨by decide, by decide⟩ (Nat.le_of_ble_eq_true rfl) dX11_words_28 rfl (show zJ Γ 5 0 0 σ2 31 [(0, .ref p0), (1, .int p1), (2, .int p2), (3, .int p3), (4, .int p4)] [] from ?_)
    refine zj_aload_n E dX11_words_31 rfl 0 rfl ?_
    refine zs_getR E zc10 0 (by decide) zw_1_19 rfl dX11_words_32 h (fun a4 h => ?_)
    refine zj_iload_n E dX11_words_35 rfl 3 rfl ?_
    obtain ⟨hk, h⟩ := oA_some h
    obtain ⟨σ3, hc, h⟩ := oB_some h
    refine zs_callV (As := [.int p3]) (rest := []) E zc1 zyX1_addNumber zw_7_14 (kX1_addNumber _ _ _ _ _ hc) rfl rfl hk rfl ⟨by decide, by decide⟩ ⟨by decide, by decide⟩ (Nat.le_of_ble_eq_true rfl) dX11_words_36 rfl (show zJ Γ 5 0 0 σ3 39 [(0, .ref p0), (1, .int p1), (2, .int p2), (3, .int p3), (4, .int p4)] [] from ?_)
    refine zj_aload_n E dX11_words_39 rfl 0 rfl ?_
    refine zs_getR E zc10 0 (by decide) zw_1_19 rfl dX11_words_40 h (fun a5 h => ?_)
    refine zj_iload E dX11_words_43 4 rfl ?_
    obtain ⟨hk, h⟩ := oA_some h
    obtain ⟨σ4, hc, h⟩ := oB_some h
    refine zs_callV (As := [.int p4]) (rest := []) E zc1 zyX1_addNumber zw_7_14 (kX1_addNumber _ _ _ _ _ hc) rfl rfl hk rfl ⟨by decide, by decide⟩ ⟨by decide, by decide⟩ (Nat.le_of_ble_eq_true rfl) dX11_words_45 rfl (show zJ Γ 5 0 0 σ4 48 [(0, .ref p0), (1, .int p1), (2, .int p2), (3, .int p3), (4, .int p4)] [] from ?_)
    refine zj_aload_n E dX11_words_48 rfl 0 rfl ?_
    refine zs_getR E zc10 0 (by decide) zw_1_19 rfl dX11_words_49 h (fun a6 h => ?_)
    refine zs_getIN E zc1 1 (by decide) (znf_5) rfl dX11_words_52 h (fun x2 h => ?_)
    have e9 := Option.some.inj h
    subst e9
    exact (show zRet Γ cX11_words 5 0 0 (some (.int x2)) σ4 from K) _ _ dX11_words_55
  · refine zj_bipush (v := (-14 : Int32)) E dX11_words_12 (by decide) ?_
    have e9 := Option.some.inj h
    subst e9
    exact (show zRet Γ cX11_words 5 0 0 (some (.int (-14 : Int32))) σ from K) _ _ dX11_words_14
set_option maxRecDepth 100000 in
theorem kX11_words (l : Launch) (D : va_G) (cs : zCs) (z0 : Nat) (σ : zS) {p0 : Nat} {p1 : Int32} {p2 : Int32} {p3 : Int32} {p4 : Int32} {r : Int32} {σ' : zS} (h : fX11_words σ p0 p1 p2 p3 p4 = some (r, σ')) : zM l D cs z0 yX11_words cX11_words 5 (some .int) { frames := 2, cells := 0, slots := 0, locals := 42 } [.ref p0, .int p1, .int p2, .int p3, .int p4] σ (some (.int r)) σ' 0 0 := by
  exact zM_of (by decide) rfl (Or.inl rfl) (Nat.le_of_ble_eq_true rfl) rfl (fun Γ e1 e2 e3 e4 E _ K => wX11_words E σ _ _ _ _ _ h K)
/-! X11_read -/
def fX11_read (σ : zS) (p0 : Nat) : Option (Int32 × zS) := oGR σ 11 p0 1 (fun a1 => oA (zk σ a1 = 5) (oC (fX4_run σ a1) (fun x1 σ1 => oGR σ1 11 p0 0 (fun a2 => oA (zk σ1 a2 = 2) (oB (fX1_clear σ1 a2) (fun σ2 => (if x1 = 0 then oPI σ2 11 p0 5 (-1 : Int32) (fun σ3 => oGR σ3 11 p0 1 (fun a3 => oGR σ3 11 p0 4 (fun a4 => oA (zk σ3 a3 = 5) (oC (fX4_exchange σ3 a3 a4) (fun a5 σ4 => oPR σ4 11 p0 4 a5 (fun σ5 => oGR σ5 11 p0 3 (fun a6 => oA (zk σ5 a6 = 7) (oB (fX7_forget σ5 a6) (fun σ6 => oGR σ6 11 p0 4 (fun a7 => oGI σ6 6 a7 7 (fun x2 => some (x2, σ6)))))))))))) else oGR σ2 11 p0 1 (fun a8 => oGI σ2 5 a8 5 (fun x3 => oPI σ2 11 p0 5 x3 (fun σ7 => some ((-x1), σ7)))))))))))
set_option maxRecDepth 100000 in
theorem wX11_read {Γ : zG} (E : zE Γ cX11_read RX11 2 { frames := 7, cells := 0, slots := 0, locals := 172 }) (σ : zS) (p0 : Nat) {R : (Int32 × zS)} (h : fX11_read σ p0 = some R) (K : zRet Γ cX11_read 2 0 0 (some (.int R.1)) R.2) : zJ Γ 2 0 0 σ 0 [(0, .ref p0)] [] := by
  unfold fX11_read at h
  refine zj_aload_n E dX11_read_0 rfl 0 rfl ?_
  refine zs_getR E zc10 1 (by decide) zw_1_23 rfl dX11_read_1 h (fun a1 h => ?_)
  obtain ⟨hk, h⟩ := oA_some h
  obtain ⟨x1, σ1, hc, h⟩ := oC_some h
  refine zs_callV (As := []) (rest := []) E zc4 zyX4_run zw_8_4 (kX4_run _ _ _ _ _ hc) rfl rfl hk rfl ⟨by decide, by decide⟩ ⟨by decide, by decide⟩ (Nat.le_of_ble_eq_true rfl) dX11_read_4 rfl (show zJ Γ 2 0 0 σ1 7 [(0, .ref p0)] [.int x1] from ?_)
  refine zj_istore_n (lv2 := [(1, .int x1), (0, .ref p0)]) E dX11_read_7 rfl (by decide) rfl ?_
  refine zj_aload_n E dX11_read_8 rfl 1 rfl ?_
  refine zs_getR E zc10 0 (by decide) zw_1_19 rfl dX11_read_9 h (fun a2 h => ?_)
  obtain ⟨hk, h⟩ := oA_some h
  obtain ⟨σ2, hc, h⟩ := oB_some h
  refine zs_callV (As := []) (rest := []) E zc1 zyX1_clear zw_17_2 (kX1_clear _ _ _ _ _ hc) rfl rfl hk rfl ⟨by decide, by decide⟩ ⟨by decide, by decide⟩ (Nat.le_of_ble_eq_true rfl) dX11_read_12 rfl (show zJ Γ 2 0 0 σ2 15 [(1, .int x1), (0, .ref p0)] [] from ?_)
  refine zj_iload_n E dX11_read_15 rfl 0 rfl ?_
  refine zj_if_eq (tgt := 33) E dX11_read_16 (by decide) h (fun h => ?_) (fun h => ?_)
  · refine zj_aload_n E dX11_read_33 rfl 1 rfl ?_
    refine zj_iconst (v := (-1 : Int32)) E dX11_read_34 (by decide) ?_
    refine zs_putI E zc10 5 (by decide) zw_2_12 rfl rfl dX11_read_35 h (fun σ3 h => ?_)
    refine zj_aload_n E dX11_read_38 rfl 1 rfl ?_
    refine zj_aload_n E dX11_read_39 rfl 1 rfl ?_
    refine zs_getR E zc10 1 (by decide) zw_1_23 rfl dX11_read_40 h (fun a3 h => ?_)
    refine zj_aload_n E dX11_read_43 rfl 1 rfl ?_
    refine zs_getR E zc10 4 (by decide) zw_2_11 rfl dX11_read_44 h (fun a4 h => ?_)
    obtain ⟨hk, h⟩ := oA_some h
    obtain ⟨a5, σ4, hc, h⟩ := oC_some h
    refine zs_callV (As := [.ref a4]) (rest := [.ref p0]) E zc4 zyX4_exchange zw_17_3 (kX4_exchange _ _ _ _ _ hc) rfl rfl hk rfl ⟨by decide, by decide⟩ ⟨by decide, by decide⟩ (Nat.le_of_ble_eq_true rfl) dX11_read_47 rfl (show zJ Γ 2 0 0 σ4 50 [(1, .int x1), (0, .ref p0)] [.ref a5, .ref p0] from ?_)
    refine zs_putR E zc10 4 (by decide) zw_2_11 rfl rfl dX11_read_50 h (fun σ5 h => ?_)
    refine zj_aload_n E dX11_read_53 rfl 1 rfl ?_
    refine zs_getR E zc10 3 (by decide) zw_2_7 rfl dX11_read_54 h (fun a6 h => ?_)
    obtain ⟨hk, h⟩ := oA_some h
    obtain ⟨σ6, hc, h⟩ := oB_some h
    refine zs_callV (As := []) (rest := []) E zc6 zyX7_forget zw_17_7 (kX7_forget _ _ _ _ _ hc) rfl rfl hk rfl ⟨by decide, by decide⟩ ⟨by decide, by decide⟩ (Nat.le_of_ble_eq_true rfl) dX11_read_57 rfl (show zJ Γ 2 0 0 σ6 60 [(1, .int x1), (0, .ref p0)] [] from ?_)
    refine zj_aload_n E dX11_read_60 rfl 1 rfl ?_
    refine zs_getR E zc10 4 (by decide) zw_2_11 rfl dX11_read_61 h (fun a7 h => ?_)
    refine zs_getIN E zc5 7 (by decide) (znf_57) rfl dX11_read_64 h (fun x2 h => ?_)
    have e9 := Option.some.inj h
    subst e9
    exact (show zRet Γ cX11_read 2 0 0 (some (.int x2)) σ6 from K) _ _ dX11_read_67
  · refine zj_aload_n E dX11_read_19 rfl 1 rfl ?_
    refine zj_aload_n E dX11_read_20 rfl 1 rfl ?_
    refine zs_getR E zc10 1 (by decide) zw_1_23 rfl dX11_read_21 h (fun a8 h => ?_)
    refine zs_getIN E zc4 5 (by decide) (znf_59) rfl dX11_read_24 h (fun x3 h => ?_)
    refine zs_putI E zc10 5 (by decide) zw_2_12 rfl rfl dX11_read_27 h (fun σ7 h => ?_)
    refine zj_iload_n E dX11_read_30 rfl 0 rfl ?_
    refine zj_ineg E dX11_read_31 ?_
    have e9 := Option.some.inj h
    subst e9
    exact (show zRet Γ cX11_read 2 0 0 (some (.int (-x1))) σ7 from K) _ _ dX11_read_32
set_option maxRecDepth 100000 in
theorem kX11_read (l : Launch) (D : va_G) (cs : zCs) (z0 : Nat) (σ : zS) {p0 : Nat} {r : Int32} {σ' : zS} (h : fX11_read σ p0 = some (r, σ')) : zM l D cs z0 yX11_read cX11_read 2 (some .int) { frames := 7, cells := 0, slots := 0, locals := 172 } [.ref p0] σ (some (.int r)) σ' 0 0 := by
  exact zM_of (by decide) rfl (Or.inl rfl) (Nat.le_of_ble_eq_true rfl) rfl (fun Γ e1 e2 e3 e4 E _ K => wX11_read E σ _ h K)
/-! X11_place -/
def fX11_place (σ : zS) (p0 : Nat) : Option Int32 := oGI σ 11 p0 5 (fun x1 => some x1)
set_option maxRecDepth 100000 in
theorem wX11_place {Γ : zG} (E : zE Γ cX11_place RX11 1 { frames := 0, cells := 0, slots := 0, locals := 0 }) (σ : zS) (p0 : Nat) {R : Int32} (h : fX11_place σ p0 = some R) (K : zRet Γ cX11_place 1 0 0 (some (.int R)) σ) : zJ Γ 1 0 0 σ 0 [(0, .ref p0)] [] := by
  unfold fX11_place at h
  refine zj_aload_n E dX11_place_0 rfl 0 rfl ?_
  refine zs_getI E zc10 5 (by decide) zw_2_12 rfl dX11_place_1 h (fun x1 h => ?_)
  have e9 := Option.some.inj h
  subst e9
  exact (show zRet Γ cX11_place 1 0 0 (some (.int x1)) σ from K) _ _ dX11_place_4
set_option maxRecDepth 100000 in
theorem kX11_place (l : Launch) (D : va_G) (cs : zCs) (z0 : Nat) (σ : zS) {p0 : Nat} {r : Int32} (h : fX11_place σ p0 = some r) : zM l D cs z0 yX11_place cX11_place 1 (some .int) { frames := 0, cells := 0, slots := 0, locals := 0 } [.ref p0] σ (some (.int r)) σ 0 0 := by
  exact zM_of (by decide) rfl (Or.inl rfl) (Nat.le_of_ble_eq_true rfl) rfl (fun Γ e1 e2 e3 e4 E _ K => wX11_place E σ _ h K)
/-! X11_begin -/
def fX11_begin (σ : zS) (p0 : Nat) (p1 : Int32) (p2 : Int32) (p3 : Int32) : Option (Int32 × zS) := (if p1 < (1 : Int32) then some ((-12 : Int32), σ) else (if (16 : Int32) < p1 then some ((-12 : Int32), σ) else (if p2 < (1 : Int32) then some ((-12 : Int32), σ) else (if (16 : Int32) < p2 then some ((-12 : Int32), σ) else (if 0 ≤ p3 then oGR σ 11 p0 4 (fun a1 => oA (zk σ a1 = 6) (oB (fX5_start σ a1 p1 p2) (fun σ1 => oGR σ1 11 p0 4 (fun a2 => oPI σ1 6 a2 6 p3 (fun σ2 => oGR σ2 11 p0 4 (fun a3 => oGR σ2 6 a3 1 (fun a4 => oA (zk σ2 a4 = 4) (oB (fX3_clear σ2 a4) (fun σ3 => oGR σ3 11 p0 3 (fun a5 => oA (zk σ3 a5 = 7) (oB (fX7_forget σ3 a5) (fun σ4 => some (1, σ4))))))))))))) else some ((-12 : Int32), σ))))))
set_option maxRecDepth 100000 in
theorem wX11_begin {Γ : zG} (E : zE Γ cX11_begin RX11 4 { frames := 2, cells := 0, slots := 0, locals := 43 }) (σ : zS) (p0 : Nat) (p1 : Int32) (p2 : Int32) (p3 : Int32) {R : (Int32 × zS)} (h : fX11_begin σ p0 p1 p2 p3 = some R) (K : zRet Γ cX11_begin 4 0 0 (some (.int R.1)) R.2) : zJ Γ 4 0 0 σ 0 [(0, .ref p0), (1, .int p1), (2, .int p2), (3, .int p3)] [] := by
  unfold fX11_begin at h
  refine zj_iload_n E dX11_begin_0 rfl 1 rfl ?_
  refine zj_iconst (v := 1) E dX11_begin_1 (by decide) ?_
  refine zj_icmp_lt (tgt := 26) E dX11_begin_2 (by decide) h (fun h => ?_) (fun h => ?_)
  · refine zj_bipush (v := (-12 : Int32)) E dX11_begin_26 (by decide) ?_
    have e9 := Option.some.inj h
    subst e9
    exact (show zRet Γ cX11_begin 4 0 0 (some (.int (-12 : Int32))) σ from K) _ _ dX11_begin_28
  · refine zj_iload_n E dX11_begin_5 rfl 1 rfl ?_
    refine zj_bipush (v := 16) E dX11_begin_6 (by decide) ?_
    refine zj_icmp_gt (tgt := 26) E dX11_begin_8 (by decide) h (fun h => ?_) (fun h => ?_)
    · refine zj_bipush (v := (-12 : Int32)) E dX11_begin_26 (by decide) ?_
      have e9 := Option.some.inj h
      subst e9
      exact (show zRet Γ cX11_begin 4 0 0 (some (.int (-12 : Int32))) σ from K) _ _ dX11_begin_28
    · refine zj_iload_n E dX11_begin_11 rfl 2 rfl ?_
      refine zj_iconst (v := 1) E dX11_begin_12 (by decide) ?_
      refine zj_icmp_lt (tgt := 26) E dX11_begin_13 (by decide) h (fun h => ?_) (fun h => ?_)
      · refine zj_bipush (v := (-12 : Int32)) E dX11_begin_26 (by decide) ?_
        have e9 := Option.some.inj h
        subst e9
        exact (show zRet Γ cX11_begin 4 0 0 (some (.int (-12 : Int32))) σ from K) _ _ dX11_begin_28
      · refine zj_iload_n E dX11_begin_16 rfl 2 rfl ?_
        refine zj_bipush (v := 16) E dX11_begin_17 (by decide) ?_
        refine zj_icmp_gt (tgt := 26) E dX11_begin_19 (by decide) h (fun h => ?_) (fun h => ?_)
        · refine zj_bipush (v := (-12 : Int32)) E dX11_begin_26 (by decide) ?_
          have e9 := Option.some.inj h
          subst e9
          exact (show zRet Γ cX11_begin 4 0 0 (some (.int (-12 : Int32))) σ from K) _ _ dX11_begin_28
        · refine zj_iload_n E dX11_begin_22 rfl 3 rfl ?_
          refine zj_if_ge (tgt := 29) E dX11_begin_23 (by decide) h (fun h => ?_) (fun h => ?_)
          · refine zj_aload_n E dX11_begin_29 rfl 0 rfl ?_
            refine zs_getR E zc10 4 (by decide) zw_2_11 rfl dX11_begin_30 h (fun a1 h => ?_)
            refine zj_iload_n E dX11_begin_33 rfl 1 rfl ?_
            refine zj_iload_n E dX11_begin_34 rfl 2 rfl ?_
            obtain ⟨hk, h⟩ := oA_some h
            obtain ⟨σ1, hc, h⟩ := oB_some h
            refine zs_callV (As := [.int p1, .int p2]) (rest := []) E zc5 zyX5_start zw_24_7 (kX5_start _ _ _ _ _ hc) rfl rfl hk rfl ⟨by decide, by decide⟩ ⟨by decide, by decide⟩ (Nat.le_of_ble_eq_true rfl) dX11_begin_35 rfl (show zJ Γ 4 0 0 σ1 38 [(0, .ref p0), (1, .int p1), (2, .int p2), (3, .int p3)] [] from ?_)
            refine zj_aload_n E dX11_begin_38 rfl 0 rfl ?_
            refine zs_getR E zc10 4 (by decide) zw_2_11 rfl dX11_begin_39 h (fun a2 h => ?_)
            refine zj_iload_n E dX11_begin_42 rfl 3 rfl ?_
            refine zs_putIN E zc5 6 (by decide) (znf_54) rfl rfl dX11_begin_43 h (fun σ2 h => ?_)
            refine zj_aload_n E dX11_begin_46 rfl 0 rfl ?_
            refine zs_getR E zc10 4 (by decide) zw_2_11 rfl dX11_begin_47 h (fun a3 h => ?_)
            refine zs_getRN E zc5 1 (by decide) (znf_44) rfl dX11_begin_50 h (fun a4 h => ?_)
            obtain ⟨hk, h⟩ := oA_some h
            obtain ⟨σ3, hc, h⟩ := oB_some h
            refine zs_callV (As := []) (rest := []) E zc3 zyX3_clear zw_24_8 (kX3_clear _ _ _ _ _ hc) rfl rfl hk rfl ⟨by decide, by decide⟩ ⟨by decide, by decide⟩ (Nat.le_of_ble_eq_true rfl) dX11_begin_53 rfl (show zJ Γ 4 0 0 σ3 56 [(0, .ref p0), (1, .int p1), (2, .int p2), (3, .int p3)] [] from ?_)
            refine zj_aload_n E dX11_begin_56 rfl 0 rfl ?_
            refine zs_getR E zc10 3 (by decide) zw_2_7 rfl dX11_begin_57 h (fun a5 h => ?_)
            obtain ⟨hk, h⟩ := oA_some h
            obtain ⟨σ4, hc, h⟩ := oB_some h
            refine zs_callV (As := []) (rest := []) E zc6 zyX7_forget zw_17_7 (kX7_forget _ _ _ _ _ hc) rfl rfl hk rfl ⟨by decide, by decide⟩ ⟨by decide, by decide⟩ (Nat.le_of_ble_eq_true rfl) dX11_begin_60 rfl (show zJ Γ 4 0 0 σ4 63 [(0, .ref p0), (1, .int p1), (2, .int p2), (3, .int p3)] [] from ?_)
            refine zj_iconst (v := 1) E dX11_begin_63 (by decide) ?_
            have e9 := Option.some.inj h
            subst e9
            exact (show zRet Γ cX11_begin 4 0 0 (some (.int 1)) σ4 from K) _ _ dX11_begin_64
          · refine zj_bipush (v := (-12 : Int32)) E dX11_begin_26 (by decide) ?_
            have e9 := Option.some.inj h
            subst e9
            exact (show zRet Γ cX11_begin 4 0 0 (some (.int (-12 : Int32))) σ from K) _ _ dX11_begin_28
set_option maxRecDepth 100000 in
theorem kX11_begin (l : Launch) (D : va_G) (cs : zCs) (z0 : Nat) (σ : zS) {p0 : Nat} {p1 : Int32} {p2 : Int32} {p3 : Int32} {r : Int32} {σ' : zS} (h : fX11_begin σ p0 p1 p2 p3 = some (r, σ')) : zM l D cs z0 yX11_begin cX11_begin 4 (some .int) { frames := 2, cells := 0, slots := 0, locals := 43 } [.ref p0, .int p1, .int p2, .int p3] σ (some (.int r)) σ' 0 0 := by
  exact zM_of (by decide) rfl (Or.inl rfl) (Nat.le_of_ble_eq_true rfl) rfl (fun Γ e1 e2 e3 e4 E _ K => wX11_begin E σ _ _ _ _ h K)
/-! X11_frame -/
def fX11_frame (σ : zS) (p0 : Nat) (p1 : Int32) (p2 : Int32) (p3 : Int32) (p4 : Int32) (p5 : Int32) (p6 : Int32) : Option (Int32 × zS) := oGR σ 11 p0 4 (fun a1 => oGI σ 6 a1 2 (fun x1 => (if x1 = 0 then some ((-13 : Int32), σ) else oGR σ 11 p0 4 (fun a2 => oA (zk σ a2 = 6) (oB (fX5_allows σ a2 p1 p2 p3 p4 p5 p6) (fun x2 => (if x2 = 0 then some ((-12 : Int32), σ) else oGR σ 11 p0 4 (fun a3 => oGI σ 6 a3 7 (fun x3 => (if x3 < (8 : Int32) then oGR σ 11 p0 4 (fun a4 => oA (zk σ a4 = 6) (oB (fX5_add σ a4 p1 p2 p3 p4 p5 p6) (fun σ1 => oGR σ1 11 p0 4 (fun a5 => oGR σ1 6 a5 0 (fun a6 => oGR σ1 11 p0 4 (fun a7 => oGI σ1 6 a7 7 (fun x4 => oLr σ1 a6 (x4 - (1 : Int32)) (fun a8 => oA (zk σ1 a8 = 4) (oB (fX3_clear σ1 a8) (fun σ2 => oGR σ2 11 p0 3 (fun a9 => oA (zk σ2 a9 = 7) (oB (fX7_forget σ2 a9) (fun σ3 => oGR σ3 11 p0 4 (fun a10 => oGI σ3 6 a10 7 (fun x5 => some (x5, σ3)))))))))))))))) else some ((-14 : Int32), σ)))))))))))
set_option maxRecDepth 100000 in
theorem wX11_frame {Γ : zG} (E : zE Γ cX11_frame RX11 7 { frames := 2, cells := 0, slots := 0, locals := 43 }) (σ : zS) (p0 : Nat) (p1 : Int32) (p2 : Int32) (p3 : Int32) (p4 : Int32) (p5 : Int32) (p6 : Int32) {R : (Int32 × zS)} (h : fX11_frame σ p0 p1 p2 p3 p4 p5 p6 = some R) (K : zRet Γ cX11_frame 7 0 0 (some (.int R.1)) R.2) : zJ Γ 7 0 0 σ 0 [(0, .ref p0), (1, .int p1), (2, .int p2), (3, .int p3), (4, .int p4), (5, .int p5), (6, .int p6)] [] := by
  unfold fX11_frame at h
  refine zj_aload_n E dX11_frame_0 rfl 0 rfl ?_
  refine zs_getR E zc10 4 (by decide) zw_2_11 rfl dX11_frame_1 h (fun a1 h => ?_)
  refine zs_getIN E zc5 2 (by decide) (znf_45) rfl dX11_frame_4 h (fun x1 h => ?_)
  refine zj_if_ne (tgt := 13) E dX11_frame_7 (by decide) h (fun h => ?_) (fun h => ?_)
  · refine zj_aload_n E dX11_frame_13 rfl 0 rfl ?_
    refine zs_getR E zc10 4 (by decide) zw_2_11 rfl dX11_frame_14 h (fun a2 h => ?_)
    refine zj_iload_n E dX11_frame_17 rfl 1 rfl ?_
    refine zj_iload_n E dX11_frame_18 rfl 2 rfl ?_
    refine zj_iload_n E dX11_frame_19 rfl 3 rfl ?_
    refine zj_iload E dX11_frame_20 4 rfl ?_
    refine zj_iload E dX11_frame_22 5 rfl ?_
    refine zj_iload E dX11_frame_24 6 rfl ?_
    obtain ⟨hk, h⟩ := oA_some h
    obtain ⟨x2, hc, h⟩ := oB_some h
    refine zs_callV (As := [.int p1, .int p2, .int p3, .int p4, .int p5, .int p6]) (rest := []) E zc5 zyX5_allows zw_25_1 (kX5_allows _ _ _ _ _ hc) rfl rfl hk rfl ⟨by decide, by decide⟩ ⟨by decide, by decide⟩ (Nat.le_of_ble_eq_true rfl) dX11_frame_26 rfl (show zJ Γ 7 0 0 σ 29 [(0, .ref p0), (1, .int p1), (2, .int p2), (3, .int p3), (4, .int p4), (5, .int p5), (6, .int p6)] [.int x2] from ?_)
    refine zj_if_ne (tgt := 35) E dX11_frame_29 (by decide) h (fun h => ?_) (fun h => ?_)
    · refine zj_aload_n E dX11_frame_35 rfl 0 rfl ?_
      refine zs_getR E zc10 4 (by decide) zw_2_11 rfl dX11_frame_36 h (fun a3 h => ?_)
      refine zs_getIN E zc5 7 (by decide) (znf_57) rfl dX11_frame_39 h (fun x3 h => ?_)
      refine zj_bipush (v := 8) E dX11_frame_42 (by decide) ?_
      refine zj_icmp_lt (tgt := 50) E dX11_frame_44 (by decide) h (fun h => ?_) (fun h => ?_)
      · refine zj_aload_n E dX11_frame_50 rfl 0 rfl ?_
        refine zs_getR E zc10 4 (by decide) zw_2_11 rfl dX11_frame_51 h (fun a4 h => ?_)
        refine zj_iload_n E dX11_frame_54 rfl 1 rfl ?_
        refine zj_iload_n E dX11_frame_55 rfl 2 rfl ?_
        refine zj_iload_n E dX11_frame_56 rfl 3 rfl ?_
        refine zj_iload E dX11_frame_57 4 rfl ?_
        refine zj_iload E dX11_frame_59 5 rfl ?_
        refine zj_iload E dX11_frame_61 6 rfl ?_
        obtain ⟨hk, h⟩ := oA_some h
        obtain ⟨σ1, hc, h⟩ := oB_some h
        refine zs_callV (As := [.int p1, .int p2, .int p3, .int p4, .int p5, .int p6]) (rest := []) E zc5 zyX5_add zw_25_2 (kX5_add _ _ _ _ _ hc) rfl rfl hk rfl ⟨by decide, by decide⟩ ⟨by decide, by decide⟩ (Nat.le_of_ble_eq_true rfl) dX11_frame_63 rfl (show zJ Γ 7 0 0 σ1 66 [(0, .ref p0), (1, .int p1), (2, .int p2), (3, .int p3), (4, .int p4), (5, .int p5), (6, .int p6)] [] from ?_)
        refine zj_aload_n E dX11_frame_66 rfl 0 rfl ?_
        refine zs_getR E zc10 4 (by decide) zw_2_11 rfl dX11_frame_67 h (fun a5 h => ?_)
        refine zs_getRN E zc5 0 (by decide) (znf_41) rfl dX11_frame_70 h (fun a6 h => ?_)
        refine zj_aload_n E dX11_frame_73 rfl 0 rfl ?_
        refine zs_getR E zc10 4 (by decide) zw_2_11 rfl dX11_frame_74 h (fun a7 h => ?_)
        refine zs_getIN E zc5 7 (by decide) (znf_57) rfl dX11_frame_77 h (fun x4 h => ?_)
        refine zj_iconst (v := 1) E dX11_frame_80 (by decide) ?_
        refine zj_isub E dX11_frame_81 ?_
        refine zs_aald E dX11_frame_82 h (fun a8 h => ?_)
        obtain ⟨hk, h⟩ := oA_some h
        obtain ⟨σ2, hc, h⟩ := oB_some h
        refine zs_callV (As := []) (rest := []) E zc3 zyX3_clear zw_24_8 (kX3_clear _ _ _ _ _ hc) rfl rfl hk rfl ⟨by decide, by decide⟩ ⟨by decide, by decide⟩ (Nat.le_of_ble_eq_true rfl) dX11_frame_83 rfl (show zJ Γ 7 0 0 σ2 86 [(0, .ref p0), (1, .int p1), (2, .int p2), (3, .int p3), (4, .int p4), (5, .int p5), (6, .int p6)] [] from ?_)
        refine zj_aload_n E dX11_frame_86 rfl 0 rfl ?_
        refine zs_getR E zc10 3 (by decide) zw_2_7 rfl dX11_frame_87 h (fun a9 h => ?_)
        obtain ⟨hk, h⟩ := oA_some h
        obtain ⟨σ3, hc, h⟩ := oB_some h
        refine zs_callV (As := []) (rest := []) E zc6 zyX7_forget zw_17_7 (kX7_forget _ _ _ _ _ hc) rfl rfl hk rfl ⟨by decide, by decide⟩ ⟨by decide, by decide⟩ (Nat.le_of_ble_eq_true rfl) dX11_frame_90 rfl (show zJ Γ 7 0 0 σ3 93 [(0, .ref p0), (1, .int p1), (2, .int p2), (3, .int p3), (4, .int p4), (5, .int p5), (6, .int p6)] [] from ?_)
        refine zj_aload_n E dX11_frame_93 rfl 0 rfl ?_
        refine zs_getR E zc10 4 (by decide) zw_2_11 rfl dX11_frame_94 h (fun a10 h => ?_)
        refine zs_getIN E zc5 7 (by decide) (znf_57) rfl dX11_frame_97 h (fun x5 h => ?_)
        have e9 := Option.some.inj h
        subst e9
        exact (show zRet Γ cX11_frame 7 0 0 (some (.int x5)) σ3 from K) _ _ dX11_frame_100
      · refine zj_bipush (v := (-14 : Int32)) E dX11_frame_47 (by decide) ?_
        have e9 := Option.some.inj h
        subst e9
        exact (show zRet Γ cX11_frame 7 0 0 (some (.int (-14 : Int32))) σ from K) _ _ dX11_frame_49
    · refine zj_bipush (v := (-12 : Int32)) E dX11_frame_32 (by decide) ?_
      have e9 := Option.some.inj h
      subst e9
      exact (show zRet Γ cX11_frame 7 0 0 (some (.int (-12 : Int32))) σ from K) _ _ dX11_frame_34
  · refine zj_bipush (v := (-13 : Int32)) E dX11_frame_10 (by decide) ?_
    have e9 := Option.some.inj h
    subst e9
    exact (show zRet Γ cX11_frame 7 0 0 (some (.int (-13 : Int32))) σ from K) _ _ dX11_frame_12
set_option maxRecDepth 100000 in
theorem kX11_frame (l : Launch) (D : va_G) (cs : zCs) (z0 : Nat) (σ : zS) {p0 : Nat} {p1 : Int32} {p2 : Int32} {p3 : Int32} {p4 : Int32} {p5 : Int32} {p6 : Int32} {r : Int32} {σ' : zS} (h : fX11_frame σ p0 p1 p2 p3 p4 p5 p6 = some (r, σ')) : zM l D cs z0 yX11_frame cX11_frame 7 (some .int) { frames := 2, cells := 0, slots := 0, locals := 43 } [.ref p0, .int p1, .int p2, .int p3, .int p4, .int p5, .int p6] σ (some (.int r)) σ' 0 0 := by
  exact zM_of (by decide) rfl (Or.inl rfl) (Nat.le_of_ble_eq_true rfl) rfl (fun Γ e1 e2 e3 e4 E _ K => wX11_frame E σ _ _ _ _ _ _ _ h K)
/-! X11_paintable -/
def fX11_paintable_56 (σ : zS) : Option (Option Nat) := some none
set_option maxRecDepth 100000 in
theorem wX11_paintable_56 {Γ : zG} (E : zE Γ cX11_paintable RX11 2 { frames := 1, cells := 0, slots := 0, locals := 21 }) (σ : zS) {R : Option Nat} (h : fX11_paintable_56 σ = some R) (K : zRet Γ cX11_paintable 2 0 0 (some (va_rf R)) σ) : zJ Γ 2 0 0 σ 56 [] [] := by
  unfold fX11_paintable_56 at h
  refine zj_null E dX11_paintable_56 ?_
  have e9 := Option.some.inj h
  subst e9
  exact (show zRet Γ cX11_paintable 2 0 0 (some (va_rf none)) σ from K) _ _ (zretq _ dX11_paintable_57)
def fX11_paintable (σ : zS) (p0 : Nat) (p1 : Int32) : Option (Option Nat) := oGR σ 11 p0 4 (fun a1 => oA (zk σ a1 = 6) (oB (fX5_hasFrame σ a1 p1) (fun x1 => (if x1 = 0 then (if p1 = (-1 : Int32) then oGR σ 11 p0 4 (fun a2 => oGI σ 6 a2 2 (fun x2 => (if x2 = 0 then fX11_paintable_56 σ else oGR σ 11 p0 4 (fun a3 => oGI σ 6 a3 3 (fun x3 => (if x3 = 0 then oGR σ 11 p0 4 (fun a4 => oGR σ 6 a4 1 (fun a5 => some (some a5))) else fX11_paintable_56 σ)))))) else fX11_paintable_56 σ) else oGR σ 11 p0 4 (fun a6 => oGR σ 6 a6 0 (fun a7 => oLr σ a7 p1 (fun a8 => some (some a8))))))))
set_option maxRecDepth 100000 in
theorem wX11_paintable {Γ : zG} (E : zE Γ cX11_paintable RX11 2 { frames := 1, cells := 0, slots := 0, locals := 21 }) (σ : zS) (p0 : Nat) (p1 : Int32) {R : Option Nat} (h : fX11_paintable σ p0 p1 = some R) (K : zRet Γ cX11_paintable 2 0 0 (some (va_rf R)) σ) : zJ Γ 2 0 0 σ 0 [(0, .ref p0), (1, .int p1)] [] := by
  unfold fX11_paintable at h
  refine zj_aload_n E dX11_paintable_0 rfl 0 rfl ?_
  refine zs_getR E zc10 4 (by decide) zw_2_11 rfl dX11_paintable_1 h (fun a1 h => ?_)
  refine zj_iload_n E dX11_paintable_4 rfl 1 rfl ?_
  obtain ⟨hk, h⟩ := oA_some h
  obtain ⟨x1, hc, h⟩ := oB_some h
  refine zs_callV (As := [.int p1]) (rest := []) E zc5 zyX5_hasFrame zw_25_15 (kX5_hasFrame _ _ _ _ _ hc) rfl rfl hk rfl ⟨by decide, by decide⟩ ⟨by decide, by decide⟩ (Nat.le_of_ble_eq_true rfl) dX11_paintable_5 rfl (show zJ Γ 2 0 0 σ 8 [(0, .ref p0), (1, .int p1)] [.int x1] from ?_)
  refine zj_if_eq (tgt := 21) E dX11_paintable_8 (by decide) h (fun h => ?_) (fun h => ?_)
  · refine zj_iload_n E dX11_paintable_21 rfl 1 rfl ?_
    refine zj_iconst (v := (-1 : Int32)) E dX11_paintable_22 (by decide) ?_
    refine zj_icmp_ne (tgt := 56) E dX11_paintable_23 (by decide) h (fun h => ?_) (fun h => ?_)
    · refine zj_lv [] rfl ?_
      exact wX11_paintable_56 E _ h K
    · refine zj_aload_n E dX11_paintable_26 rfl 0 rfl ?_
      refine zs_getR E zc10 4 (by decide) zw_2_11 rfl dX11_paintable_27 h (fun a2 h => ?_)
      refine zs_getIN E zc5 2 (by decide) (znf_45) rfl dX11_paintable_30 h (fun x2 h => ?_)
      refine zj_if_eq (tgt := 56) E dX11_paintable_33 (by decide) h (fun h => ?_) (fun h => ?_)
      · refine zj_lv [] rfl ?_
        exact wX11_paintable_56 E _ h K
      · refine zj_aload_n E dX11_paintable_36 rfl 0 rfl ?_
        refine zs_getR E zc10 4 (by decide) zw_2_11 rfl dX11_paintable_37 h (fun a3 h => ?_)
        refine zs_getIN E zc5 3 (by decide) (znf_47) rfl dX11_paintable_40 h (fun x3 h => ?_)
        refine zj_if_ne (tgt := 56) E dX11_paintable_43 (by decide) h (fun h => ?_) (fun h => ?_)
        · refine zj_lv [] rfl ?_
          exact wX11_paintable_56 E _ h K
        · refine zj_aload_n E dX11_paintable_46 rfl 0 rfl ?_
          refine zs_getR E zc10 4 (by decide) zw_2_11 rfl dX11_paintable_47 h (fun a4 h => ?_)
          refine zs_getRN E zc5 1 (by decide) (znf_44) rfl dX11_paintable_50 h (fun a5 h => ?_)
          refine zj_goto (tgt := 57) E dX11_paintable_53 (by decide) ?_
          have e9 := Option.some.inj h
          subst e9
          exact (show zRet Γ cX11_paintable 2 0 0 (some (va_rf (some a5))) σ from K) _ _ (zretq _ dX11_paintable_57)
  · refine zj_aload_n E dX11_paintable_11 rfl 0 rfl ?_
    refine zs_getR E zc10 4 (by decide) zw_2_11 rfl dX11_paintable_12 h (fun a6 h => ?_)
    refine zs_getRN E zc5 0 (by decide) (znf_41) rfl dX11_paintable_15 h (fun a7 h => ?_)
    refine zj_iload_n E dX11_paintable_18 rfl 1 rfl ?_
    refine zs_aald E dX11_paintable_19 h (fun a8 h => ?_)
    have e9 := Option.some.inj h
    subst e9
    exact (show zRet Γ cX11_paintable 2 0 0 (some (va_rf (some a8))) σ from K) _ _ (zretq _ dX11_paintable_20)
set_option maxRecDepth 100000 in
theorem kX11_paintable (l : Launch) (D : va_G) (cs : zCs) (z0 : Nat) (σ : zS) {p0 : Nat} {p1 : Int32} {r : Option Nat} (h : fX11_paintable σ p0 p1 = some r) : zM l D cs z0 yX11_paintable cX11_paintable 2 (some (.object "FrameReel$Picture")) { frames := 1, cells := 0, slots := 0, locals := 21 } [.ref p0, .int p1] σ (some (va_rf r)) σ 0 0 := by
  exact zM_of (by decide) rfl (zvtq _ _) (Nat.le_of_ble_eq_true rfl) rfl (fun Γ e1 e2 e3 e4 E _ K => wX11_paintable E σ _ _ h K)
/-! X11_paint -/
def fX11_paint (σ : zS) (p0 : Nat) (p1 : Int32) (p2 : Int32) (p3 : Int32) (p4 : Int32) : Option (Int32 × zS) := oA (zk σ p0 = 11) (oB (fX11_paintable σ p0 p1) (fun a1 => (oN a1 (some ((-11 : Int32), σ)) (fun a2 => (if p2 < 0 then some ((-12 : Int32), σ) else oGI σ 4 a2 1 (fun x1 => (if x1 ≤ p2 then some ((-12 : Int32), σ) else (if p3 < 0 then some ((-12 : Int32), σ) else oGI σ 4 a2 2 (fun x2 => (if p3 < x2 then oGR σ 4 a2 0 (fun a3 => oGI σ 4 a2 1 (fun x3 => oSt σ 21 a3 ((p3 * x3) + p2) p4 (fun σ1 => oGR σ1 11 p0 3 (fun a4 => oA (zk σ1 a4 = 7) (oB (fX7_forget σ1 a4) (fun σ2 => some (1, σ2))))))) else some ((-12 : Int32), σ)))))))))))
set_option maxRecDepth 100000 in
theorem wX11_paint {Γ : zG} (E : zE Γ cX11_paint RX11 6 { frames := 2, cells := 0, slots := 0, locals := 42 }) (σ : zS) (p0 : Nat) (p1 : Int32) (p2 : Int32) (p3 : Int32) (p4 : Int32) {R : (Int32 × zS)} (h : fX11_paint σ p0 p1 p2 p3 p4 = some R) (K : zRet Γ cX11_paint 6 0 0 (some (.int R.1)) R.2) : zJ Γ 6 0 0 σ 0 [(0, .ref p0), (1, .int p1), (2, .int p2), (3, .int p3), (4, .int p4)] [] := by
  unfold fX11_paint at h
  refine zj_aload_n E dX11_paint_0 rfl 0 rfl ?_
  refine zj_iload_n E dX11_paint_1 rfl 1 rfl ?_
  obtain ⟨hk, h⟩ := oA_some h
  obtain ⟨a1, hc, h⟩ := oB_some h
  refine zs_callV (As := [.int p1]) (rest := []) E zc10 zyX11_paintable zw_25_11 (kX11_paintable _ _ _ _ _ hc) rfl rfl hk rfl ⟨by decide, by decide⟩ ⟨by decide, by decide⟩ (Nat.le_of_ble_eq_true rfl) dX11_paint_2 rfl (show zJ Γ 6 0 0 σ 5 [(0, .ref p0), (1, .int p1), (2, .int p2), (3, .int p3), (4, .int p4)] [va_rf a1] from ?_)
  refine zj_astoreQ (lv2 := [(5, va_rf a1), (0, .ref p0), (1, .int p1), (2, .int p2), (3, .int p3), (4, .int p4)]) E dX11_paint_5 (by decide) rfl ?_
  refine zj_aloadQ E dX11_paint_7 0 rfl ?_
  refine zs_nonnull (tgt := 15) E dX11_paint_9 (by decide) h (fun e h => ?_) (fun a2 e h => ?_)
  · subst e
    refine zj_bipush (v := (-11 : Int32)) E dX11_paint_12 (by decide) ?_
    have e9 := Option.some.inj h
    subst e9
    exact (show zRet Γ cX11_paint 6 0 0 (some (.int (-11 : Int32))) σ from K) _ _ dX11_paint_14
  · subst e
    refine zj_iload_n E dX11_paint_15 rfl 3 rfl ?_
    refine zj_if_lt (tgt := 41) E dX11_paint_16 (by decide) h (fun h => ?_) (fun h => ?_)
    · refine zj_bipush (v := (-12 : Int32)) E dX11_paint_41 (by decide) ?_
      have e9 := Option.some.inj h
      subst e9
      exact (show zRet Γ cX11_paint 6 0 0 (some (.int (-12 : Int32))) σ from K) _ _ dX11_paint_43
    · refine zj_iload_n E dX11_paint_19 rfl 3 rfl ?_
      refine zj_aload E dX11_paint_20 0 rfl ?_
      refine zs_getIN E zc3 1 (by decide) (znf_21) rfl dX11_paint_22 h (fun x1 h => ?_)
      refine zj_icmp_ge (tgt := 41) E dX11_paint_25 (by decide) h (fun h => ?_) (fun h => ?_)
      · refine zj_bipush (v := (-12 : Int32)) E dX11_paint_41 (by decide) ?_
        have e9 := Option.some.inj h
        subst e9
        exact (show zRet Γ cX11_paint 6 0 0 (some (.int (-12 : Int32))) σ from K) _ _ dX11_paint_43
      · refine zj_iload_n E dX11_paint_28 rfl 4 rfl ?_
        refine zj_if_lt (tgt := 41) E dX11_paint_29 (by decide) h (fun h => ?_) (fun h => ?_)
        · refine zj_bipush (v := (-12 : Int32)) E dX11_paint_41 (by decide) ?_
          have e9 := Option.some.inj h
          subst e9
          exact (show zRet Γ cX11_paint 6 0 0 (some (.int (-12 : Int32))) σ from K) _ _ dX11_paint_43
        · refine zj_iload_n E dX11_paint_32 rfl 4 rfl ?_
          refine zj_aload E dX11_paint_33 0 rfl ?_
          refine zs_getIN E zc3 2 (by decide) (znf_26) rfl dX11_paint_35 h (fun x2 h => ?_)
          refine zj_icmp_lt (tgt := 44) E dX11_paint_38 (by decide) h (fun h => ?_) (fun h => ?_)
          · refine zj_aload E dX11_paint_44 0 rfl ?_
            refine zs_getRN E zc3 0 (by decide) (znf_15) rfl dX11_paint_46 h (fun a3 h => ?_)
            refine zj_iload_n E dX11_paint_49 rfl 4 rfl ?_
            refine zj_aload E dX11_paint_50 0 rfl ?_
            refine zs_getIN E zc3 1 (by decide) (znf_21) rfl dX11_paint_52 h (fun x3 h => ?_)
            refine zj_imul E dX11_paint_55 ?_
            refine zj_iload_n E dX11_paint_56 rfl 3 rfl ?_
            refine zj_iadd E dX11_paint_57 ?_
            refine zj_iload E dX11_paint_58 5 rfl ?_
            refine zs_iast E dX11_paint_60 h (fun σ1 h => ?_)
            refine zj_aload_n E dX11_paint_61 rfl 1 rfl ?_
            refine zs_getR E zc10 3 (by decide) zw_2_7 rfl dX11_paint_62 h (fun a4 h => ?_)
            obtain ⟨hk, h⟩ := oA_some h
            obtain ⟨σ2, hc, h⟩ := oB_some h
            refine zs_callV (As := []) (rest := []) E zc6 zyX7_forget zw_17_7 (kX7_forget _ _ _ _ _ hc) rfl rfl hk rfl ⟨by decide, by decide⟩ ⟨by decide, by decide⟩ (Nat.le_of_ble_eq_true rfl) dX11_paint_65 rfl (show zJ Γ 6 0 0 σ2 68 [(5, .ref a2), (0, .ref p0), (1, .int p1), (2, .int p2), (3, .int p3), (4, .int p4)] [] from ?_)
            refine zj_iconst (v := 1) E dX11_paint_68 (by decide) ?_
            have e9 := Option.some.inj h
            subst e9
            exact (show zRet Γ cX11_paint 6 0 0 (some (.int 1)) σ2 from K) _ _ dX11_paint_69
          · refine zj_bipush (v := (-12 : Int32)) E dX11_paint_41 (by decide) ?_
            have e9 := Option.some.inj h
            subst e9
            exact (show zRet Γ cX11_paint 6 0 0 (some (.int (-12 : Int32))) σ from K) _ _ dX11_paint_43
set_option maxRecDepth 100000 in
theorem kX11_paint (l : Launch) (D : va_G) (cs : zCs) (z0 : Nat) (σ : zS) {p0 : Nat} {p1 : Int32} {p2 : Int32} {p3 : Int32} {p4 : Int32} {r : Int32} {σ' : zS} (h : fX11_paint σ p0 p1 p2 p3 p4 = some (r, σ')) : zM l D cs z0 yX11_paint cX11_paint 6 (some .int) { frames := 2, cells := 0, slots := 0, locals := 42 } [.ref p0, .int p1, .int p2, .int p3, .int p4] σ (some (.int r)) σ' 0 0 := by
  exact zM_of (by decide) rfl (Or.inl rfl) (Nat.le_of_ble_eq_true rfl) rfl (fun Γ e1 e2 e3 e4 E _ K => wX11_paint E σ _ _ _ _ _ h K)
/-! X11_first -/
def fX11_first_27 (σ : zS) (l0 : Nat) (l1 : Int32) : Option (Int32 × zS) := oGR σ 11 l0 4 (fun a2 => oGI σ 6 a2 3 (fun x2 => (if x2 = l1 then some (0, σ) else oGR σ 11 l0 4 (fun a3 => oPZ σ 6 a3 3 l1 (fun σ1 => oGR σ1 11 l0 4 (fun a4 => oGR σ1 6 a4 1 (fun a5 => oA (zk σ1 a5 = 4) (oB (fX3_clear σ1 a5) (fun σ2 => oGR σ2 11 l0 3 (fun a6 => oA (zk σ2 a6 = 7) (oB (fX7_forget σ2 a6) (fun σ3 => some (1, σ3)))))))))))))
set_option maxRecDepth 100000 in
theorem wX11_first_27 {Γ : zG} (E : zE Γ cX11_first RX11 2 { frames := 2, cells := 0, slots := 0, locals := 43 }) (σ : zS) (l0 : Nat) (l1 : Int32) {R : (Int32 × zS)} (h : fX11_first_27 σ l0 l1 = some R) (K : zRet Γ cX11_first 2 0 0 (some (.int R.1)) R.2) : zJ Γ 2 0 0 σ 27 [(0, .ref l0), (1, .int l1)] [] := by
  unfold fX11_first_27 at h
  refine zj_aload_n E dX11_first_27 rfl 0 rfl ?_
  refine zs_getR E zc10 4 (by decide) zw_2_11 rfl dX11_first_28 h (fun a2 h => ?_)
  refine zs_getIN E zc5 3 (by decide) (znf_47) rfl dX11_first_31 h (fun x2 h => ?_)
  refine zj_iload_n E dX11_first_34 rfl 1 rfl ?_
  refine zj_icmp_ne (tgt := 40) E dX11_first_35 (by decide) h (fun h => ?_) (fun h => ?_)
  · refine zj_aload_n E dX11_first_40 rfl 0 rfl ?_
    refine zs_getR E zc10 4 (by decide) zw_2_11 rfl dX11_first_41 h (fun a3 h => ?_)
    refine zj_iload_n E dX11_first_44 rfl 1 rfl ?_
    refine zs_putZN E zc5 3 (by decide) (znf_47) rfl rfl dX11_first_45 h (fun σ1 h => ?_)
    refine zj_aload_n E dX11_first_48 rfl 0 rfl ?_
    refine zs_getR E zc10 4 (by decide) zw_2_11 rfl dX11_first_49 h (fun a4 h => ?_)
    refine zs_getRN E zc5 1 (by decide) (znf_44) rfl dX11_first_52 h (fun a5 h => ?_)
    obtain ⟨hk, h⟩ := oA_some h
    obtain ⟨σ2, hc, h⟩ := oB_some h
    refine zs_callV (As := []) (rest := []) E zc3 zyX3_clear zw_24_8 (kX3_clear _ _ _ _ _ hc) rfl rfl hk rfl ⟨by decide, by decide⟩ ⟨by decide, by decide⟩ (Nat.le_of_ble_eq_true rfl) dX11_first_55 rfl (show zJ Γ 2 0 0 σ2 58 [(0, .ref l0), (1, .int l1)] [] from ?_)
    refine zj_aload_n E dX11_first_58 rfl 0 rfl ?_
    refine zs_getR E zc10 3 (by decide) zw_2_7 rfl dX11_first_59 h (fun a6 h => ?_)
    obtain ⟨hk, h⟩ := oA_some h
    obtain ⟨σ3, hc, h⟩ := oB_some h
    refine zs_callV (As := []) (rest := []) E zc6 zyX7_forget zw_17_7 (kX7_forget _ _ _ _ _ hc) rfl rfl hk rfl ⟨by decide, by decide⟩ ⟨by decide, by decide⟩ (Nat.le_of_ble_eq_true rfl) dX11_first_62 rfl (show zJ Γ 2 0 0 σ3 65 [(0, .ref l0), (1, .int l1)] [] from ?_)
    refine zj_iconst (v := 1) E dX11_first_65 (by decide) ?_
    have e9 := Option.some.inj h
    subst e9
    exact (show zRet Γ cX11_first 2 0 0 (some (.int 1)) σ3 from K) _ _ dX11_first_66
  · refine zj_iconst (v := 0) E dX11_first_38 (by decide) ?_
    have e9 := Option.some.inj h
    subst e9
    exact (show zRet Γ cX11_first 2 0 0 (some (.int 0)) σ from K) _ _ dX11_first_39
def fX11_first (σ : zS) (p0 : Nat) (p1 : Int32) : Option (Int32 × zS) := oGR σ 11 p0 4 (fun a1 => oGI σ 6 a1 2 (fun x1 => (if x1 = 0 then some ((-13 : Int32), σ) else (if p1 = 0 then fX11_first_27 σ p0 p1 else oGR σ 11 p0 4 (fun a7 => oA (zk σ a7 = 6) (oB (fX5_firstIsCanvas σ a7) (fun x3 => (if x3 = 0 then some ((-13 : Int32), σ) else fX11_first_27 σ p0 p1))))))))
set_option maxRecDepth 100000 in
theorem wX11_first {Γ : zG} (E : zE Γ cX11_first RX11 2 { frames := 2, cells := 0, slots := 0, locals := 43 }) (σ : zS) (p0 : Nat) (p1 : Int32) {R : (Int32 × zS)} (h : fX11_first σ p0 p1 = some R) (K : zRet Γ cX11_first 2 0 0 (some (.int R.1)) R.2) : zJ Γ 2 0 0 σ 0 [(0, .ref p0), (1, .int p1)] [] := by
  unfold fX11_first at h
  refine zj_aload_n E dX11_first_0 rfl 0 rfl ?_
  refine zs_getR E zc10 4 (by decide) zw_2_11 rfl dX11_first_1 h (fun a1 h => ?_)
  refine zs_getIN E zc5 2 (by decide) (znf_45) rfl dX11_first_4 h (fun x1 h => ?_)
  refine zj_if_eq (tgt := 24) E dX11_first_7 (by decide) h (fun h => ?_) (fun h => ?_)
  · refine zj_bipush (v := (-13 : Int32)) E dX11_first_24 (by decide) ?_
    have e9 := Option.some.inj h
    subst e9
    exact (show zRet Γ cX11_first 2 0 0 (some (.int (-13 : Int32))) σ from K) _ _ dX11_first_26
  · refine zj_iload_n E dX11_first_10 rfl 1 rfl ?_
    refine zj_if_eq (tgt := 27) E dX11_first_11 (by decide) h (fun h => ?_) (fun h => ?_)
    · refine zj_lv [0, 1] rfl ?_
      exact wX11_first_27 E _ _ _ h K
    · refine zj_aload_n E dX11_first_14 rfl 0 rfl ?_
      refine zs_getR E zc10 4 (by decide) zw_2_11 rfl dX11_first_15 h (fun a7 h => ?_)
      obtain ⟨hk, h⟩ := oA_some h
      obtain ⟨x3, hc, h⟩ := oB_some h
      refine zs_callV (As := []) (rest := []) E zc5 zyX5_firstIsCanvas zw_26_3 (kX5_firstIsCanvas _ _ _ _ _ hc) rfl rfl hk rfl ⟨by decide, by decide⟩ ⟨by decide, by decide⟩ (Nat.le_of_ble_eq_true rfl) dX11_first_18 rfl (show zJ Γ 2 0 0 σ 21 [(0, .ref p0), (1, .int p1)] [.int x3] from ?_)
      refine zj_if_ne (tgt := 27) E dX11_first_21 (by decide) h (fun h => ?_) (fun h => ?_)
      · refine zj_lv [0, 1] rfl ?_
        exact wX11_first_27 E _ _ _ h K
      · refine zj_bipush (v := (-13 : Int32)) E dX11_first_24 (by decide) ?_
        have e9 := Option.some.inj h
        subst e9
        exact (show zRet Γ cX11_first 2 0 0 (some (.int (-13 : Int32))) σ from K) _ _ dX11_first_26
set_option maxRecDepth 100000 in
theorem kX11_first (l : Launch) (D : va_G) (cs : zCs) (z0 : Nat) (σ : zS) {p0 : Nat} {p1 : Int32} {r : Int32} {σ' : zS} (h : fX11_first σ p0 p1 = some (r, σ')) : zM l D cs z0 yX11_first cX11_first 2 (some .int) { frames := 2, cells := 0, slots := 0, locals := 43 } [.ref p0, .int p1] σ (some (.int r)) σ' 0 0 := by
  exact zM_of (by decide) rfl (Or.inl rfl) (Nat.le_of_ble_eq_true rfl) rfl (fun Γ e1 e2 e3 e4 E _ K => wX11_first E σ _ _ h K)
