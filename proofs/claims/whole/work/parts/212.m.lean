/-! X12_nearest -/
def fX12_nearest_72 (σ : zS) (l1 : Int32) (l2 : Int32) (l5 : Int32) (l6 : Int32) : Option Int32 := (if l6 < l5 then some l2 else some l1)
set_option maxRecDepth 100000 in
theorem wX12_nearest_72 {Γ : zG} (E : zE Γ cX12_nearest RX12 7 { frames := 0, cells := 0, slots := 0, locals := 0 }) (σ : zS) (l1 : Int32) (l2 : Int32) (l5 : Int32) (l6 : Int32) {R : Int32} (h : fX12_nearest_72 σ l1 l2 l5 l6 = some R) (K : zRet Γ cX12_nearest 7 0 0 (some (.int R)) σ) : zJ Γ 7 0 0 σ 72 [(1, .int l1), (2, .int l2), (5, .int l5), (6, .int l6)] [] := by
  unfold fX12_nearest_72 at h
  refine zj_iload E dX12_nearest_72 2 rfl ?_
  refine zj_iload E dX12_nearest_74 3 rfl ?_
  refine zj_icmp_gt (tgt := 83) E dX12_nearest_76 (by decide) h (fun h => ?_) (fun h => ?_)
  · refine zj_iload_n E dX12_nearest_83 rfl 1 rfl ?_
    have e9 := Option.some.inj h
    subst e9
    exact (show zRet Γ cX12_nearest 7 0 0 (some (.int l2)) σ from K) _ _ dX12_nearest_84
  · refine zj_iload_n E dX12_nearest_79 rfl 0 rfl ?_
    refine zj_goto (tgt := 84) E dX12_nearest_80 (by decide) ?_
    have e9 := Option.some.inj h
    subst e9
    exact (show zRet Γ cX12_nearest 7 0 0 (some (.int l1)) σ from K) _ _ dX12_nearest_84
def fX12_nearest_52 (σ : zS) (l0 : Int32) (l1 : Int32) (l2 : Int32) (l4 : Int32) (l5 : Int32) (s0 : Int32) : Option Int32 := (if l5 < l4 then fX12_nearest_72 σ l1 l2 l5 s0 else (if s0 < l4 then fX12_nearest_72 σ l1 l2 l5 s0 else some l0))
set_option maxRecDepth 100000 in
theorem wX12_nearest_52 {Γ : zG} (E : zE Γ cX12_nearest RX12 7 { frames := 0, cells := 0, slots := 0, locals := 0 }) (σ : zS) (l0 : Int32) (l1 : Int32) (l2 : Int32) (l4 : Int32) (l5 : Int32) (s0 : Int32) {R : Int32} (h : fX12_nearest_52 σ l0 l1 l2 l4 l5 s0 = some R) (K : zRet Γ cX12_nearest 7 0 0 (some (.int R)) σ) : zJ Γ 7 0 0 σ 52 [(0, .int l0), (1, .int l1), (2, .int l2), (4, .int l4), (5, .int l5)] [.int s0] := by
  unfold fX12_nearest_52 at h
  refine zj_istore (lv2 := [(6, .int s0), (0, .int l0), (1, .int l1), (2, .int l2), (4, .int l4), (5, .int l5)]) E dX12_nearest_52 (by decide) rfl ?_
  refine zj_iload E dX12_nearest_54 4 rfl ?_
  refine zj_iload E dX12_nearest_56 5 rfl ?_
  refine zj_icmp_gt (tgt := 72) E dX12_nearest_58 (by decide) h (fun h => ?_) (fun h => ?_)
  · refine zj_lv [2, 3, 5, 0] rfl ?_
    exact wX12_nearest_72 E _ _ _ _ _ h K
  · refine zj_iload E dX12_nearest_61 4 rfl ?_
    refine zj_iload E dX12_nearest_63 0 rfl ?_
    refine zj_icmp_gt (tgt := 72) E dX12_nearest_65 (by decide) h (fun h => ?_) (fun h => ?_)
    · refine zj_lv [2, 3, 5, 0] rfl ?_
      exact wX12_nearest_72 E _ _ _ _ _ h K
    · refine zj_iload_n E dX12_nearest_68 rfl 1 rfl ?_
      refine zj_goto (tgt := 84) E dX12_nearest_69 (by decide) ?_
      have e9 := Option.some.inj h
      subst e9
      exact (show zRet Γ cX12_nearest 7 0 0 (some (.int l0)) σ from K) _ _ dX12_nearest_84
def fX12_nearest_36 (σ : zS) (l0 : Int32) (l1 : Int32) (l2 : Int32) (l3 : Int32) (l4 : Int32) (s0 : Int32) : Option Int32 := (if l2 ≤ l3 then fX12_nearest_52 σ l0 l1 l2 l4 s0 (l3 - l2) else fX12_nearest_52 σ l0 l1 l2 l4 s0 (l2 - l3))
set_option maxRecDepth 100000 in
theorem wX12_nearest_36 {Γ : zG} (E : zE Γ cX12_nearest RX12 7 { frames := 0, cells := 0, slots := 0, locals := 0 }) (σ : zS) (l0 : Int32) (l1 : Int32) (l2 : Int32) (l3 : Int32) (l4 : Int32) (s0 : Int32) {R : Int32} (h : fX12_nearest_36 σ l0 l1 l2 l3 l4 s0 = some R) (K : zRet Γ cX12_nearest 7 0 0 (some (.int R)) σ) : zJ Γ 7 0 0 σ 36 [(0, .int l0), (1, .int l1), (2, .int l2), (3, .int l3), (4, .int l4)] [.int s0] := by
  unfold fX12_nearest_36 at h
  refine zj_istore (lv2 := [(5, .int s0), (0, .int l0), (1, .int l1), (2, .int l2), (3, .int l3), (4, .int l4)]) E dX12_nearest_36 (by decide) rfl ?_
  refine zj_iload_n E dX12_nearest_38 rfl 4 rfl ?_
  refine zj_iload_n E dX12_nearest_39 rfl 3 rfl ?_
  refine zj_icmp_ge (tgt := 49) E dX12_nearest_40 (by decide) h (fun h => ?_) (fun h => ?_)
  · refine zj_iload_n E dX12_nearest_49 rfl 4 rfl ?_
    refine zj_iload_n E dX12_nearest_50 rfl 3 rfl ?_
    refine zj_isub E dX12_nearest_51 ?_
    refine zj_lv [1, 2, 3, 5, 0] rfl ?_
    exact wX12_nearest_52 E _ _ _ _ _ _ _ h K
  · refine zj_iload_n E dX12_nearest_43 rfl 3 rfl ?_
    refine zj_iload_n E dX12_nearest_44 rfl 4 rfl ?_
    refine zj_isub E dX12_nearest_45 ?_
    refine zj_goto (tgt := 52) E dX12_nearest_46 (by decide) ?_
    refine zj_lv [1, 2, 3, 5, 0] rfl ?_
    exact wX12_nearest_52 E _ _ _ _ _ _ _ h K
def fX12_nearest_20 (σ : zS) (l0 : Int32) (l1 : Int32) (l2 : Int32) (l3 : Int32) (s0 : Int32) : Option Int32 := (if l1 ≤ l3 then fX12_nearest_36 σ l0 l1 l2 l3 s0 (l3 - l1) else fX12_nearest_36 σ l0 l1 l2 l3 s0 (l1 - l3))
set_option maxRecDepth 100000 in
theorem wX12_nearest_20 {Γ : zG} (E : zE Γ cX12_nearest RX12 7 { frames := 0, cells := 0, slots := 0, locals := 0 }) (σ : zS) (l0 : Int32) (l1 : Int32) (l2 : Int32) (l3 : Int32) (s0 : Int32) {R : Int32} (h : fX12_nearest_20 σ l0 l1 l2 l3 s0 = some R) (K : zRet Γ cX12_nearest 7 0 0 (some (.int R)) σ) : zJ Γ 7 0 0 σ 20 [(0, .int l0), (1, .int l1), (2, .int l2), (3, .int l3)] [.int s0] := by
  unfold fX12_nearest_20 at h
  refine zj_istore (lv2 := [(4, .int s0), (0, .int l0), (1, .int l1), (2, .int l2), (3, .int l3)]) E dX12_nearest_20 (by decide) rfl ?_
  refine zj_iload_n E dX12_nearest_22 rfl 4 rfl ?_
  refine zj_iload_n E dX12_nearest_23 rfl 2 rfl ?_
  refine zj_icmp_ge (tgt := 33) E dX12_nearest_24 (by decide) h (fun h => ?_) (fun h => ?_)
  · refine zj_iload_n E dX12_nearest_33 rfl 4 rfl ?_
    refine zj_iload_n E dX12_nearest_34 rfl 2 rfl ?_
    refine zj_isub E dX12_nearest_35 ?_
    refine zj_lv [1, 2, 3, 4, 0] rfl ?_
    exact wX12_nearest_36 E _ _ _ _ _ _ _ h K
  · refine zj_iload_n E dX12_nearest_27 rfl 2 rfl ?_
    refine zj_iload_n E dX12_nearest_28 rfl 4 rfl ?_
    refine zj_isub E dX12_nearest_29 ?_
    refine zj_goto (tgt := 36) E dX12_nearest_30 (by decide) ?_
    refine zj_lv [1, 2, 3, 4, 0] rfl ?_
    exact wX12_nearest_36 E _ _ _ _ _ _ _ h K
def fX12_nearest (σ : zS) (p0 : Int32) (p1 : Int32) (p2 : Int32) : Option Int32 := oL ((p0 + p1) - p2) (fun v1 => (if p0 ≤ v1 then fX12_nearest_20 σ p0 p1 p2 v1 (v1 - p0) else fX12_nearest_20 σ p0 p1 p2 v1 (p0 - v1)))
set_option maxRecDepth 100000 in
theorem wX12_nearest {Γ : zG} (E : zE Γ cX12_nearest RX12 7 { frames := 0, cells := 0, slots := 0, locals := 0 }) (σ : zS) (p0 : Int32) (p1 : Int32) (p2 : Int32) {R : Int32} (h : fX12_nearest σ p0 p1 p2 = some R) (K : zRet Γ cX12_nearest 7 0 0 (some (.int R)) σ) : zJ Γ 7 0 0 σ 0 [(0, .int p0), (1, .int p1), (2, .int p2)] [] := by
  unfold fX12_nearest at h
  refine zj_iload_n E dX12_nearest_0 rfl 0 rfl ?_
  refine zj_iload_n E dX12_nearest_1 rfl 1 rfl ?_
  refine zj_iadd E dX12_nearest_2 ?_
  refine zj_iload_n E dX12_nearest_3 rfl 2 rfl ?_
  refine zj_isub E dX12_nearest_4 ?_
  refine zs_istore_n (lv2 := fun v1 => [(3, .int v1), (0, .int p0), (1, .int p1), (2, .int p2)]) E dX12_nearest_5 rfl (by decide) (fun _ => rfl) h (fun v1 h => ?_)
  refine zj_iload_n E dX12_nearest_6 rfl 0 rfl ?_
  refine zj_iload_n E dX12_nearest_7 rfl 1 rfl ?_
  refine zj_icmp_ge (tgt := 17) E dX12_nearest_8 (by decide) h (fun h => ?_) (fun h => ?_)
  · refine zj_iload_n E dX12_nearest_17 rfl 0 rfl ?_
    refine zj_iload_n E dX12_nearest_18 rfl 1 rfl ?_
    refine zj_isub E dX12_nearest_19 ?_
    refine zj_lv [1, 2, 3, 0] rfl ?_
    exact wX12_nearest_20 E _ _ _ _ _ _ h K
  · refine zj_iload_n E dX12_nearest_11 rfl 1 rfl ?_
    refine zj_iload_n E dX12_nearest_12 rfl 0 rfl ?_
    refine zj_isub E dX12_nearest_13 ?_
    refine zj_goto (tgt := 20) E dX12_nearest_14 (by decide) ?_
    refine zj_lv [1, 2, 3, 0] rfl ?_
    exact wX12_nearest_20 E _ _ _ _ _ _ h K
set_option maxRecDepth 100000 in
theorem kX12_nearest (l : Launch) (D : va_G) (cs : zCs) (z0 : Nat) (σ : zS) {p0 : Int32} {p1 : Int32} {p2 : Int32} {r : Int32} (h : fX12_nearest σ p0 p1 p2 = some r) : zM l D cs z0 yX12_nearest cX12_nearest 7 (some .int) { frames := 0, cells := 0, slots := 0, locals := 0 } [.int p0, .int p1, .int p2] σ (some (.int r)) σ 0 0 := by
  exact zM_of (by decide) rfl (Or.inl rfl) (Nat.le_of_ble_eq_true rfl) rfl (fun Γ e1 e2 e3 e4 E hN K => wX12_nearest E σ _ _ _ h K)
/-! X12_unfilter -/
def jX12_unfilter_23 (Γ : zG) (l0 : Nat) (l1 : Int32) (l2 : Int32) (l3 : Int32) (l4 : Int32) : (Int32 × zS) → Prop := fun x => zJ Γ 12 0 0 x.2 23 [(0, .ref l0), (1, .int l1), (2, .int l2), (3, .int l3), (4, .int l4), (5, .int x.1)] []
def eX12_unfilter_23 (Γ : zG) (l0 : Nat) (l1 : Int32) (l2 : Int32) (l3 : Int32) (l4 : Int32) : (zS ⊕ (Int32 × zS)) → Prop := Sum.elim (fun b => zJ Γ 12 0 0 b 262 [(0, .ref l0), (1, .int l1), (2, .int l2), (3, .int l3), (4, .int l4)] []) (fun r => zRet Γ cX12_unfilter 12 0 0 (some (.int r.1)) r.2)
def jX12_unfilter_56 (Γ : zG) (l0 : Nat) (l1 : Int32) (l2 : Int32) (l3 : Int32) (l4 : Int32) (l5 : Int32) (l6 : Int32) : (Int32 × zS) → Prop := fun x => zJ Γ 12 0 0 x.2 56 [(0, .ref l0), (1, .int l1), (2, .int l2), (3, .int l3), (4, .int l4), (5, .int l5), (6, .int l6), (7, .int x.1)] []
def eX12_unfilter_56 (Γ : zG) (l0 : Nat) (l1 : Int32) (l2 : Int32) (l3 : Int32) (l4 : Int32) (l5 : Int32) (l6 : Int32) : zS → Prop := fun b => zJ Γ 12 0 0 b 256 [(0, .ref l0), (1, .int l1), (2, .int l2), (3, .int l3), (4, .int l4), (5, .int l5)] []
def fX12_unfilter_218 (σ : zS) (l0 : Nat) (l1 : Int32) (l2 : Int32) (l3 : Int32) (l4 : Int32) (l5 : Int32) (l6 : Int32) (l7 : Int32) (s0 : Int32) : Option ((Int32 × zS) ⊕ zS) := oGR σ 12 l0 20 (fun a2 => oGR σ 12 l0 20 (fun a3 => oLd σ 20 a3 ((l4 * l5) + l7) (fun x4 => oSt σ 20 a2 ((l4 * l5) + l7) (((x4 + s0).toInt8.toInt32).toInt8.toInt32) (fun σ1 => oL (l7 + 1) (fun v3 => some (.inl (v3, σ1)))))))
set_option maxRecDepth 100000 in
theorem wX12_unfilter_218 {Γ : zG} (E : zE Γ cX12_unfilter RX12 12 { frames := 1, cells := 0, slots := 0, locals := 26 }) (σ : zS) (l0 : Nat) (l1 : Int32) (l2 : Int32) (l3 : Int32) (l4 : Int32) (l5 : Int32) (l6 : Int32) (l7 : Int32) (s0 : Int32) {R : ((Int32 × zS) ⊕ zS)} (h : fX12_unfilter_218 σ l0 l1 l2 l3 l4 l5 l6 l7 s0 = some R) (K : Sum.elim (jX12_unfilter_56 Γ l0 l1 l2 l3 l4 l5 l6) (eX12_unfilter_56 Γ l0 l1 l2 l3 l4 l5 l6) R) : zJ Γ 12 0 0 σ 218 [(0, .ref l0), (1, .int l1), (2, .int l2), (3, .int l3), (4, .int l4), (5, .int l5), (6, .int l6), (7, .int l7)] [.int s0] := by
  unfold fX12_unfilter_218 at h
  refine zj_istore (lv2 := [(11, .int s0), (0, .ref l0), (1, .int l1), (2, .int l2), (3, .int l3), (4, .int l4), (5, .int l5), (6, .int l6), (7, .int l7)]) E dX12_unfilter_218 (by decide) rfl ?_
  refine zj_aload_n E dX12_unfilter_220 rfl 1 rfl ?_
  refine zs_getR E zc11 20 (by decide) zw_6_12 rfl dX12_unfilter_221 h (fun a2 h => ?_)
  refine zj_iload E dX12_unfilter_224 5 rfl ?_
  refine zj_iload E dX12_unfilter_226 6 rfl ?_
  refine zj_imul E dX12_unfilter_228 ?_
  refine zj_iload E dX12_unfilter_229 8 rfl ?_
  refine zj_iadd E dX12_unfilter_231 ?_
  refine zj_aload_n E dX12_unfilter_232 rfl 1 rfl ?_
  refine zs_getR E zc11 20 (by decide) zw_6_12 rfl dX12_unfilter_233 h (fun a3 h => ?_)
  refine zj_iload E dX12_unfilter_236 5 rfl ?_
  refine zj_iload E dX12_unfilter_238 6 rfl ?_
  refine zj_imul E dX12_unfilter_240 ?_
  refine zj_iload E dX12_unfilter_241 8 rfl ?_
  refine zj_iadd E dX12_unfilter_243 ?_
  refine zs_bald E dX12_unfilter_244 h (fun x4 h => ?_)
  refine zj_iload E dX12_unfilter_245 0 rfl ?_
  refine zj_iadd E dX12_unfilter_247 ?_
  refine zj_i2b E dX12_unfilter_248 ?_
  refine zs_bast E dX12_unfilter_249 h (fun σ1 h => ?_)
  refine zs_iinc (lv2 := fun v3 => [(7, .int v3), (11, .int s0), (0, .ref l0), (1, .int l1), (2, .int l2), (3, .int l3), (4, .int l4), (5, .int l5), (6, .int l6)]) E dX12_unfilter_250 8 rfl (by decide) (by decide) (fun _ => rfl) h (fun v3 h => ?_)
  refine zj_goto (tgt := 56) E dX12_unfilter_253 (by decide) ?_
  have e9 := Option.some.inj h
  subst e9
  refine zj_lv [2, 3, 4, 5, 6, 7, 8, 0] rfl ?_
  exact K
def fX12_unfilter_160 (σ : zS) (l0 : Nat) (l1 : Int32) (l2 : Int32) (l3 : Int32) (l4 : Int32) (l5 : Int32) (l6 : Int32) (l7 : Int32) (l8 : Int32) (l9 : Int32) (s0 : Int32) : Option ((Int32 × zS) ⊕ zS) := (if l6 = 0 then fX12_unfilter_218 σ l0 l1 l2 l3 l4 l5 l6 l7 0 else (if l6 = (1 : Int32) then fX12_unfilter_218 σ l0 l1 l2 l3 l4 l5 l6 l7 l8 else (if l6 = (2 : Int32) then fX12_unfilter_218 σ l0 l1 l2 l3 l4 l5 l6 l7 l9 else (if l6 = (3 : Int32) then fX12_unfilter_218 σ l0 l1 l2 l3 l4 l5 l6 l7 ((l8 + l9) / (2 : Int32)) else oB (fX12_nearest σ l8 l9 s0) (fun x3 => fX12_unfilter_218 σ l0 l1 l2 l3 l4 l5 l6 l7 x3)))))
set_option maxRecDepth 100000 in
theorem wX12_unfilter_160 {Γ : zG} (E : zE Γ cX12_unfilter RX12 12 { frames := 1, cells := 0, slots := 0, locals := 26 }) (σ : zS) (l0 : Nat) (l1 : Int32) (l2 : Int32) (l3 : Int32) (l4 : Int32) (l5 : Int32) (l6 : Int32) (l7 : Int32) (l8 : Int32) (l9 : Int32) (s0 : Int32) {R : ((Int32 × zS) ⊕ zS)} (h : fX12_unfilter_160 σ l0 l1 l2 l3 l4 l5 l6 l7 l8 l9 s0 = some R) (K : Sum.elim (jX12_unfilter_56 Γ l0 l1 l2 l3 l4 l5 l6) (eX12_unfilter_56 Γ l0 l1 l2 l3 l4 l5 l6) R) : zJ Γ 12 0 0 σ 160 [(0, .ref l0), (1, .int l1), (2, .int l2), (3, .int l3), (4, .int l4), (5, .int l5), (6, .int l6), (7, .int l7), (8, .int l8), (9, .int l9)] [.int s0] := by
  unfold fX12_unfilter_160 at h
  refine zj_istore (lv2 := [(10, .int s0), (0, .ref l0), (1, .int l1), (2, .int l2), (3, .int l3), (4, .int l4), (5, .int l5), (6, .int l6), (7, .int l7), (8, .int l8), (9, .int l9)]) E dX12_unfilter_160 (by decide) rfl ?_
  refine zj_iload E dX12_unfilter_162 7 rfl ?_
  refine zj_if_ne (tgt := 171) E dX12_unfilter_164 (by decide) h (fun h => ?_) (fun h => ?_)
  · refine zj_iload E dX12_unfilter_171 7 rfl ?_
    refine zj_iconst (v := 1) E dX12_unfilter_173 (by decide) ?_
    refine zj_icmp_ne (tgt := 182) E dX12_unfilter_174 (by decide) h (fun h => ?_) (fun h => ?_)
    · refine zj_iload E dX12_unfilter_182 7 rfl ?_
      refine zj_iconst (v := 2) E dX12_unfilter_184 (by decide) ?_
      refine zj_icmp_ne (tgt := 193) E dX12_unfilter_185 (by decide) h (fun h => ?_) (fun h => ?_)
      · refine zj_iload E dX12_unfilter_193 7 rfl ?_
        refine zj_iconst (v := 3) E dX12_unfilter_195 (by decide) ?_
        refine zj_icmp_ne (tgt := 209) E dX12_unfilter_196 (by decide) h (fun h => ?_) (fun h => ?_)
        · refine zj_iload E dX12_unfilter_209 9 rfl ?_
          refine zj_iload E dX12_unfilter_211 10 rfl ?_
          refine zj_iload E dX12_unfilter_213 0 rfl ?_
          obtain ⟨x3, hc, h⟩ := oB_some h
          refine zs_callS (As := [.int l8, .int l9, .int s0]) (rest := []) E zyX12_nearest zw_22_9 (kX12_nearest _ _ _ _ _ hc) rfl rfl rfl ⟨by decide, by decide⟩ ⟨by decide, by decide⟩ (Nat.le_of_ble_eq_true rfl) dX12_unfilter_215 rfl (show zJ Γ 12 0 0 σ 218 [(10, .int s0), (0, .ref l0), (1, .int l1), (2, .int l2), (3, .int l3), (4, .int l4), (5, .int l5), (6, .int l6), (7, .int l7), (8, .int l8), (9, .int l9)] [.int x3] from ?_)
          refine zj_lv [1, 2, 3, 4, 5, 6, 7, 8] rfl ?_
          exact wX12_unfilter_218 E _ _ _ _ _ _ _ _ _ _ h K
        · refine zj_iload E dX12_unfilter_199 9 rfl ?_
          refine zj_iload E dX12_unfilter_201 10 rfl ?_
          refine zj_iadd E dX12_unfilter_203 ?_
          refine zj_iconst (v := 2) E dX12_unfilter_204 (by decide) ?_
          refine zj_idiv E dX12_unfilter_205 (by decide) ?_
          refine zj_goto (tgt := 218) E dX12_unfilter_206 (by decide) ?_
          refine zj_lv [1, 2, 3, 4, 5, 6, 7, 8] rfl ?_
          exact wX12_unfilter_218 E _ _ _ _ _ _ _ _ _ _ h K
      · refine zj_iload E dX12_unfilter_188 10 rfl ?_
        refine zj_goto (tgt := 218) E dX12_unfilter_190 (by decide) ?_
        refine zj_lv [1, 2, 3, 4, 5, 6, 7, 8] rfl ?_
        exact wX12_unfilter_218 E _ _ _ _ _ _ _ _ _ _ h K
    · refine zj_iload E dX12_unfilter_177 9 rfl ?_
      refine zj_goto (tgt := 218) E dX12_unfilter_179 (by decide) ?_
      refine zj_lv [1, 2, 3, 4, 5, 6, 7, 8] rfl ?_
      exact wX12_unfilter_218 E _ _ _ _ _ _ _ _ _ _ h K
  · refine zj_iconst (v := 0) E dX12_unfilter_167 (by decide) ?_
    refine zj_goto (tgt := 218) E dX12_unfilter_168 (by decide) ?_
    refine zj_lv [1, 2, 3, 4, 5, 6, 7, 8] rfl ?_
    exact wX12_unfilter_218 E _ _ _ _ _ _ _ _ _ _ h K
def fX12_unfilter_159 (σ : zS) (l0 : Nat) (l1 : Int32) (l2 : Int32) (l3 : Int32) (l4 : Int32) (l5 : Int32) (l6 : Int32) (l7 : Int32) (l8 : Int32) (l9 : Int32) : Option ((Int32 × zS) ⊕ zS) := fX12_unfilter_160 σ l0 l1 l2 l3 l4 l5 l6 l7 l8 l9 0
set_option maxRecDepth 100000 in
theorem wX12_unfilter_159 {Γ : zG} (E : zE Γ cX12_unfilter RX12 12 { frames := 1, cells := 0, slots := 0, locals := 26 }) (σ : zS) (l0 : Nat) (l1 : Int32) (l2 : Int32) (l3 : Int32) (l4 : Int32) (l5 : Int32) (l6 : Int32) (l7 : Int32) (l8 : Int32) (l9 : Int32) {R : ((Int32 × zS) ⊕ zS)} (h : fX12_unfilter_159 σ l0 l1 l2 l3 l4 l5 l6 l7 l8 l9 = some R) (K : Sum.elim (jX12_unfilter_56 Γ l0 l1 l2 l3 l4 l5 l6) (eX12_unfilter_56 Γ l0 l1 l2 l3 l4 l5 l6) R) : zJ Γ 12 0 0 σ 159 [(0, .ref l0), (1, .int l1), (2, .int l2), (3, .int l3), (4, .int l4), (5, .int l5), (6, .int l6), (7, .int l7), (8, .int l8), (9, .int l9)] [] := by
  unfold fX12_unfilter_159 at h
  refine zj_iconst (v := 0) E dX12_unfilter_159 (by decide) ?_
  refine zj_lv [0, 1, 2, 3, 4, 5, 6, 7, 8, 9] rfl ?_
  exact wX12_unfilter_160 E _ _ _ _ _ _ _ _ _ _ _ _ h K
def fX12_unfilter_122 (σ : zS) (l0 : Nat) (l1 : Int32) (l2 : Int32) (l3 : Int32) (l4 : Int32) (l5 : Int32) (l6 : Int32) (l7 : Int32) (l8 : Int32) (s0 : Int32) : Option ((Int32 × zS) ⊕ zS) := (if l7 ≤ (4 : Int32) then fX12_unfilter_159 σ l0 l1 l2 l3 l4 l5 l6 l7 l8 s0 else (if l5 ≤ 0 then fX12_unfilter_159 σ l0 l1 l2 l3 l4 l5 l6 l7 l8 s0 else oGR σ 12 l0 20 (fun a4 => oLd σ 20 a4 (((l4 * (l5 - (1 : Int32))) + l7) - (4 : Int32)) (fun x5 => fX12_unfilter_160 σ l0 l1 l2 l3 l4 l5 l6 l7 l8 s0 (x5 &&& (255 : Int32))))))
set_option maxRecDepth 100000 in
theorem wX12_unfilter_122 {Γ : zG} (E : zE Γ cX12_unfilter RX12 12 { frames := 1, cells := 0, slots := 0, locals := 26 }) (σ : zS) (l0 : Nat) (l1 : Int32) (l2 : Int32) (l3 : Int32) (l4 : Int32) (l5 : Int32) (l6 : Int32) (l7 : Int32) (l8 : Int32) (s0 : Int32) {R : ((Int32 × zS) ⊕ zS)} (h : fX12_unfilter_122 σ l0 l1 l2 l3 l4 l5 l6 l7 l8 s0 = some R) (K : Sum.elim (jX12_unfilter_56 Γ l0 l1 l2 l3 l4 l5 l6) (eX12_unfilter_56 Γ l0 l1 l2 l3 l4 l5 l6) R) : zJ Γ 12 0 0 σ 122 [(0, .ref l0), (1, .int l1), (2, .int l2), (3, .int l3), (4, .int l4), (5, .int l5), (6, .int l6), (7, .int l7), (8, .int l8)] [.int s0] := by
  unfold fX12_unfilter_122 at h
  refine zj_istore (lv2 := [(9, .int s0), (0, .ref l0), (1, .int l1), (2, .int l2), (3, .int l3), (4, .int l4), (5, .int l5), (6, .int l6), (7, .int l7), (8, .int l8)]) E dX12_unfilter_122 (by decide) rfl ?_
  refine zj_iload E dX12_unfilter_124 8 rfl ?_
  refine zj_iconst (v := 4) E dX12_unfilter_126 (by decide) ?_
  refine zj_icmp_le (tgt := 159) E dX12_unfilter_127 (by decide) h (fun h => ?_) (fun h => ?_)
  · refine zj_lv [1, 2, 3, 4, 5, 6, 7, 8, 9, 0] rfl ?_
    exact wX12_unfilter_159 E _ _ _ _ _ _ _ _ _ _ _ h K
  · refine zj_iload E dX12_unfilter_130 6 rfl ?_
    refine zj_if_le (tgt := 159) E dX12_unfilter_132 (by decide) h (fun h => ?_) (fun h => ?_)
    · refine zj_lv [1, 2, 3, 4, 5, 6, 7, 8, 9, 0] rfl ?_
      exact wX12_unfilter_159 E _ _ _ _ _ _ _ _ _ _ _ h K
    · refine zj_aload_n E dX12_unfilter_135 rfl 1 rfl ?_
      refine zs_getR E zc11 20 (by decide) zw_6_12 rfl dX12_unfilter_136 h (fun a4 h => ?_)
      refine zj_iload E dX12_unfilter_139 5 rfl ?_
      refine zj_iload E dX12_unfilter_141 6 rfl ?_
      refine zj_iconst (v := 1) E dX12_unfilter_143 (by decide) ?_
      refine zj_isub E dX12_unfilter_144 ?_
      refine zj_imul E dX12_unfilter_145 ?_
      refine zj_iload E dX12_unfilter_146 8 rfl ?_
      refine zj_iadd E dX12_unfilter_148 ?_
      refine zj_iconst (v := 4) E dX12_unfilter_149 (by decide) ?_
      refine zj_isub E dX12_unfilter_150 ?_
      refine zs_bald E dX12_unfilter_151 h (fun x5 h => ?_)
      refine zj_sipush (v := 255) E dX12_unfilter_152 (by decide) ?_
      refine zj_iand E dX12_unfilter_155 ?_
      refine zj_goto (tgt := 160) E dX12_unfilter_156 (by decide) ?_
      refine zj_lv [1, 2, 3, 4, 5, 6, 7, 8, 9, 0] rfl ?_
      exact wX12_unfilter_160 E _ _ _ _ _ _ _ _ _ _ _ _ h K
def fX12_unfilter_92 (σ : zS) (l0 : Nat) (l1 : Int32) (l2 : Int32) (l3 : Int32) (l4 : Int32) (l5 : Int32) (l6 : Int32) (l7 : Int32) (s0 : Int32) : Option ((Int32 × zS) ⊕ zS) := (if l5 ≤ 0 then fX12_unfilter_122 σ l0 l1 l2 l3 l4 l5 l6 l7 s0 0 else oGR σ 12 l0 20 (fun a5 => oLd σ 20 a5 ((l4 * (l5 - (1 : Int32))) + l7) (fun x6 => fX12_unfilter_122 σ l0 l1 l2 l3 l4 l5 l6 l7 s0 (x6 &&& (255 : Int32)))))
set_option maxRecDepth 100000 in
theorem wX12_unfilter_92 {Γ : zG} (E : zE Γ cX12_unfilter RX12 12 { frames := 1, cells := 0, slots := 0, locals := 26 }) (σ : zS) (l0 : Nat) (l1 : Int32) (l2 : Int32) (l3 : Int32) (l4 : Int32) (l5 : Int32) (l6 : Int32) (l7 : Int32) (s0 : Int32) {R : ((Int32 × zS) ⊕ zS)} (h : fX12_unfilter_92 σ l0 l1 l2 l3 l4 l5 l6 l7 s0 = some R) (K : Sum.elim (jX12_unfilter_56 Γ l0 l1 l2 l3 l4 l5 l6) (eX12_unfilter_56 Γ l0 l1 l2 l3 l4 l5 l6) R) : zJ Γ 12 0 0 σ 92 [(0, .ref l0), (1, .int l1), (2, .int l2), (3, .int l3), (4, .int l4), (5, .int l5), (6, .int l6), (7, .int l7)] [.int s0] := by
  unfold fX12_unfilter_92 at h
  refine zj_istore (lv2 := [(8, .int s0), (0, .ref l0), (1, .int l1), (2, .int l2), (3, .int l3), (4, .int l4), (5, .int l5), (6, .int l6), (7, .int l7)]) E dX12_unfilter_92 (by decide) rfl ?_
  refine zj_iload E dX12_unfilter_94 6 rfl ?_
  refine zj_if_le (tgt := 121) E dX12_unfilter_96 (by decide) h (fun h => ?_) (fun h => ?_)
  · refine zj_iconst (v := 0) E dX12_unfilter_121 (by decide) ?_
    refine zj_lv [1, 2, 3, 4, 5, 6, 7, 8, 0] rfl ?_
    exact wX12_unfilter_122 E _ _ _ _ _ _ _ _ _ _ _ h K
  · refine zj_aload_n E dX12_unfilter_99 rfl 1 rfl ?_
    refine zs_getR E zc11 20 (by decide) zw_6_12 rfl dX12_unfilter_100 h (fun a5 h => ?_)
    refine zj_iload E dX12_unfilter_103 5 rfl ?_
    refine zj_iload E dX12_unfilter_105 6 rfl ?_
    refine zj_iconst (v := 1) E dX12_unfilter_107 (by decide) ?_
    refine zj_isub E dX12_unfilter_108 ?_
    refine zj_imul E dX12_unfilter_109 ?_
    refine zj_iload E dX12_unfilter_110 8 rfl ?_
    refine zj_iadd E dX12_unfilter_112 ?_
    refine zs_bald E dX12_unfilter_113 h (fun x6 h => ?_)
    refine zj_sipush (v := 255) E dX12_unfilter_114 (by decide) ?_
    refine zj_iand E dX12_unfilter_117 ?_
    refine zj_goto (tgt := 122) E dX12_unfilter_118 (by decide) ?_
    refine zj_lv [1, 2, 3, 4, 5, 6, 7, 8, 0] rfl ?_
    exact wX12_unfilter_122 E _ _ _ _ _ _ _ _ _ _ _ h K
def bX12_unfilter_56 (l0 : Nat) (l1 : Int32) (l2 : Int32) (l3 : Int32) (l4 : Int32) (l5 : Int32) (l6 : Int32) (l7 : Int32) (σ : zS) : Option ((Int32 × zS) ⊕ zS) := (if l4 ≤ l7 then some (.inr σ) else (if l7 ≤ (4 : Int32) then fX12_unfilter_92 σ l0 l1 l2 l3 l4 l5 l6 l7 0 else oGR σ 12 l0 20 (fun a6 => oLd σ 20 a6 (((l4 * l5) + l7) - (4 : Int32)) (fun x7 => fX12_unfilter_92 σ l0 l1 l2 l3 l4 l5 l6 l7 (x7 &&& (255 : Int32))))))
set_option maxRecDepth 100000 in
theorem wX12_unfilter_L56 {Γ : zG} (E : zE Γ cX12_unfilter RX12 12 { frames := 1, cells := 0, slots := 0, locals := 26 }) (l0 : Nat) (l1 : Int32) (l2 : Int32) (l3 : Int32) (l4 : Int32) (l5 : Int32) (l6 : Int32) : ∀ x R, (fun x => bX12_unfilter_56 l0 l1 l2 l3 l4 l5 l6 x.1 x.2) x = some R → Sum.elim (jX12_unfilter_56 Γ l0 l1 l2 l3 l4 l5 l6) (eX12_unfilter_56 Γ l0 l1 l2 l3 l4 l5 l6) R → jX12_unfilter_56 Γ l0 l1 l2 l3 l4 l5 l6 x := by
  intro x R h K
  obtain ⟨l7, σ⟩ := x
  have h : bX12_unfilter_56 l0 l1 l2 l3 l4 l5 l6 l7 σ = some R := h
  show zJ Γ 12 0 0 σ 56 [(0, .ref l0), (1, .int l1), (2, .int l2), (3, .int l3), (4, .int l4), (5, .int l5), (6, .int l6), (7, .int l7)] []
  unfold bX12_unfilter_56 at h
  refine zj_iload E dX12_unfilter_56 7 rfl ?_
  refine zj_iload E dX12_unfilter_58 4 rfl ?_
  refine zj_icmp_ge (tgt := 256) E dX12_unfilter_60 (by decide) h (fun h => ?_) (fun h => ?_)
  · have e9 := Option.some.inj h
    subst e9
    refine zj_lv [0, 1, 2, 3, 4, 5] rfl ?_
    exact K
  · refine zj_iload E dX12_unfilter_63 7 rfl ?_
    refine zj_iconst (v := 4) E dX12_unfilter_65 (by decide) ?_
    refine zj_icmp_le (tgt := 91) E dX12_unfilter_66 (by decide) h (fun h => ?_) (fun h => ?_)
    · refine zj_iconst (v := 0) E dX12_unfilter_91 (by decide) ?_
      refine zj_lv [0, 1, 2, 3, 4, 5, 6, 7] rfl ?_
      exact wX12_unfilter_92 E _ _ _ _ _ _ _ _ _ _ h K
    · refine zj_aload_n E dX12_unfilter_69 rfl 0 rfl ?_
      refine zs_getR E zc11 20 (by decide) zw_6_12 rfl dX12_unfilter_70 h (fun a6 h => ?_)
      refine zj_iload E dX12_unfilter_73 4 rfl ?_
      refine zj_iload E dX12_unfilter_75 5 rfl ?_
      refine zj_imul E dX12_unfilter_77 ?_
      refine zj_iload E dX12_unfilter_78 7 rfl ?_
      refine zj_iadd E dX12_unfilter_80 ?_
      refine zj_iconst (v := 4) E dX12_unfilter_81 (by decide) ?_
      refine zj_isub E dX12_unfilter_82 ?_
      refine zs_bald E dX12_unfilter_83 h (fun x7 h => ?_)
      refine zj_sipush (v := 255) E dX12_unfilter_84 (by decide) ?_
      refine zj_iand E dX12_unfilter_87 ?_
      refine zj_goto (tgt := 92) E dX12_unfilter_88 (by decide) ?_
      refine zj_lv [0, 1, 2, 3, 4, 5, 6, 7] rfl ?_
      exact wX12_unfilter_92 E _ _ _ _ _ _ _ _ _ _ h K
def bX12_unfilter_23 (l0 : Nat) (l1 : Int32) (l2 : Int32) (l3 : Int32) (l4 : Int32) (l5 : Int32) (σ : zS) : Option ((Int32 × zS) ⊕ (zS ⊕ (Int32 × zS))) := (if l2 ≤ l5 then some (.inr (.inl σ)) else oGR σ 12 l0 20 (fun a1 => oLd σ 20 a1 (l4 * l5) (fun x2 => oL (x2 &&& (255 : Int32)) (fun v2 => (if v2 ≤ (4 : Int32) then oB (zloop zF (fun x => bX12_unfilter_56 l0 l1 l2 l3 l4 l5 v2 x.1 x.2) (1, σ)) (fun b1 => (fun σ2 => oL (l5 + 1) (fun v4 => some (.inl (v4, σ2)))) b1) else some (.inr (.inr (0, σ))))))))
set_option maxRecDepth 100000 in
theorem wX12_unfilter_L23 {Γ : zG} (E : zE Γ cX12_unfilter RX12 12 { frames := 1, cells := 0, slots := 0, locals := 26 }) (l0 : Nat) (l1 : Int32) (l2 : Int32) (l3 : Int32) (l4 : Int32) : ∀ x R, (fun x => bX12_unfilter_23 l0 l1 l2 l3 l4 x.1 x.2) x = some R → Sum.elim (jX12_unfilter_23 Γ l0 l1 l2 l3 l4) (eX12_unfilter_23 Γ l0 l1 l2 l3 l4) R → jX12_unfilter_23 Γ l0 l1 l2 l3 l4 x := by
  intro x R h K
  obtain ⟨l5, σ⟩ := x
  have h : bX12_unfilter_23 l0 l1 l2 l3 l4 l5 σ = some R := h
  show zJ Γ 12 0 0 σ 23 [(0, .ref l0), (1, .int l1), (2, .int l2), (3, .int l3), (4, .int l4), (5, .int l5)] []
  unfold bX12_unfilter_23 at h
  refine zj_iload E dX12_unfilter_23 5 rfl ?_
  refine zj_iload_n E dX12_unfilter_25 rfl 2 rfl ?_
  refine zj_icmp_ge (tgt := 262) E dX12_unfilter_26 (by decide) h (fun h => ?_) (fun h => ?_)
  · have e9 := Option.some.inj h
    subst e9
    refine zj_lv [0, 1, 2, 3, 4] rfl ?_
    exact K
  · refine zj_aload_n E dX12_unfilter_29 rfl 0 rfl ?_
    refine zs_getR E zc11 20 (by decide) zw_6_12 rfl dX12_unfilter_30 h (fun a1 h => ?_)
    refine zj_iload E dX12_unfilter_33 4 rfl ?_
    refine zj_iload E dX12_unfilter_35 5 rfl ?_
    refine zj_imul E dX12_unfilter_37 ?_
    refine zs_bald E dX12_unfilter_38 h (fun x2 h => ?_)
    refine zj_sipush (v := 255) E dX12_unfilter_39 (by decide) ?_
    refine zj_iand E dX12_unfilter_42 ?_
    refine zs_istore (lv2 := fun v2 => [(6, .int v2), (0, .ref l0), (1, .int l1), (2, .int l2), (3, .int l3), (4, .int l4), (5, .int l5)]) E dX12_unfilter_43 (by decide) (fun _ => rfl) h (fun v2 h => ?_)
    refine zj_iload E dX12_unfilter_45 0 rfl ?_
    refine zj_iconst (v := 4) E dX12_unfilter_47 (by decide) ?_
    refine zj_icmp_le (tgt := 53) E dX12_unfilter_48 (by decide) h (fun h => ?_) (fun h => ?_)
    · refine zj_iconst (v := 1) E dX12_unfilter_53 (by decide) ?_
      refine zj_istore (lv2 := [(7, .int 1), (6, .int v2), (0, .ref l0), (1, .int l1), (2, .int l2), (3, .int l3), (4, .int l4), (5, .int l5)]) E dX12_unfilter_54 (by decide) rfl ?_
      obtain ⟨b1, hb1, h⟩ := oB_some h
      refine zj_lv [2, 3, 4, 5, 6, 7, 1, 0] rfl ?_
      refine zj_loop (wX12_unfilter_L56 E l0 l1 l2 l3 l4 l5 v2) zF (1, σ) b1 hb1 ?_
      obtain ⟨σ2, rfl⟩ : ∃ z, z = b1 := ⟨_, rfl⟩
      try dsimp only at h
      show zJ Γ 12 0 0 σ2 256 [(0, .ref l0), (1, .int l1), (2, .int l2), (3, .int l3), (4, .int l4), (5, .int l5)] []
      refine zs_iinc (lv2 := fun v4 => [(5, .int v4), (0, .ref l0), (1, .int l1), (2, .int l2), (3, .int l3), (4, .int l4)]) E dX12_unfilter_256 5 rfl (by decide) (by decide) (fun _ => rfl) h (fun v4 h => ?_)
      refine zj_goto (tgt := 23) E dX12_unfilter_259 (by decide) ?_
      have e9 := Option.some.inj h
      subst e9
      refine zj_lv [1, 2, 3, 4, 5, 0] rfl ?_
      exact K
    · refine zj_iconst (v := 0) E dX12_unfilter_51 (by decide) ?_
      have e9 := Option.some.inj h
      subst e9
      exact (show zRet Γ cX12_unfilter 12 0 0 (some (.int 0)) σ from K) _ _ dX12_unfilter_52
def jX12_unfilter_265 (Γ : zG) (l0 : Nat) (l1 : Int32) (l2 : Int32) (l3 : Int32) (l4 : Int32) : (Int32 × zS) → Prop := fun x => zJ Γ 12 0 0 x.2 265 [(0, .ref l0), (1, .int l1), (2, .int l2), (3, .int l3), (4, .int l4), (5, .int x.1)] []
def eX12_unfilter_265 (Γ : zG) (l0 : Nat) (l1 : Int32) (l2 : Int32) (l3 : Int32) (l4 : Int32) : zS → Prop := fun b => zJ Γ 12 0 0 b 368 [] []
def bX12_unfilter_265 (l0 : Nat) (l1 : Int32) (l2 : Int32) (l3 : Int32) (l4 : Int32) (l5 : Int32) (σ : zS) : Option ((Int32 × zS) ⊕ zS) := (if (l1 * l2) ≤ l5 then some (.inr σ) else oA (¬ l1 = 0) (oA (¬ l1 = 0) (oL (((l4 * (l5 / l1)) + (1 : Int32)) + ((4 : Int32) * (l5 - l5 / l1 * l1))) (fun v5 => oGR σ 12 l0 6 (fun a7 => oGR σ 12 l0 20 (fun a8 => oLd σ 20 a8 v5 (fun x8 => oGR σ 12 l0 20 (fun a9 => oLd σ 20 a9 (v5 + (1 : Int32)) (fun x9 => oGR σ 12 l0 20 (fun a10 => oLd σ 20 a10 (v5 + (2 : Int32)) (fun x10 => oGR σ 12 l0 20 (fun a11 => oLd σ 20 a11 (v5 + (3 : Int32)) (fun x11 => oSt σ 21 a7 (l3 + l5) (((((x8 &&& (255 : Int32)) <<< ((24 : Int32) &&& 31)) ||| ((x9 &&& (255 : Int32)) <<< ((16 : Int32) &&& 31))) ||| ((x10 &&& (255 : Int32)) <<< ((8 : Int32) &&& 31))) ||| (x11 &&& (255 : Int32))) (fun σ4 => oL (l5 + 1) (fun v6 => some (.inl (v6, σ4)))))))))))))))))
set_option maxRecDepth 100000 in
theorem wX12_unfilter_L265 {Γ : zG} (E : zE Γ cX12_unfilter RX12 12 { frames := 1, cells := 0, slots := 0, locals := 26 }) (l0 : Nat) (l1 : Int32) (l2 : Int32) (l3 : Int32) (l4 : Int32) : ∀ x R, (fun x => bX12_unfilter_265 l0 l1 l2 l3 l4 x.1 x.2) x = some R → Sum.elim (jX12_unfilter_265 Γ l0 l1 l2 l3 l4) (eX12_unfilter_265 Γ l0 l1 l2 l3 l4) R → jX12_unfilter_265 Γ l0 l1 l2 l3 l4 x := by
  intro x R h K
  obtain ⟨l5, σ⟩ := x
  have h : bX12_unfilter_265 l0 l1 l2 l3 l4 l5 σ = some R := h
  show zJ Γ 12 0 0 σ 265 [(0, .ref l0), (1, .int l1), (2, .int l2), (3, .int l3), (4, .int l4), (5, .int l5)] []
  unfold bX12_unfilter_265 at h
  refine zj_iload E dX12_unfilter_265 5 rfl ?_
  refine zj_iload_n E dX12_unfilter_267 rfl 1 rfl ?_
  refine zj_iload_n E dX12_unfilter_268 rfl 2 rfl ?_
  refine zj_imul E dX12_unfilter_269 ?_
  refine zj_icmp_ge (tgt := 368) E dX12_unfilter_270 (by decide) h (fun h => ?_) (fun h => ?_)
  · have e9 := Option.some.inj h
    subst e9
    refine zj_lv [] rfl ?_
    exact K
  · refine zj_iload E dX12_unfilter_273 4 rfl ?_
    refine zj_iload E dX12_unfilter_275 5 rfl ?_
    refine zj_iload_n E dX12_unfilter_277 rfl 1 rfl ?_
    obtain ⟨hne, h⟩ := oA_some h
    refine zj_idiv E dX12_unfilter_278 hne ?_
    refine zj_imul E dX12_unfilter_279 ?_
    refine zj_iconst (v := 1) E dX12_unfilter_280 (by decide) ?_
    refine zj_iadd E dX12_unfilter_281 ?_
    refine zj_iconst (v := 4) E dX12_unfilter_282 (by decide) ?_
    refine zj_iload E dX12_unfilter_283 5 rfl ?_
    refine zj_iload_n E dX12_unfilter_285 rfl 1 rfl ?_
    obtain ⟨hne, h⟩ := oA_some h
    refine zj_irem E dX12_unfilter_286 hne ?_
    refine zj_imul E dX12_unfilter_287 ?_
    refine zj_iadd E dX12_unfilter_288 ?_
    refine zs_istore (lv2 := fun v5 => [(6, .int v5), (0, .ref l0), (1, .int l1), (2, .int l2), (3, .int l3), (4, .int l4), (5, .int l5)]) E dX12_unfilter_289 (by decide) (fun _ => rfl) h (fun v5 h => ?_)
    refine zj_aload_n E dX12_unfilter_291 rfl 1 rfl ?_
    refine zs_getR E zc11 6 (by decide) zw_6_7 rfl dX12_unfilter_292 h (fun a7 h => ?_)
    refine zj_iload_n E dX12_unfilter_295 rfl 4 rfl ?_
    refine zj_iload E dX12_unfilter_296 6 rfl ?_
    refine zj_iadd E dX12_unfilter_298 ?_
    refine zj_aload_n E dX12_unfilter_299 rfl 1 rfl ?_
    refine zs_getR E zc11 20 (by decide) zw_6_12 rfl dX12_unfilter_300 h (fun a8 h => ?_)
    refine zj_iload E dX12_unfilter_303 0 rfl ?_
    refine zs_bald E dX12_unfilter_305 h (fun x8 h => ?_)
    refine zj_sipush (v := 255) E dX12_unfilter_306 (by decide) ?_
    refine zj_iand E dX12_unfilter_309 ?_
    refine zj_bipush (v := 24) E dX12_unfilter_310 (by decide) ?_
    refine zj_ishl E dX12_unfilter_312 ?_
    refine zj_aload_n E dX12_unfilter_313 rfl 1 rfl ?_
    refine zs_getR E zc11 20 (by decide) zw_6_12 rfl dX12_unfilter_314 h (fun a9 h => ?_)
    refine zj_iload E dX12_unfilter_317 0 rfl ?_
    refine zj_iconst (v := 1) E dX12_unfilter_319 (by decide) ?_
    refine zj_iadd E dX12_unfilter_320 ?_
    refine zs_bald E dX12_unfilter_321 h (fun x9 h => ?_)
    refine zj_sipush (v := 255) E dX12_unfilter_322 (by decide) ?_
    refine zj_iand E dX12_unfilter_325 ?_
    refine zj_bipush (v := 16) E dX12_unfilter_326 (by decide) ?_
    refine zj_ishl E dX12_unfilter_328 ?_
    refine zj_ior E dX12_unfilter_329 ?_
    refine zj_aload_n E dX12_unfilter_330 rfl 1 rfl ?_
    refine zs_getR E zc11 20 (by decide) zw_6_12 rfl dX12_unfilter_331 h (fun a10 h => ?_)
    refine zj_iload E dX12_unfilter_334 0 rfl ?_
    refine zj_iconst (v := 2) E dX12_unfilter_336 (by decide) ?_
    refine zj_iadd E dX12_unfilter_337 ?_
    refine zs_bald E dX12_unfilter_338 h (fun x10 h => ?_)
    refine zj_sipush (v := 255) E dX12_unfilter_339 (by decide) ?_
    refine zj_iand E dX12_unfilter_342 ?_
    refine zj_bipush (v := 8) E dX12_unfilter_343 (by decide) ?_
    refine zj_ishl E dX12_unfilter_345 ?_
    refine zj_ior E dX12_unfilter_346 ?_
    refine zj_aload_n E dX12_unfilter_347 rfl 1 rfl ?_
    refine zs_getR E zc11 20 (by decide) zw_6_12 rfl dX12_unfilter_348 h (fun a11 h => ?_)
    refine zj_iload E dX12_unfilter_351 0 rfl ?_
    refine zj_iconst (v := 3) E dX12_unfilter_353 (by decide) ?_
    refine zj_iadd E dX12_unfilter_354 ?_
    refine zs_bald E dX12_unfilter_355 h (fun x11 h => ?_)
    refine zj_sipush (v := 255) E dX12_unfilter_356 (by decide) ?_
    refine zj_iand E dX12_unfilter_359 ?_
    refine zj_ior E dX12_unfilter_360 ?_
    refine zs_iast E dX12_unfilter_361 h (fun σ4 h => ?_)
    refine zs_iinc (lv2 := fun v6 => [(5, .int v6), (6, .int v5), (0, .ref l0), (1, .int l1), (2, .int l2), (3, .int l3), (4, .int l4)]) E dX12_unfilter_362 6 rfl (by decide) (by decide) (fun _ => rfl) h (fun v6 h => ?_)
    refine zj_goto (tgt := 265) E dX12_unfilter_365 (by decide) ?_
    have e9 := Option.some.inj h
    subst e9
    refine zj_lv [2, 3, 4, 5, 6, 0] rfl ?_
    exact K
def gX12_unfilter (σ : zS) (p0 : Nat) (p1 : Int32) (p2 : Int32) (p3 : Int32) : Option (Int32 × zS) := oL ((1 : Int32) + ((4 : Int32) * p1)) (fun v1 => oGI σ 12 p0 19 (fun x1 => (if x1 = (v1 * p2) then oB (zloop zF (fun x => bX12_unfilter_23 p0 p1 p2 p3 v1 x.1 x.2) (0, σ)) (fun b2 => oS b2 (fun c1 => (fun σ3 => oB (zloop zF (fun x => bX12_unfilter_265 p0 p1 p2 p3 v1 x.1 x.2) (0, σ3)) (fun b3 => (fun σ5 => some (1, σ5)) b3)) c1) (fun r1 => some r1)) else some (0, σ))))
def fX12_unfilter (σ : zS) (p0 : Nat) (p1 : Int32) (p2 : Int32) (p3 : Int32) : Option (Int32 × zS) := oC (gX12_unfilter σ p0 p1 p2 p3) (fun r s => oA (r = 0 ∨ r = 1) (some (r, s)))
set_option maxRecDepth 100000 in
theorem wX12_unfilter {Γ : zG} (E : zE Γ cX12_unfilter RX12 12 { frames := 1, cells := 0, slots := 0, locals := 26 }) (σ : zS) (p0 : Nat) (p1 : Int32) (p2 : Int32) (p3 : Int32) {R : (Int32 × zS)} (h : gX12_unfilter σ p0 p1 p2 p3 = some R) (K : zRet Γ cX12_unfilter 12 0 0 (some (.int R.1)) R.2) : zJ Γ 12 0 0 σ 0 [(0, .ref p0), (1, .int p1), (2, .int p2), (3, .int p3)] [] := by
  unfold gX12_unfilter at h
  refine zj_iconst (v := 1) E dX12_unfilter_0 (by decide) ?_
  refine zj_iconst (v := 4) E dX12_unfilter_1 (by decide) ?_
  refine zj_iload_n E dX12_unfilter_2 rfl 1 rfl ?_
  refine zj_imul E dX12_unfilter_3 ?_
  refine zj_iadd E dX12_unfilter_4 ?_
  refine zs_istore (lv2 := fun v1 => [(4, .int v1), (0, .ref p0), (1, .int p1), (2, .int p2), (3, .int p3)]) E dX12_unfilter_5 (by decide) (fun _ => rfl) h (fun v1 h => ?_)
  refine zj_aload_n E dX12_unfilter_7 rfl 1 rfl ?_
  refine zs_getI E zc11 19 (by decide) zw_19_14 rfl dX12_unfilter_8 h (fun x1 h => ?_)
  refine zj_iload E dX12_unfilter_11 0 rfl ?_
  refine zj_iload_n E dX12_unfilter_13 rfl 3 rfl ?_
  refine zj_imul E dX12_unfilter_14 ?_
  refine zj_icmp_eq (tgt := 20) E dX12_unfilter_15 (by decide) h (fun h => ?_) (fun h => ?_)
  · refine zj_iconst (v := 0) E dX12_unfilter_20 (by decide) ?_
    refine zj_istore (lv2 := [(5, .int 0), (4, .int v1), (0, .ref p0), (1, .int p1), (2, .int p2), (3, .int p3)]) E dX12_unfilter_21 (by decide) rfl ?_
    obtain ⟨b2, hb2, h⟩ := oB_some h
    refine zj_lv [2, 3, 4, 5, 1, 0] rfl ?_
    refine zj_loop (wX12_unfilter_L23 E p0 p1 p2 p3 v1) zF (0, σ) b2 hb2 ?_
    cases b2 with
    | inr r1 =>
      have e9 := Option.some.inj h
      subst e9
      exact K
    | inl c1 =>
      obtain ⟨σ3, rfl⟩ : ∃ z, z = c1 := ⟨_, rfl⟩
      dsimp only [oS] at h
      show zJ Γ 12 0 0 σ3 262 [(0, .ref p0), (1, .int p1), (2, .int p2), (3, .int p3), (4, .int v1)] []
      refine zj_iconst (v := 0) E dX12_unfilter_262 (by decide) ?_
      refine zj_istore (lv2 := [(5, .int 0), (0, .ref p0), (1, .int p1), (2, .int p2), (3, .int p3), (4, .int v1)]) E dX12_unfilter_263 (by decide) rfl ?_
      obtain ⟨b3, hb3, h⟩ := oB_some h
      refine zj_lv [1, 2, 3, 4, 5, 0] rfl ?_
      refine zj_loop (wX12_unfilter_L265 E p0 p1 p2 p3 v1) zF (0, σ3) b3 hb3 ?_
      obtain ⟨σ5, rfl⟩ : ∃ z, z = b3 := ⟨_, rfl⟩
      try dsimp only at h
      show zJ Γ 12 0 0 σ5 368 [] []
      refine zj_iconst (v := 1) E dX12_unfilter_368 (by decide) ?_
      have e9 := Option.some.inj h
      subst e9
      exact (show zRet Γ cX12_unfilter 12 0 0 (some (.int 1)) σ5 from K) _ _ dX12_unfilter_369
  · refine zj_iconst (v := 0) E dX12_unfilter_18 (by decide) ?_
    have e9 := Option.some.inj h
    subst e9
    exact (show zRet Γ cX12_unfilter 12 0 0 (some (.int 0)) σ from K) _ _ dX12_unfilter_19
set_option maxRecDepth 100000 in
theorem kX12_unfilter (l : Launch) (D : va_G) (cs : zCs) (z0 : Nat) (σ : zS) {p0 : Nat} {p1 : Int32} {p2 : Int32} {p3 : Int32} {r : Int32} {σ' : zS} (h : fX12_unfilter σ p0 p1 p2 p3 = some (r, σ')) : zM l D cs z0 yX12_unfilter cX12_unfilter 12 (some .boolean) { frames := 1, cells := 0, slots := 0, locals := 26 } [.ref p0, .int p1, .int p2, .int p3] σ (some (.int r)) σ' 0 0 := by
  obtain ⟨r0, s0, h0, h⟩ := oC_some h
  obtain ⟨hz, h⟩ := oA_some h
  cases h
  exact zM_of (by decide) rfl (Or.inr ⟨rfl, hz⟩) (Nat.le_of_ble_eq_true rfl) rfl (fun Γ e1 e2 e3 e4 E hN K => wX12_unfilter E σ _ _ _ _ h0 K)
/-! X12_isType -/
def gX12_isType (σ : zS) (p0 : Nat) (p1 : Int32) (p2 : Int32) (p3 : Int32) (p4 : Int32) (p5 : Int32) : Option Int32 := oA (zk σ p0 = 12) (oB (fX12_byteAt σ p0 p1) (fun x1 => (if x1 = p2 then oA (zk σ p0 = 12) (oB (fX12_byteAt σ p0 (p1 + (1 : Int32))) (fun x2 => (if x2 = p3 then oA (zk σ p0 = 12) (oB (fX12_byteAt σ p0 (p1 + (2 : Int32))) (fun x3 => (if x3 = p4 then oA (zk σ p0 = 12) (oB (fX12_byteAt σ p0 (p1 + (3 : Int32))) (fun x4 => (if x4 = p5 then some 1 else some 0))) else some 0))) else some 0))) else some 0)))
def fX12_isType (σ : zS) (p0 : Nat) (p1 : Int32) (p2 : Int32) (p3 : Int32) (p4 : Int32) (p5 : Int32) : Option Int32 := oB (gX12_isType σ p0 p1 p2 p3 p4 p5) (fun r => oA (r = 0 ∨ r = 1) (some r))
set_option maxRecDepth 100000 in
theorem wX12_isType {Γ : zG} (E : zE Γ cX12_isType RX12 6 { frames := 1, cells := 0, slots := 0, locals := 21 }) (σ : zS) (p0 : Nat) (p1 : Int32) (p2 : Int32) (p3 : Int32) (p4 : Int32) (p5 : Int32) {R : Int32} (h : gX12_isType σ p0 p1 p2 p3 p4 p5 = some R) (K : zRet Γ cX12_isType 6 0 0 (some (.int R)) σ) : zJ Γ 6 0 0 σ 0 [(0, .ref p0), (1, .int p1), (2, .int p2), (3, .int p3), (4, .int p4), (5, .int p5)] [] := by
  unfold gX12_isType at h
  refine zj_aload_n E dX12_isType_0 rfl 0 rfl ?_
  refine zj_iload_n E dX12_isType_1 rfl 1 rfl ?_
  obtain ⟨hk, h⟩ := oA_some h
  obtain ⟨x1, hc, h⟩ := oB_some h
  refine zs_callV (As := [.int p1]) (rest := []) E zc11 zyX12_byteAt zw_18_7 (kX12_byteAt _ _ _ _ _ hc) rfl rfl hk rfl ⟨by decide, by decide⟩ ⟨by decide, by decide⟩ (Nat.le_of_ble_eq_true rfl) dX12_isType_2 rfl (show zJ Γ 6 0 0 σ 5 [(0, .ref p0), (1, .int p1), (2, .int p2), (3, .int p3), (4, .int p4), (5, .int p5)] [.int x1] from ?_)
  refine zj_iload_n E dX12_isType_5 rfl 2 rfl ?_
  refine zj_icmp_ne (tgt := 48) E dX12_isType_6 (by decide) h (fun h => ?_) (fun h => ?_)
  · refine zj_iconst (v := 0) E dX12_isType_48 (by decide) ?_
    have e9 := Option.some.inj h
    subst e9
    exact (show zRet Γ cX12_isType 6 0 0 (some (.int 0)) σ from K) _ _ dX12_isType_49
  · refine zj_aload_n E dX12_isType_9 rfl 0 rfl ?_
    refine zj_iload_n E dX12_isType_10 rfl 1 rfl ?_
    refine zj_iconst (v := 1) E dX12_isType_11 (by decide) ?_
    refine zj_iadd E dX12_isType_12 ?_
    obtain ⟨hk, h⟩ := oA_some h
    obtain ⟨x2, hc, h⟩ := oB_some h
    refine zs_callV (As := [.int (p1 + (1 : Int32))]) (rest := []) E zc11 zyX12_byteAt zw_18_7 (kX12_byteAt _ _ _ _ _ hc) rfl rfl hk rfl ⟨by decide, by decide⟩ ⟨by decide, by decide⟩ (Nat.le_of_ble_eq_true rfl) dX12_isType_13 rfl (show zJ Γ 6 0 0 σ 16 [(0, .ref p0), (1, .int p1), (2, .int p2), (3, .int p3), (4, .int p4), (5, .int p5)] [.int x2] from ?_)
    refine zj_iload_n E dX12_isType_16 rfl 3 rfl ?_
    refine zj_icmp_ne (tgt := 48) E dX12_isType_17 (by decide) h (fun h => ?_) (fun h => ?_)
    · refine zj_iconst (v := 0) E dX12_isType_48 (by decide) ?_
      have e9 := Option.some.inj h
      subst e9
      exact (show zRet Γ cX12_isType 6 0 0 (some (.int 0)) σ from K) _ _ dX12_isType_49
    · refine zj_aload_n E dX12_isType_20 rfl 0 rfl ?_
      refine zj_iload_n E dX12_isType_21 rfl 1 rfl ?_
      refine zj_iconst (v := 2) E dX12_isType_22 (by decide) ?_
      refine zj_iadd E dX12_isType_23 ?_
      obtain ⟨hk, h⟩ := oA_some h
      obtain ⟨x3, hc, h⟩ := oB_some h
      refine zs_callV (As := [.int (p1 + (2 : Int32))]) (rest := []) E zc11 zyX12_byteAt zw_18_7 (kX12_byteAt _ _ _ _ _ hc) rfl rfl hk rfl ⟨by decide, by decide⟩ ⟨by decide, by decide⟩ (Nat.le_of_ble_eq_true rfl) dX12_isType_24 rfl (show zJ Γ 6 0 0 σ 27 [(0, .ref p0), (1, .int p1), (2, .int p2), (3, .int p3), (4, .int p4), (5, .int p5)] [.int x3] from ?_)
      refine zj_iload E dX12_isType_27 4 rfl ?_
      refine zj_icmp_ne (tgt := 48) E dX12_isType_29 (by decide) h (fun h => ?_) (fun h => ?_)
      · refine zj_iconst (v := 0) E dX12_isType_48 (by decide) ?_
        have e9 := Option.some.inj h
        subst e9
        exact (show zRet Γ cX12_isType 6 0 0 (some (.int 0)) σ from K) _ _ dX12_isType_49
      · refine zj_aload_n E dX12_isType_32 rfl 0 rfl ?_
        refine zj_iload_n E dX12_isType_33 rfl 1 rfl ?_
        refine zj_iconst (v := 3) E dX12_isType_34 (by decide) ?_
        refine zj_iadd E dX12_isType_35 ?_
        obtain ⟨hk, h⟩ := oA_some h
        obtain ⟨x4, hc, h⟩ := oB_some h
        refine zs_callV (As := [.int (p1 + (3 : Int32))]) (rest := []) E zc11 zyX12_byteAt zw_18_7 (kX12_byteAt _ _ _ _ _ hc) rfl rfl hk rfl ⟨by decide, by decide⟩ ⟨by decide, by decide⟩ (Nat.le_of_ble_eq_true rfl) dX12_isType_36 rfl (show zJ Γ 6 0 0 σ 39 [(0, .ref p0), (1, .int p1), (2, .int p2), (3, .int p3), (4, .int p4), (5, .int p5)] [.int x4] from ?_)
        refine zj_iload E dX12_isType_39 5 rfl ?_
        refine zj_icmp_ne (tgt := 48) E dX12_isType_41 (by decide) h (fun h => ?_) (fun h => ?_)
        · refine zj_iconst (v := 0) E dX12_isType_48 (by decide) ?_
          have e9 := Option.some.inj h
          subst e9
          exact (show zRet Γ cX12_isType 6 0 0 (some (.int 0)) σ from K) _ _ dX12_isType_49
        · refine zj_iconst (v := 1) E dX12_isType_44 (by decide) ?_
          refine zj_goto (tgt := 49) E dX12_isType_45 (by decide) ?_
          have e9 := Option.some.inj h
          subst e9
          exact (show zRet Γ cX12_isType 6 0 0 (some (.int 1)) σ from K) _ _ dX12_isType_49
set_option maxRecDepth 100000 in
theorem kX12_isType (l : Launch) (D : va_G) (cs : zCs) (z0 : Nat) (σ : zS) {p0 : Nat} {p1 : Int32} {p2 : Int32} {p3 : Int32} {p4 : Int32} {p5 : Int32} {r : Int32} (h : fX12_isType σ p0 p1 p2 p3 p4 p5 = some r) : zM l D cs z0 yX12_isType cX12_isType 6 (some .boolean) { frames := 1, cells := 0, slots := 0, locals := 21 } [.ref p0, .int p1, .int p2, .int p3, .int p4, .int p5] σ (some (.int r)) σ 0 0 := by
  obtain ⟨r0, h0, h⟩ := oB_some h
  obtain ⟨hz, h⟩ := oA_some h
  cases h
  exact zM_of (by decide) rfl (Or.inr ⟨rfl, hz⟩) (Nat.le_of_ble_eq_true rfl) rfl (fun Γ e1 e2 e3 e4 E hN K => wX12_isType E σ _ _ _ _ _ _ h0 K)
/-! X12_isLetter -/
def fX12_isLetter_24 (σ : zS) : Option Int32 := some 1
set_option maxRecDepth 100000 in
theorem wX12_isLetter_24 {Γ : zG} (E : zE Γ cX12_isLetter RX12 1 { frames := 0, cells := 0, slots := 0, locals := 0 }) (σ : zS) {R : Int32} (h : fX12_isLetter_24 σ = some R) (K : zRet Γ cX12_isLetter 1 0 0 (some (.int R)) σ) : zJ Γ 1 0 0 σ 24 [] [] := by
  unfold fX12_isLetter_24 at h
  refine zj_iconst (v := 1) E dX12_isLetter_24 (by decide) ?_
  refine zj_goto (tgt := 29) E dX12_isLetter_25 (by decide) ?_
  have e9 := Option.some.inj h
  subst e9
  exact (show zRet Γ cX12_isLetter 1 0 0 (some (.int 1)) σ from K) _ _ dX12_isLetter_29
def fX12_isLetter_12 (σ : zS) (l0 : Int32) : Option Int32 := (if l0 < (97 : Int32) then some 0 else (if (122 : Int32) < l0 then some 0 else fX12_isLetter_24 σ))
set_option maxRecDepth 100000 in
theorem wX12_isLetter_12 {Γ : zG} (E : zE Γ cX12_isLetter RX12 1 { frames := 0, cells := 0, slots := 0, locals := 0 }) (σ : zS) (l0 : Int32) {R : Int32} (h : fX12_isLetter_12 σ l0 = some R) (K : zRet Γ cX12_isLetter 1 0 0 (some (.int R)) σ) : zJ Γ 1 0 0 σ 12 [(0, .int l0)] [] := by
  unfold fX12_isLetter_12 at h
  refine zj_iload_n E dX12_isLetter_12 rfl 0 rfl ?_
  refine zj_bipush (v := 97) E dX12_isLetter_13 (by decide) ?_
  refine zj_icmp_lt (tgt := 28) E dX12_isLetter_15 (by decide) h (fun h => ?_) (fun h => ?_)
  · refine zj_iconst (v := 0) E dX12_isLetter_28 (by decide) ?_
    have e9 := Option.some.inj h
    subst e9
    exact (show zRet Γ cX12_isLetter 1 0 0 (some (.int 0)) σ from K) _ _ dX12_isLetter_29
  · refine zj_iload_n E dX12_isLetter_18 rfl 0 rfl ?_
    refine zj_bipush (v := 122) E dX12_isLetter_19 (by decide) ?_
    refine zj_icmp_gt (tgt := 28) E dX12_isLetter_21 (by decide) h (fun h => ?_) (fun h => ?_)
    · refine zj_iconst (v := 0) E dX12_isLetter_28 (by decide) ?_
      have e9 := Option.some.inj h
      subst e9
      exact (show zRet Γ cX12_isLetter 1 0 0 (some (.int 0)) σ from K) _ _ dX12_isLetter_29
    · refine zj_lv [] rfl ?_
      exact wX12_isLetter_24 E _ h K
def gX12_isLetter (σ : zS) (p0 : Int32) : Option Int32 := (if p0 < (65 : Int32) then fX12_isLetter_12 σ p0 else (if p0 ≤ (90 : Int32) then fX12_isLetter_24 σ else fX12_isLetter_12 σ p0))
def fX12_isLetter (σ : zS) (p0 : Int32) : Option Int32 := oB (gX12_isLetter σ p0) (fun r => oA (r = 0 ∨ r = 1) (some r))
set_option maxRecDepth 100000 in
theorem wX12_isLetter {Γ : zG} (E : zE Γ cX12_isLetter RX12 1 { frames := 0, cells := 0, slots := 0, locals := 0 }) (σ : zS) (p0 : Int32) {R : Int32} (h : gX12_isLetter σ p0 = some R) (K : zRet Γ cX12_isLetter 1 0 0 (some (.int R)) σ) : zJ Γ 1 0 0 σ 0 [(0, .int p0)] [] := by
  unfold gX12_isLetter at h
  refine zj_iload_n E dX12_isLetter_0 rfl 0 rfl ?_
  refine zj_bipush (v := 65) E dX12_isLetter_1 (by decide) ?_
  refine zj_icmp_lt (tgt := 12) E dX12_isLetter_3 (by decide) h (fun h => ?_) (fun h => ?_)
  · refine zj_lv [0] rfl ?_
    exact wX12_isLetter_12 E _ _ h K
  · refine zj_iload_n E dX12_isLetter_6 rfl 0 rfl ?_
    refine zj_bipush (v := 90) E dX12_isLetter_7 (by decide) ?_
    refine zj_icmp_le (tgt := 24) E dX12_isLetter_9 (by decide) h (fun h => ?_) (fun h => ?_)
    · refine zj_lv [] rfl ?_
      exact wX12_isLetter_24 E _ h K
    · refine zj_lv [0] rfl ?_
      exact wX12_isLetter_12 E _ _ h K
set_option maxRecDepth 100000 in
theorem kX12_isLetter (l : Launch) (D : va_G) (cs : zCs) (z0 : Nat) (σ : zS) {p0 : Int32} {r : Int32} (h : fX12_isLetter σ p0 = some r) : zM l D cs z0 yX12_isLetter cX12_isLetter 1 (some .boolean) { frames := 0, cells := 0, slots := 0, locals := 0 } [.int p0] σ (some (.int r)) σ 0 0 := by
  obtain ⟨r0, h0, h⟩ := oB_some h
  obtain ⟨hz, h⟩ := oA_some h
  cases h
  exact zM_of (by decide) rfl (Or.inr ⟨rfl, hz⟩) (Nat.le_of_ble_eq_true rfl) rfl (fun Γ e1 e2 e3 e4 E hN K => wX12_isLetter E σ _ h0 K)
/-! X12_append -/
def jX12_append_2 (Γ : zG) (l0 : Nat) (l2 : Int32) : (Int32 × zS) → Prop := fun x => zJ Γ 4 0 0 x.2 2 [(0, .ref l0), (2, .int l2), (3, .int x.1)] []
def eX12_append_2 (Γ : zG) (l0 : Nat) (l2 : Int32) : zS → Prop := fun b => zJ Γ 4 0 0 b 38 [] []
def bX12_append_2 (l0 : Nat) (l2 : Int32) (l3 : Int32) (σ : zS) : Option ((Int32 × zS) ⊕ zS) := (if l2 ≤ l3 then some (.inr σ) else oGR σ 12 l0 15 (fun a1 => oGI σ 12 l0 14 (fun x1 => oGR σ 12 l0 2 (fun a2 => oLd σ 20 a2 l3 (fun x2 => oSt σ 20 a1 x1 (x2.toInt8.toInt32) (fun σ1 => oGI σ1 12 l0 14 (fun x3 => oPI σ1 12 l0 14 (x3 + (1 : Int32)) (fun σ2 => oL (l3 + 1) (fun v1 => some (.inl (v1, σ2)))))))))))
set_option maxRecDepth 100000 in
theorem wX12_append_L2 {Γ : zG} (E : zE Γ cX12_append RX12 4 { frames := 0, cells := 0, slots := 0, locals := 0 }) (l0 : Nat) (l2 : Int32) : ∀ x R, (fun x => bX12_append_2 l0 l2 x.1 x.2) x = some R → Sum.elim (jX12_append_2 Γ l0 l2) (eX12_append_2 Γ l0 l2) R → jX12_append_2 Γ l0 l2 x := by
  intro x R h K
  obtain ⟨l3, σ⟩ := x
  have h : bX12_append_2 l0 l2 l3 σ = some R := h
  show zJ Γ 4 0 0 σ 2 [(0, .ref l0), (2, .int l2), (3, .int l3)] []
  unfold bX12_append_2 at h
  refine zj_iload_n E dX12_append_2 rfl 2 rfl ?_
  refine zj_iload_n E dX12_append_3 rfl 1 rfl ?_
  refine zj_icmp_ge (tgt := 38) E dX12_append_4 (by decide) h (fun h => ?_) (fun h => ?_)
  · have e9 := Option.some.inj h
    subst e9
    refine zj_lv [] rfl ?_
    exact K
  · refine zj_aload_n E dX12_append_7 rfl 0 rfl ?_
    refine zs_getR E zc11 15 (by decide) zw_6_11 rfl dX12_append_8 h (fun a1 h => ?_)
    refine zj_aload_n E dX12_append_11 rfl 0 rfl ?_
    refine zs_getI E zc11 14 (by decide) zw_19_12 rfl dX12_append_12 h (fun x1 h => ?_)
    refine zj_aload_n E dX12_append_15 rfl 0 rfl ?_
    refine zs_getR E zc11 2 (by decide) zw_6_3 rfl dX12_append_16 h (fun a2 h => ?_)
    refine zj_iload_n E dX12_append_19 rfl 2 rfl ?_
    refine zs_bald E dX12_append_20 h (fun x2 h => ?_)
    refine zs_bast E dX12_append_21 h (fun σ1 h => ?_)
    refine zj_aload_n E dX12_append_22 rfl 0 rfl ?_
    refine zj_dup E dX12_append_23 rfl ?_
    refine zs_getI E zc11 14 (by decide) zw_19_12 rfl dX12_append_24 h (fun x3 h => ?_)
    refine zj_iconst (v := 1) E dX12_append_27 (by decide) ?_
    refine zj_iadd E dX12_append_28 ?_
    refine zs_putI E zc11 14 (by decide) zw_19_12 rfl rfl dX12_append_29 h (fun σ2 h => ?_)
    refine zs_iinc (lv2 := fun v1 => [(3, .int v1), (0, .ref l0), (2, .int l2)]) E dX12_append_32 2 rfl (by decide) (by decide) (fun _ => rfl) h (fun v1 h => ?_)
    refine zj_goto (tgt := 2) E dX12_append_35 (by decide) ?_
    have e9 := Option.some.inj h
    subst e9
    refine zj_lv [1, 2, 0] rfl ?_
    exact K
def fX12_append (σ : zS) (p0 : Nat) (p1 : Int32) (p2 : Int32) : Option zS := oB (zloop zF (fun x => bX12_append_2 p0 p2 x.1 x.2) (p1, σ)) (fun b1 => (fun σ3 => some σ3) b1)
set_option maxRecDepth 100000 in
theorem wX12_append {Γ : zG} (E : zE Γ cX12_append RX12 4 { frames := 0, cells := 0, slots := 0, locals := 0 }) (σ : zS) (p0 : Nat) (p1 : Int32) (p2 : Int32) {R : zS} (h : fX12_append σ p0 p1 p2 = some R) (K : zRet Γ cX12_append 4 0 0 (none) R) : zJ Γ 4 0 0 σ 0 [(0, .ref p0), (1, .int p1), (2, .int p2)] [] := by
  unfold fX12_append at h
  refine zj_iload_n E dX12_append_0 rfl 1 rfl ?_
  refine zj_istore_n (lv2 := [(3, .int p1), (0, .ref p0), (1, .int p1), (2, .int p2)]) E dX12_append_1 rfl (by decide) rfl ?_
  obtain ⟨b1, hb1, h⟩ := oB_some h
  refine zj_lv [1, 3, 0] rfl ?_
  refine zj_loop (wX12_append_L2 E p0 p2) zF (p1, σ) b1 hb1 ?_
  obtain ⟨σ3, rfl⟩ : ∃ z, z = b1 := ⟨_, rfl⟩
  try dsimp only at h
  show zJ Γ 4 0 0 σ3 38 [] []
  have e9 := Option.some.inj h
  subst e9
  exact (show zRet Γ cX12_append 4 0 0 (none) σ3 from K) _ _ dX12_append_38
set_option maxRecDepth 100000 in
theorem kX12_append (l : Launch) (D : va_G) (cs : zCs) (z0 : Nat) (σ : zS) {p0 : Nat} {p1 : Int32} {p2 : Int32}  {σ' : zS} (h : fX12_append σ p0 p1 p2 = some σ') : zM l D cs z0 yX12_append cX12_append 4 none { frames := 0, cells := 0, slots := 0, locals := 0 } [.ref p0, .int p1, .int p2] σ none σ' 0 0 := by
  exact zM_of (by decide) rfl rfl (Nat.le_of_ble_eq_true rfl) rfl (fun Γ e1 e2 e3 e4 E hN K => wX12_append E σ _ _ _ h K)
/-! X12_region -/
def fX12_region (σ : zS) (p0 : Nat) (p1 : Int32) (p2 : Int32) (p3 : Int32) : Option Int32 := oGR σ 12 p0 5 (fun a1 => oLd σ 21 a1 ((((48 : Int32) * p1) + ((6 : Int32) * p2)) + p3) (fun x1 => some x1))
set_option maxRecDepth 100000 in
theorem wX12_region {Γ : zG} (E : zE Γ cX12_region RX12 4 { frames := 0, cells := 0, slots := 0, locals := 0 }) (σ : zS) (p0 : Nat) (p1 : Int32) (p2 : Int32) (p3 : Int32) {R : Int32} (h : fX12_region σ p0 p1 p2 p3 = some R) (K : zRet Γ cX12_region 4 0 0 (some (.int R)) σ) : zJ Γ 4 0 0 σ 0 [(0, .ref p0), (1, .int p1), (2, .int p2), (3, .int p3)] [] := by
  unfold fX12_region at h
  refine zj_aload_n E dX12_region_0 rfl 0 rfl ?_
  refine zs_getR E zc11 5 (by decide) zw_6_6 rfl dX12_region_1 h (fun a1 h => ?_)
  refine zj_bipush (v := 48) E dX12_region_4 (by decide) ?_
  refine zj_iload_n E dX12_region_6 rfl 1 rfl ?_
  refine zj_imul E dX12_region_7 ?_
  refine zj_bipush (v := 6) E dX12_region_8 (by decide) ?_
  refine zj_iload_n E dX12_region_10 rfl 2 rfl ?_
  refine zj_imul E dX12_region_11 ?_
  refine zj_iadd E dX12_region_12 ?_
  refine zj_iload_n E dX12_region_13 rfl 3 rfl ?_
  refine zj_iadd E dX12_region_14 ?_
  refine zs_iald E dX12_region_15 h (fun x1 h => ?_)
  have e9 := Option.some.inj h
  subst e9
  exact (show zRet Γ cX12_region 4 0 0 (some (.int x1)) σ from K) _ _ dX12_region_16
set_option maxRecDepth 100000 in
theorem kX12_region (l : Launch) (D : va_G) (cs : zCs) (z0 : Nat) (σ : zS) {p0 : Nat} {p1 : Int32} {p2 : Int32} {p3 : Int32} {r : Int32} (h : fX12_region σ p0 p1 p2 p3 = some r) : zM l D cs z0 yX12_region cX12_region 4 (some .int) { frames := 0, cells := 0, slots := 0, locals := 0 } [.ref p0, .int p1, .int p2, .int p3] σ (some (.int r)) σ 0 0 := by
  exact zM_of (by decide) rfl (Or.inl rfl) (Nat.le_of_ble_eq_true rfl) rfl (fun Γ e1 e2 e3 e4 E hN K => wX12_region E σ _ _ _ _ h K)
/-! X12_takeHead -/
def fX12_takeHead_33 (σ : zS) (l0 : Nat) (l1 : Int32) (l3 : Int32) (s0 : Int32) : Option (Int32 × zS) := (if l3 < (1 : Int32) then some (0, σ) else (if (16 : Int32) < l3 then some (0, σ) else (if s0 < (1 : Int32) then some (0, σ) else (if (16 : Int32) < s0 then some (0, σ) else oA (zk σ l0 = 12) (oB (fX12_byteAt σ l0 (l1 + (8 : Int32))) (fun x1 => (if x1 = (8 : Int32) then oA (zk σ l0 = 12) (oB (fX12_byteAt σ l0 (l1 + (9 : Int32))) (fun x2 => (if x2 = (6 : Int32) then oA (zk σ l0 = 12) (oB (fX12_byteAt σ l0 (l1 + (10 : Int32))) (fun x3 => (if x3 = 0 then oA (zk σ l0 = 12) (oB (fX12_byteAt σ l0 (l1 + (11 : Int32))) (fun x4 => (if x4 = 0 then oA (zk σ l0 = 12) (oB (fX12_byteAt σ l0 (l1 + (12 : Int32))) (fun x5 => (if x5 = 0 then oGR σ 12 l0 4 (fun a1 => oSt σ 21 a1 6 1 (fun σ1 => oGR σ1 12 l0 4 (fun a2 => oSt σ1 21 a2 7 l3 (fun σ2 => oGR σ2 12 l0 4 (fun a3 => oSt σ2 21 a3 8 s0 (fun σ3 => oGR σ3 12 l0 4 (fun a4 => oSt σ3 21 a4 9 0 (fun σ4 => oGR σ4 12 l0 4 (fun a5 => oSt σ4 21 a5 10 0 (fun σ5 => oGR σ5 12 l0 4 (fun a6 => oSt σ5 21 a6 11 0 (fun σ6 => some (1, σ6))))))))))))) else some (0, σ)))) else some (0, σ)))) else some (0, σ)))) else some (0, σ)))) else some (0, σ))))))))
set_option maxRecDepth 100000 in
theorem wX12_takeHead_33 {Γ : zG} (E : zE Γ cX12_takeHead RX12 5 { frames := 2, cells := 0, slots := 0, locals := 42 }) (σ : zS) (l0 : Nat) (l1 : Int32) (l3 : Int32) (s0 : Int32) {R : (Int32 × zS)} (h : fX12_takeHead_33 σ l0 l1 l3 s0 = some R) (K : zRet Γ cX12_takeHead 5 0 0 (some (.int R.1)) R.2) : zJ Γ 5 0 0 σ 33 [(0, .ref l0), (1, .int l1), (3, .int l3)] [.int s0] := by
  unfold fX12_takeHead_33 at h
  refine zj_istore (lv2 := [(4, .int s0), (0, .ref l0), (1, .int l1), (3, .int l3)]) E dX12_takeHead_33 (by decide) rfl ?_
  refine zj_iload_n E dX12_takeHead_35 rfl 3 rfl ?_
  refine zj_iconst (v := 1) E dX12_takeHead_36 (by decide) ?_
  refine zj_icmp_lt (tgt := 118) E dX12_takeHead_37 (by decide) h (fun h => ?_) (fun h => ?_)
  · refine zj_iconst (v := 0) E dX12_takeHead_118 (by decide) ?_
    have e9 := Option.some.inj h
    subst e9
    exact (show zRet Γ cX12_takeHead 5 0 0 (some (.int 0)) σ from K) _ _ dX12_takeHead_119
  · refine zj_iload_n E dX12_takeHead_40 rfl 3 rfl ?_
    refine zj_bipush (v := 16) E dX12_takeHead_41 (by decide) ?_
    refine zj_icmp_gt (tgt := 118) E dX12_takeHead_43 (by decide) h (fun h => ?_) (fun h => ?_)
    · refine zj_iconst (v := 0) E dX12_takeHead_118 (by decide) ?_
      have e9 := Option.some.inj h
      subst e9
      exact (show zRet Γ cX12_takeHead 5 0 0 (some (.int 0)) σ from K) _ _ dX12_takeHead_119
    · refine zj_iload E dX12_takeHead_46 0 rfl ?_
      refine zj_iconst (v := 1) E dX12_takeHead_48 (by decide) ?_
      refine zj_icmp_lt (tgt := 118) E dX12_takeHead_49 (by decide) h (fun h => ?_) (fun h => ?_)
      · refine zj_iconst (v := 0) E dX12_takeHead_118 (by decide) ?_
        have e9 := Option.some.inj h
        subst e9
        exact (show zRet Γ cX12_takeHead 5 0 0 (some (.int 0)) σ from K) _ _ dX12_takeHead_119
      · refine zj_iload E dX12_takeHead_52 0 rfl ?_
        refine zj_bipush (v := 16) E dX12_takeHead_54 (by decide) ?_
        refine zj_icmp_gt (tgt := 118) E dX12_takeHead_56 (by decide) h (fun h => ?_) (fun h => ?_)
        · refine zj_iconst (v := 0) E dX12_takeHead_118 (by decide) ?_
          have e9 := Option.some.inj h
          subst e9
          exact (show zRet Γ cX12_takeHead 5 0 0 (some (.int 0)) σ from K) _ _ dX12_takeHead_119
        · refine zj_aload_n E dX12_takeHead_59 rfl 1 rfl ?_
          refine zj_iload_n E dX12_takeHead_60 rfl 2 rfl ?_
          refine zj_bipush (v := 8) E dX12_takeHead_61 (by decide) ?_
          refine zj_iadd E dX12_takeHead_63 ?_
          obtain ⟨hk, h⟩ := oA_some h
          obtain ⟨x1, hc, h⟩ := oB_some h
          refine zs_callV (As := [.int (l1 + (8 : Int32))]) (rest := []) E zc11 zyX12_byteAt zw_18_7 (kX12_byteAt _ _ _ _ _ hc) rfl rfl hk rfl ⟨by decide, by decide⟩ ⟨by decide, by decide⟩ (Nat.le_of_ble_eq_true rfl) dX12_takeHead_64 rfl (show zJ Γ 5 0 0 σ 67 [(4, .int s0), (0, .ref l0), (1, .int l1), (3, .int l3)] [.int x1] from ?_)
          refine zj_bipush (v := 8) E dX12_takeHead_67 (by decide) ?_
          refine zj_icmp_ne (tgt := 118) E dX12_takeHead_69 (by decide) h (fun h => ?_) (fun h => ?_)
          · refine zj_iconst (v := 0) E dX12_takeHead_118 (by decide) ?_
            have e9 := Option.some.inj h
            subst e9
            exact (show zRet Γ cX12_takeHead 5 0 0 (some (.int 0)) σ from K) _ _ dX12_takeHead_119
          · refine zj_aload_n E dX12_takeHead_72 rfl 1 rfl ?_
            refine zj_iload_n E dX12_takeHead_73 rfl 2 rfl ?_
            refine zj_bipush (v := 9) E dX12_takeHead_74 (by decide) ?_
            refine zj_iadd E dX12_takeHead_76 ?_
            obtain ⟨hk, h⟩ := oA_some h
            obtain ⟨x2, hc, h⟩ := oB_some h
            refine zs_callV (As := [.int (l1 + (9 : Int32))]) (rest := []) E zc11 zyX12_byteAt zw_18_7 (kX12_byteAt _ _ _ _ _ hc) rfl rfl hk rfl ⟨by decide, by decide⟩ ⟨by decide, by decide⟩ (Nat.le_of_ble_eq_true rfl) dX12_takeHead_77 rfl (show zJ Γ 5 0 0 σ 80 [(4, .int s0), (0, .ref l0), (1, .int l1), (3, .int l3)] [.int x2] from ?_)
            refine zj_bipush (v := 6) E dX12_takeHead_80 (by decide) ?_
            refine zj_icmp_ne (tgt := 118) E dX12_takeHead_82 (by decide) h (fun h => ?_) (fun h => ?_)
            · refine zj_iconst (v := 0) E dX12_takeHead_118 (by decide) ?_
              have e9 := Option.some.inj h
              subst e9
              exact (show zRet Γ cX12_takeHead 5 0 0 (some (.int 0)) σ from K) _ _ dX12_takeHead_119
            · refine zj_aload_n E dX12_takeHead_85 rfl 1 rfl ?_
              refine zj_iload_n E dX12_takeHead_86 rfl 2 rfl ?_
              refine zj_bipush (v := 10) E dX12_takeHead_87 (by decide) ?_
              refine zj_iadd E dX12_takeHead_89 ?_
              obtain ⟨hk, h⟩ := oA_some h
              obtain ⟨x3, hc, h⟩ := oB_some h
              refine zs_callV (As := [.int (l1 + (10 : Int32))]) (rest := []) E zc11 zyX12_byteAt zw_18_7 (kX12_byteAt _ _ _ _ _ hc) rfl rfl hk rfl ⟨by decide, by decide⟩ ⟨by decide, by decide⟩ (Nat.le_of_ble_eq_true rfl) dX12_takeHead_90 rfl (show zJ Γ 5 0 0 σ 93 [(4, .int s0), (0, .ref l0), (1, .int l1), (3, .int l3)] [.int x3] from ?_)
              refine zj_if_ne (tgt := 118) E dX12_takeHead_93 (by decide) h (fun h => ?_) (fun h => ?_)
              · refine zj_iconst (v := 0) E dX12_takeHead_118 (by decide) ?_
                have e9 := Option.some.inj h
                subst e9
                exact (show zRet Γ cX12_takeHead 5 0 0 (some (.int 0)) σ from K) _ _ dX12_takeHead_119
              · refine zj_aload_n E dX12_takeHead_96 rfl 1 rfl ?_
                refine zj_iload_n E dX12_takeHead_97 rfl 2 rfl ?_
                refine zj_bipush (v := 11) E dX12_takeHead_98 (by decide) ?_
                refine zj_iadd E dX12_takeHead_100 ?_
                obtain ⟨hk, h⟩ := oA_some h
                obtain ⟨x4, hc, h⟩ := oB_some h
                refine zs_callV (As := [.int (l1 + (11 : Int32))]) (rest := []) E zc11 zyX12_byteAt zw_18_7 (kX12_byteAt _ _ _ _ _ hc) rfl rfl hk rfl ⟨by decide, by decide⟩ ⟨by decide, by decide⟩ (Nat.le_of_ble_eq_true rfl) dX12_takeHead_101 rfl (show zJ Γ 5 0 0 σ 104 [(4, .int s0), (0, .ref l0), (1, .int l1), (3, .int l3)] [.int x4] from ?_)
                refine zj_if_ne (tgt := 118) E dX12_takeHead_104 (by decide) h (fun h => ?_) (fun h => ?_)
                · refine zj_iconst (v := 0) E dX12_takeHead_118 (by decide) ?_
                  have e9 := Option.some.inj h
                  subst e9
                  exact (show zRet Γ cX12_takeHead 5 0 0 (some (.int 0)) σ from K) _ _ dX12_takeHead_119
                · refine zj_aload_n E dX12_takeHead_107 rfl 1 rfl ?_
                  refine zj_iload_n E dX12_takeHead_108 rfl 2 rfl ?_
                  refine zj_bipush (v := 12) E dX12_takeHead_109 (by decide) ?_
                  refine zj_iadd E dX12_takeHead_111 ?_
                  obtain ⟨hk, h⟩ := oA_some h
                  obtain ⟨x5, hc, h⟩ := oB_some h
                  refine zs_callV (As := [.int (l1 + (12 : Int32))]) (rest := []) E zc11 zyX12_byteAt zw_18_7 (kX12_byteAt _ _ _ _ _ hc) rfl rfl hk rfl ⟨by decide, by decide⟩ ⟨by decide, by decide⟩ (Nat.le_of_ble_eq_true rfl) dX12_takeHead_112 rfl (show zJ Γ 5 0 0 σ 115 [(4, .int s0), (0, .ref l0), (1, .int l1), (3, .int l3)] [.int x5] from ?_)
                  refine zj_if_eq (tgt := 120) E dX12_takeHead_115 (by decide) h (fun h => ?_) (fun h => ?_)
                  · refine zj_aload_n E dX12_takeHead_120 rfl 1 rfl ?_
                    refine zs_getR E zc11 4 (by decide) zw_6_5 rfl dX12_takeHead_121 h (fun a1 h => ?_)
                    refine zj_bipush (v := 6) E dX12_takeHead_124 (by decide) ?_
                    refine zj_iconst (v := 1) E dX12_takeHead_126 (by decide) ?_
                    refine zs_iast E dX12_takeHead_127 h (fun σ1 h => ?_)
                    refine zj_aload_n E dX12_takeHead_128 rfl 1 rfl ?_
                    refine zs_getR E zc11 4 (by decide) zw_6_5 rfl dX12_takeHead_129 h (fun a2 h => ?_)
                    refine zj_bipush (v := 7) E dX12_takeHead_132 (by decide) ?_
                    refine zj_iload_n E dX12_takeHead_134 rfl 3 rfl ?_
                    refine zs_iast E dX12_takeHead_135 h (fun σ2 h => ?_)
                    refine zj_aload_n E dX12_takeHead_136 rfl 1 rfl ?_
                    refine zs_getR E zc11 4 (by decide) zw_6_5 rfl dX12_takeHead_137 h (fun a3 h => ?_)
                    refine zj_bipush (v := 8) E dX12_takeHead_140 (by decide) ?_
                    refine zj_iload E dX12_takeHead_142 0 rfl ?_
                    refine zs_iast E dX12_takeHead_144 h (fun σ3 h => ?_)
                    refine zj_aload_n E dX12_takeHead_145 rfl 1 rfl ?_
                    refine zs_getR E zc11 4 (by decide) zw_6_5 rfl dX12_takeHead_146 h (fun a4 h => ?_)
                    refine zj_bipush (v := 9) E dX12_takeHead_149 (by decide) ?_
                    refine zj_iconst (v := 0) E dX12_takeHead_151 (by decide) ?_
                    refine zs_iast E dX12_takeHead_152 h (fun σ4 h => ?_)
                    refine zj_aload_n E dX12_takeHead_153 rfl 1 rfl ?_
                    refine zs_getR E zc11 4 (by decide) zw_6_5 rfl dX12_takeHead_154 h (fun a5 h => ?_)
                    refine zj_bipush (v := 10) E dX12_takeHead_157 (by decide) ?_
                    refine zj_iconst (v := 0) E dX12_takeHead_159 (by decide) ?_
                    refine zs_iast E dX12_takeHead_160 h (fun σ5 h => ?_)
                    refine zj_aload_n E dX12_takeHead_161 rfl 1 rfl ?_
                    refine zs_getR E zc11 4 (by decide) zw_6_5 rfl dX12_takeHead_162 h (fun a6 h => ?_)
                    refine zj_bipush (v := 11) E dX12_takeHead_165 (by decide) ?_
                    refine zj_iconst (v := 0) E dX12_takeHead_167 (by decide) ?_
                    refine zs_iast E dX12_takeHead_168 h (fun σ6 h => ?_)
                    refine zj_iconst (v := 1) E dX12_takeHead_169 (by decide) ?_
                    have e9 := Option.some.inj h
                    subst e9
                    exact (show zRet Γ cX12_takeHead 5 0 0 (some (.int 1)) σ6 from K) _ _ dX12_takeHead_170
                  · refine zj_iconst (v := 0) E dX12_takeHead_118 (by decide) ?_
                    have e9 := Option.some.inj h
                    subst e9
                    exact (show zRet Γ cX12_takeHead 5 0 0 (some (.int 0)) σ from K) _ _ dX12_takeHead_119
def fX12_takeHead_15 (σ : zS) (l0 : Nat) (l1 : Int32) (l2 : Int32) (s0 : Int32) : Option (Int32 × zS) := (if l2 = (13 : Int32) then oA (zk σ l0 = 12) (oB (fX12_number σ l0 (l1 + (4 : Int32))) (fun x6 => fX12_takeHead_33 σ l0 l1 s0 x6)) else fX12_takeHead_33 σ l0 l1 s0 0)
set_option maxRecDepth 100000 in
theorem wX12_takeHead_15 {Γ : zG} (E : zE Γ cX12_takeHead RX12 5 { frames := 2, cells := 0, slots := 0, locals := 42 }) (σ : zS) (l0 : Nat) (l1 : Int32) (l2 : Int32) (s0 : Int32) {R : (Int32 × zS)} (h : fX12_takeHead_15 σ l0 l1 l2 s0 = some R) (K : zRet Γ cX12_takeHead 5 0 0 (some (.int R.1)) R.2) : zJ Γ 5 0 0 σ 15 [(0, .ref l0), (1, .int l1), (2, .int l2)] [.int s0] := by
  unfold fX12_takeHead_15 at h
  refine zj_istore_n (lv2 := [(3, .int s0), (0, .ref l0), (1, .int l1), (2, .int l2)]) E dX12_takeHead_15 rfl (by decide) rfl ?_
  refine zj_iload_n E dX12_takeHead_16 rfl 3 rfl ?_
  refine zj_bipush (v := 13) E dX12_takeHead_17 (by decide) ?_
  refine zj_icmp_ne (tgt := 32) E dX12_takeHead_19 (by decide) h (fun h => ?_) (fun h => ?_)
  · refine zj_iconst (v := 0) E dX12_takeHead_32 (by decide) ?_
    refine zj_lv [1, 2, 0] rfl ?_
    exact wX12_takeHead_33 E _ _ _ _ _ h K
  · refine zj_aload_n E dX12_takeHead_22 rfl 1 rfl ?_
    refine zj_iload_n E dX12_takeHead_23 rfl 2 rfl ?_
    refine zj_iconst (v := 4) E dX12_takeHead_24 (by decide) ?_
    refine zj_iadd E dX12_takeHead_25 ?_
    obtain ⟨hk, h⟩ := oA_some h
    obtain ⟨x6, hc, h⟩ := oB_some h
    refine zs_callV (As := [.int (l1 + (4 : Int32))]) (rest := []) E zc11 zyX12_number zw_18_14 (kX12_number _ _ _ _ _ hc) rfl rfl hk rfl ⟨by decide, by decide⟩ ⟨by decide, by decide⟩ (Nat.le_of_ble_eq_true rfl) dX12_takeHead_26 rfl (show zJ Γ 5 0 0 σ 29 [(3, .int s0), (0, .ref l0), (1, .int l1), (2, .int l2)] [.int x6] from ?_)
    refine zj_goto (tgt := 33) E dX12_takeHead_29 (by decide) ?_
    refine zj_lv [1, 2, 0] rfl ?_
    exact wX12_takeHead_33 E _ _ _ _ _ h K
def gX12_takeHead (σ : zS) (p0 : Nat) (p1 : Int32) (p2 : Int32) : Option (Int32 × zS) := (if p2 = (13 : Int32) then oA (zk σ p0 = 12) (oB (fX12_number σ p0 p1) (fun x7 => fX12_takeHead_15 σ p0 p1 p2 x7)) else fX12_takeHead_15 σ p0 p1 p2 0)
def fX12_takeHead (σ : zS) (p0 : Nat) (p1 : Int32) (p2 : Int32) : Option (Int32 × zS) := oC (gX12_takeHead σ p0 p1 p2) (fun r s => oA (r = 0 ∨ r = 1) (some (r, s)))
set_option maxRecDepth 100000 in
theorem wX12_takeHead {Γ : zG} (E : zE Γ cX12_takeHead RX12 5 { frames := 2, cells := 0, slots := 0, locals := 42 }) (σ : zS) (p0 : Nat) (p1 : Int32) (p2 : Int32) {R : (Int32 × zS)} (h : gX12_takeHead σ p0 p1 p2 = some R) (K : zRet Γ cX12_takeHead 5 0 0 (some (.int R.1)) R.2) : zJ Γ 5 0 0 σ 0 [(0, .ref p0), (1, .int p1), (2, .int p2)] [] := by
  unfold gX12_takeHead at h
  refine zj_iload_n E dX12_takeHead_0 rfl 2 rfl ?_
  refine zj_bipush (v := 13) E dX12_takeHead_1 (by decide) ?_
  refine zj_icmp_ne (tgt := 14) E dX12_takeHead_3 (by decide) h (fun h => ?_) (fun h => ?_)
  · refine zj_iconst (v := 0) E dX12_takeHead_14 (by decide) ?_
    refine zj_lv [0, 1, 2] rfl ?_
    exact wX12_takeHead_15 E _ _ _ _ _ h K
  · refine zj_aload_n E dX12_takeHead_6 rfl 0 rfl ?_
    refine zj_iload_n E dX12_takeHead_7 rfl 1 rfl ?_
    obtain ⟨hk, h⟩ := oA_some h
    obtain ⟨x7, hc, h⟩ := oB_some h
    refine zs_callV (As := [.int p1]) (rest := []) E zc11 zyX12_number zw_18_14 (kX12_number _ _ _ _ _ hc) rfl rfl hk rfl ⟨by decide, by decide⟩ ⟨by decide, by decide⟩ (Nat.le_of_ble_eq_true rfl) dX12_takeHead_8 rfl (show zJ Γ 5 0 0 σ 11 [(0, .ref p0), (1, .int p1), (2, .int p2)] [.int x7] from ?_)
    refine zj_goto (tgt := 15) E dX12_takeHead_11 (by decide) ?_
    refine zj_lv [0, 1, 2] rfl ?_
    exact wX12_takeHead_15 E _ _ _ _ _ h K
set_option maxRecDepth 100000 in
theorem kX12_takeHead (l : Launch) (D : va_G) (cs : zCs) (z0 : Nat) (σ : zS) {p0 : Nat} {p1 : Int32} {p2 : Int32} {r : Int32} {σ' : zS} (h : fX12_takeHead σ p0 p1 p2 = some (r, σ')) : zM l D cs z0 yX12_takeHead cX12_takeHead 5 (some .boolean) { frames := 2, cells := 0, slots := 0, locals := 42 } [.ref p0, .int p1, .int p2] σ (some (.int r)) σ' 0 0 := by
  obtain ⟨r0, s0, h0, h⟩ := oC_some h
  obtain ⟨hz, h⟩ := oA_some h
  cases h
  exact zM_of (by decide) rfl (Or.inr ⟨rfl, hz⟩) (Nat.le_of_ble_eq_true rfl) rfl (fun Γ e1 e2 e3 e4 E hN K => wX12_takeHead E σ _ _ _ h0 K)
