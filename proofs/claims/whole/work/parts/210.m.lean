/-! X12_lengthBits -/
def fX12_lengthBits_14 (σ : zS) : Option Int32 := some 0
set_option maxRecDepth 100000 in
theorem wX12_lengthBits_14 {Γ : zG} (E : zE Γ cX12_lengthBits RX12 1 { frames := 0, cells := 0, slots := 0, locals := 0 }) (σ : zS) {R : Int32} (h : fX12_lengthBits_14 σ = some R) (K : zRet Γ cX12_lengthBits 1 0 0 (some (.int R)) σ) : zJ Γ 1 0 0 σ 14 [] [] := by
  unfold fX12_lengthBits_14 at h
  refine zj_iconst (v := 0) E dX12_lengthBits_14 (by decide) ?_
  refine zj_goto (tgt := 25) E dX12_lengthBits_15 (by decide) ?_
  have e9 := Option.some.inj h
  subst e9
  exact (show zRet Γ cX12_lengthBits 1 0 0 (some (.int 0)) σ from K) _ _ dX12_lengthBits_25
def fX12_lengthBits (σ : zS) (p0 : Int32) : Option Int32 := (if p0 < (265 : Int32) then fX12_lengthBits_14 σ else (if p0 = (285 : Int32) then fX12_lengthBits_14 σ else some ((p0 - (261 : Int32)) / (4 : Int32))))
set_option maxRecDepth 100000 in
theorem wX12_lengthBits {Γ : zG} (E : zE Γ cX12_lengthBits RX12 1 { frames := 0, cells := 0, slots := 0, locals := 0 }) (σ : zS) (p0 : Int32) {R : Int32} (h : fX12_lengthBits σ p0 = some R) (K : zRet Γ cX12_lengthBits 1 0 0 (some (.int R)) σ) : zJ Γ 1 0 0 σ 0 [(0, .int p0)] [] := by
  unfold fX12_lengthBits at h
  refine zj_iload_n E dX12_lengthBits_0 rfl 0 rfl ?_
  refine zj_sipush (v := 265) E dX12_lengthBits_1 (by decide) ?_
  refine zj_icmp_lt (tgt := 14) E dX12_lengthBits_4 (by decide) h (fun h => ?_) (fun h => ?_)
  · refine zj_lv [] rfl ?_
    exact wX12_lengthBits_14 E _ h K
  · refine zj_iload_n E dX12_lengthBits_7 rfl 0 rfl ?_
    refine zj_sipush (v := 285) E dX12_lengthBits_8 (by decide) ?_
    refine zj_icmp_ne (tgt := 18) E dX12_lengthBits_11 (by decide) h (fun h => ?_) (fun h => ?_)
    · refine zj_iload_n E dX12_lengthBits_18 rfl 0 rfl ?_
      refine zj_sipush (v := 261) E dX12_lengthBits_19 (by decide) ?_
      refine zj_isub E dX12_lengthBits_22 ?_
      refine zj_iconst (v := 4) E dX12_lengthBits_23 (by decide) ?_
      refine zj_idiv E dX12_lengthBits_24 (by decide) ?_
      have e9 := Option.some.inj h
      subst e9
      exact (show zRet Γ cX12_lengthBits 1 0 0 (some (.int ((p0 - (261 : Int32)) / (4 : Int32)))) σ from K) _ _ dX12_lengthBits_25
    · refine zj_lv [] rfl ?_
      exact wX12_lengthBits_14 E _ h K
set_option maxRecDepth 100000 in
theorem kX12_lengthBits (l : Launch) (D : va_G) (cs : zCs) (z0 : Nat) (σ : zS) {p0 : Int32} {r : Int32} (h : fX12_lengthBits σ p0 = some r) : zM l D cs z0 yX12_lengthBits cX12_lengthBits 1 (some .int) { frames := 0, cells := 0, slots := 0, locals := 0 } [.int p0] σ (some (.int r)) σ 0 0 := by
  exact zM_of (by decide) rfl (Or.inl rfl) (Nat.le_of_ble_eq_true rfl) rfl (fun Γ e1 e2 e3 e4 E hN K => wX12_lengthBits E σ _ h K)
/-! X12_lengthBase -/
def jX12_lengthBase_6 (Γ : zG) (σ : zS) (l0 : Int32) : (Int32 × Int32) → Prop := fun x => zJ Γ 3 0 0 σ 6 [(0, .int l0), (1, .int x.1), (2, .int x.2)] []
def eX12_lengthBase_6 (Γ : zG) (σ : zS) (l0 : Int32) : Int32 → Prop := fun b => zJ Γ 3 0 0 σ 26 [(0, .int l0), (1, .int b)] []
def bX12_lengthBase_6 (σ : zS) (l0 : Int32) (l1 : Int32) (l2 : Int32) : Option ((Int32 × Int32) ⊕ Int32) := (if l0 ≤ l2 then some (.inr l1) else oB (fX12_lengthBits σ l2) (fun x1 => oL (l1 + ((1 : Int32) <<< (x1 &&& 31))) (fun v1 => oL (l2 + 1) (fun v2 => some (.inl (v1, v2))))))
set_option maxRecDepth 100000 in
theorem wX12_lengthBase_L6 {Γ : zG} (E : zE Γ cX12_lengthBase RX12 3 { frames := 1, cells := 0, slots := 0, locals := 20 }) (σ : zS) (l0 : Int32) : ∀ x R, (fun x => bX12_lengthBase_6 σ l0 x.1 x.2) x = some R → Sum.elim (jX12_lengthBase_6 Γ σ l0) (eX12_lengthBase_6 Γ σ l0) R → jX12_lengthBase_6 Γ σ l0 x := by
  intro x R h K
  obtain ⟨l1, l2⟩ := x
  have h : bX12_lengthBase_6 σ l0 l1 l2 = some R := h
  show zJ Γ 3 0 0 σ 6 [(0, .int l0), (1, .int l1), (2, .int l2)] []
  unfold bX12_lengthBase_6 at h
  refine zj_iload_n E dX12_lengthBase_6 rfl 2 rfl ?_
  refine zj_iload_n E dX12_lengthBase_7 rfl 0 rfl ?_
  refine zj_icmp_ge (tgt := 26) E dX12_lengthBase_8 (by decide) h (fun h => ?_) (fun h => ?_)
  · have e9 := Option.some.inj h
    subst e9
    refine zj_lv [0, 1] rfl ?_
    exact K
  · refine zj_iload_n E dX12_lengthBase_11 rfl 1 rfl ?_
    refine zj_iconst (v := 1) E dX12_lengthBase_12 (by decide) ?_
    refine zj_iload_n E dX12_lengthBase_13 rfl 2 rfl ?_
    obtain ⟨x1, hc, h⟩ := oB_some h
    refine zs_callS (As := [.int l2]) (rest := [.int 1, .int l1]) E zyX12_lengthBits zw_21_9 (kX12_lengthBits _ _ _ _ _ hc) rfl rfl rfl ⟨by decide, by decide⟩ ⟨by decide, by decide⟩ (Nat.le_of_ble_eq_true rfl) dX12_lengthBase_14 rfl (show zJ Γ 3 0 0 σ 17 [(0, .int l0), (1, .int l1), (2, .int l2)] [.int x1, .int 1, .int l1] from ?_)
    refine zj_ishl E dX12_lengthBase_17 ?_
    refine zj_iadd E dX12_lengthBase_18 ?_
    refine zs_istore_n (lv2 := fun v1 => [(1, .int v1), (0, .int l0), (2, .int l2)]) E dX12_lengthBase_19 rfl (by decide) (fun _ => rfl) h (fun v1 h => ?_)
    refine zs_iinc (lv2 := fun v2 => [(2, .int v2), (1, .int v1), (0, .int l0)]) E dX12_lengthBase_20 2 rfl (by decide) (by decide) (fun _ => rfl) h (fun v2 h => ?_)
    refine zj_goto (tgt := 6) E dX12_lengthBase_23 (by decide) ?_
    have e9 := Option.some.inj h
    subst e9
    refine zj_lv [2, 1, 0] rfl ?_
    exact K
def fX12_lengthBase (σ : zS) (p0 : Int32) : Option Int32 := oB (zloop zF (fun x => bX12_lengthBase_6 σ p0 x.1 x.2) (3, 257)) (fun b1 => (fun v3 => (if p0 = (285 : Int32) then some 258 else some v3)) b1)
set_option maxRecDepth 100000 in
theorem wX12_lengthBase {Γ : zG} (E : zE Γ cX12_lengthBase RX12 3 { frames := 1, cells := 0, slots := 0, locals := 20 }) (σ : zS) (p0 : Int32) {R : Int32} (h : fX12_lengthBase σ p0 = some R) (K : zRet Γ cX12_lengthBase 3 0 0 (some (.int R)) σ) : zJ Γ 3 0 0 σ 0 [(0, .int p0)] [] := by
  unfold fX12_lengthBase at h
  refine zj_iconst (v := 3) E dX12_lengthBase_0 (by decide) ?_
  refine zj_istore_n (lv2 := [(1, .int 3), (0, .int p0)]) E dX12_lengthBase_1 rfl (by decide) rfl ?_
  refine zj_sipush (v := 257) E dX12_lengthBase_2 (by decide) ?_
  refine zj_istore_n (lv2 := [(2, .int 257), (1, .int 3), (0, .int p0)]) E dX12_lengthBase_5 rfl (by decide) rfl ?_
  obtain ⟨b1, hb1, h⟩ := oB_some h
  refine zj_lv [2, 1, 0] rfl ?_
  refine zj_loop (wX12_lengthBase_L6 E σ p0) zF (3, 257) b1 hb1 ?_
  obtain ⟨v3, rfl⟩ : ∃ z, z = b1 := ⟨_, rfl⟩
  try dsimp only at h
  show zJ Γ 3 0 0 σ 26 [(0, .int p0), (1, .int v3)] []
  refine zj_iload_n E dX12_lengthBase_26 rfl 0 rfl ?_
  refine zj_sipush (v := 285) E dX12_lengthBase_27 (by decide) ?_
  refine zj_icmp_ne (tgt := 39) E dX12_lengthBase_30 (by decide) h (fun h => ?_) (fun h => ?_)
  · refine zj_iload_n E dX12_lengthBase_39 rfl 1 rfl ?_
    have e9 := Option.some.inj h
    subst e9
    exact (show zRet Γ cX12_lengthBase 3 0 0 (some (.int v3)) σ from K) _ _ dX12_lengthBase_40
  · refine zj_sipush (v := 258) E dX12_lengthBase_33 (by decide) ?_
    refine zj_goto (tgt := 40) E dX12_lengthBase_36 (by decide) ?_
    have e9 := Option.some.inj h
    subst e9
    exact (show zRet Γ cX12_lengthBase 3 0 0 (some (.int 258)) σ from K) _ _ dX12_lengthBase_40
set_option maxRecDepth 100000 in
theorem kX12_lengthBase (l : Launch) (D : va_G) (cs : zCs) (z0 : Nat) (σ : zS) {p0 : Int32} {r : Int32} (h : fX12_lengthBase σ p0 = some r) : zM l D cs z0 yX12_lengthBase cX12_lengthBase 3 (some .int) { frames := 1, cells := 0, slots := 0, locals := 20 } [.int p0] σ (some (.int r)) σ 0 0 := by
  exact zM_of (by decide) rfl (Or.inl rfl) (Nat.le_of_ble_eq_true rfl) rfl (fun Γ e1 e2 e3 e4 E hN K => wX12_lengthBase E σ _ h K)
/-! X12_distanceBits -/
def fX12_distanceBits (σ : zS) (p0 : Int32) : Option Int32 := (if (4 : Int32) ≤ p0 then some ((p0 - (2 : Int32)) / (2 : Int32)) else some 0)
set_option maxRecDepth 100000 in
theorem wX12_distanceBits {Γ : zG} (E : zE Γ cX12_distanceBits RX12 1 { frames := 0, cells := 0, slots := 0, locals := 0 }) (σ : zS) (p0 : Int32) {R : Int32} (h : fX12_distanceBits σ p0 = some R) (K : zRet Γ cX12_distanceBits 1 0 0 (some (.int R)) σ) : zJ Γ 1 0 0 σ 0 [(0, .int p0)] [] := by
  unfold fX12_distanceBits at h
  refine zj_iload_n E dX12_distanceBits_0 rfl 0 rfl ?_
  refine zj_iconst (v := 4) E dX12_distanceBits_1 (by decide) ?_
  refine zj_icmp_ge (tgt := 9) E dX12_distanceBits_2 (by decide) h (fun h => ?_) (fun h => ?_)
  · refine zj_iload_n E dX12_distanceBits_9 rfl 0 rfl ?_
    refine zj_iconst (v := 2) E dX12_distanceBits_10 (by decide) ?_
    refine zj_isub E dX12_distanceBits_11 ?_
    refine zj_iconst (v := 2) E dX12_distanceBits_12 (by decide) ?_
    refine zj_idiv E dX12_distanceBits_13 (by decide) ?_
    have e9 := Option.some.inj h
    subst e9
    exact (show zRet Γ cX12_distanceBits 1 0 0 (some (.int ((p0 - (2 : Int32)) / (2 : Int32)))) σ from K) _ _ dX12_distanceBits_14
  · refine zj_iconst (v := 0) E dX12_distanceBits_5 (by decide) ?_
    refine zj_goto (tgt := 14) E dX12_distanceBits_6 (by decide) ?_
    have e9 := Option.some.inj h
    subst e9
    exact (show zRet Γ cX12_distanceBits 1 0 0 (some (.int 0)) σ from K) _ _ dX12_distanceBits_14
set_option maxRecDepth 100000 in
theorem kX12_distanceBits (l : Launch) (D : va_G) (cs : zCs) (z0 : Nat) (σ : zS) {p0 : Int32} {r : Int32} (h : fX12_distanceBits σ p0 = some r) : zM l D cs z0 yX12_distanceBits cX12_distanceBits 1 (some .int) { frames := 0, cells := 0, slots := 0, locals := 0 } [.int p0] σ (some (.int r)) σ 0 0 := by
  exact zM_of (by decide) rfl (Or.inl rfl) (Nat.le_of_ble_eq_true rfl) rfl (fun Γ e1 e2 e3 e4 E hN K => wX12_distanceBits E σ _ h K)
/-! X12_distanceBase -/
def jX12_distanceBase_4 (Γ : zG) (σ : zS) (l0 : Int32) : (Int32 × Int32) → Prop := fun x => zJ Γ 3 0 0 σ 4 [(0, .int l0), (1, .int x.1), (2, .int x.2)] []
def eX12_distanceBase_4 (Γ : zG) (σ : zS) (l0 : Int32) : Int32 → Prop := fun b => zJ Γ 3 0 0 σ 24 [(1, .int b)] []
def bX12_distanceBase_4 (σ : zS) (l0 : Int32) (l1 : Int32) (l2 : Int32) : Option ((Int32 × Int32) ⊕ Int32) := (if l0 ≤ l2 then some (.inr l1) else oB (fX12_distanceBits σ l2) (fun x1 => oL (l1 + ((1 : Int32) <<< (x1 &&& 31))) (fun v1 => oL (l2 + 1) (fun v2 => some (.inl (v1, v2))))))
set_option maxRecDepth 100000 in
theorem wX12_distanceBase_L4 {Γ : zG} (E : zE Γ cX12_distanceBase RX12 3 { frames := 1, cells := 0, slots := 0, locals := 20 }) (σ : zS) (l0 : Int32) : ∀ x R, (fun x => bX12_distanceBase_4 σ l0 x.1 x.2) x = some R → Sum.elim (jX12_distanceBase_4 Γ σ l0) (eX12_distanceBase_4 Γ σ l0) R → jX12_distanceBase_4 Γ σ l0 x := by
  intro x R h K
  obtain ⟨l1, l2⟩ := x
  have h : bX12_distanceBase_4 σ l0 l1 l2 = some R := h
  show zJ Γ 3 0 0 σ 4 [(0, .int l0), (1, .int l1), (2, .int l2)] []
  unfold bX12_distanceBase_4 at h
  refine zj_iload_n E dX12_distanceBase_4 rfl 2 rfl ?_
  refine zj_iload_n E dX12_distanceBase_5 rfl 0 rfl ?_
  refine zj_icmp_ge (tgt := 24) E dX12_distanceBase_6 (by decide) h (fun h => ?_) (fun h => ?_)
  · have e9 := Option.some.inj h
    subst e9
    refine zj_lv [1] rfl ?_
    exact K
  · refine zj_iload_n E dX12_distanceBase_9 rfl 1 rfl ?_
    refine zj_iconst (v := 1) E dX12_distanceBase_10 (by decide) ?_
    refine zj_iload_n E dX12_distanceBase_11 rfl 2 rfl ?_
    obtain ⟨x1, hc, h⟩ := oB_some h
    refine zs_callS (As := [.int l2]) (rest := [.int 1, .int l1]) E zyX12_distanceBits zw_21_15 (kX12_distanceBits _ _ _ _ _ hc) rfl rfl rfl ⟨by decide, by decide⟩ ⟨by decide, by decide⟩ (Nat.le_of_ble_eq_true rfl) dX12_distanceBase_12 rfl (show zJ Γ 3 0 0 σ 15 [(0, .int l0), (1, .int l1), (2, .int l2)] [.int x1, .int 1, .int l1] from ?_)
    refine zj_ishl E dX12_distanceBase_15 ?_
    refine zj_iadd E dX12_distanceBase_16 ?_
    refine zs_istore_n (lv2 := fun v1 => [(1, .int v1), (0, .int l0), (2, .int l2)]) E dX12_distanceBase_17 rfl (by decide) (fun _ => rfl) h (fun v1 h => ?_)
    refine zs_iinc (lv2 := fun v2 => [(2, .int v2), (1, .int v1), (0, .int l0)]) E dX12_distanceBase_18 2 rfl (by decide) (by decide) (fun _ => rfl) h (fun v2 h => ?_)
    refine zj_goto (tgt := 4) E dX12_distanceBase_21 (by decide) ?_
    have e9 := Option.some.inj h
    subst e9
    refine zj_lv [2, 1, 0] rfl ?_
    exact K
def fX12_distanceBase (σ : zS) (p0 : Int32) : Option Int32 := oB (zloop zF (fun x => bX12_distanceBase_4 σ p0 x.1 x.2) (1, 0)) (fun b1 => (fun v3 => some v3) b1)
set_option maxRecDepth 100000 in
theorem wX12_distanceBase {Γ : zG} (E : zE Γ cX12_distanceBase RX12 3 { frames := 1, cells := 0, slots := 0, locals := 20 }) (σ : zS) (p0 : Int32) {R : Int32} (h : fX12_distanceBase σ p0 = some R) (K : zRet Γ cX12_distanceBase 3 0 0 (some (.int R)) σ) : zJ Γ 3 0 0 σ 0 [(0, .int p0)] [] := by
  unfold fX12_distanceBase at h
  refine zj_iconst (v := 1) E dX12_distanceBase_0 (by decide) ?_
  refine zj_istore_n (lv2 := [(1, .int 1), (0, .int p0)]) E dX12_distanceBase_1 rfl (by decide) rfl ?_
  refine zj_iconst (v := 0) E dX12_distanceBase_2 (by decide) ?_
  refine zj_istore_n (lv2 := [(2, .int 0), (1, .int 1), (0, .int p0)]) E dX12_distanceBase_3 rfl (by decide) rfl ?_
  obtain ⟨b1, hb1, h⟩ := oB_some h
  refine zj_lv [2, 1, 0] rfl ?_
  refine zj_loop (wX12_distanceBase_L4 E σ p0) zF (1, 0) b1 hb1 ?_
  obtain ⟨v3, rfl⟩ : ∃ z, z = b1 := ⟨_, rfl⟩
  try dsimp only at h
  show zJ Γ 3 0 0 σ 24 [(1, .int v3)] []
  refine zj_iload_n E dX12_distanceBase_24 rfl 0 rfl ?_
  have e9 := Option.some.inj h
  subst e9
  exact (show zRet Γ cX12_distanceBase 3 0 0 (some (.int v3)) σ from K) _ _ dX12_distanceBase_25
set_option maxRecDepth 100000 in
theorem kX12_distanceBase (l : Launch) (D : va_G) (cs : zCs) (z0 : Nat) (σ : zS) {p0 : Int32} {r : Int32} (h : fX12_distanceBase σ p0 = some r) : zM l D cs z0 yX12_distanceBase cX12_distanceBase 3 (some .int) { frames := 1, cells := 0, slots := 0, locals := 20 } [.int p0] σ (some (.int r)) σ 0 0 := by
  exact zM_of (by decide) rfl (Or.inl rfl) (Nat.le_of_ble_eq_true rfl) rfl (fun Γ e1 e2 e3 e4 E hN K => wX12_distanceBase E σ _ h K)
/-! X12_match -/
def fX12_match_38 (σ : zS) (l0 : Nat) : Option zS := oPZ σ 12 l0 18 1 (fun σ3 => some σ3)
set_option maxRecDepth 100000 in
theorem wX12_match_38 {Γ : zG} (E : zE Γ cX12_match RX12 7 { frames := 2, cells := 0, slots := 0, locals := 48 }) (σ : zS) (l0 : Nat) {R : zS} (h : fX12_match_38 σ l0 = some R) (K : zRet Γ cX12_match 7 0 0 (none) R) : zJ Γ 7 0 0 σ 38 [(0, .ref l0)] [] := by
  unfold fX12_match_38 at h
  refine zj_aload_n E dX12_match_38 rfl 0 rfl ?_
  refine zj_iconst (v := 1) E dX12_match_39 (by decide) ?_
  refine zs_putZ E zc11 18 (by decide) zw_19_13 rfl rfl dX12_match_40 h (fun σ3 h => ?_)
  have e9 := Option.some.inj h
  subst e9
  exact (show zRet Γ cX12_match 7 0 0 (none) σ3 from K) _ _ dX12_match_43
def jX12_match_89 (Γ : zG) (l0 : Nat) (l3 : Int32) (l5 : Int32) : (Int32 × zS) → Prop := fun x => zJ Γ 7 0 0 x.2 89 [(0, .ref l0), (3, .int l3), (5, .int l5), (6, .int x.1)] []
def eX12_match_89 (Γ : zG) (l0 : Nat) (l3 : Int32) (l5 : Int32) : zS → Prop := fun b => zJ Γ 7 0 0 b 124 [] []
def bX12_match_89 (l0 : Nat) (l3 : Int32) (l5 : Int32) (l6 : Int32) (σ : zS) : Option ((Int32 × zS) ⊕ zS) := (if l3 ≤ l6 then some (.inr σ) else oGI σ 12 l0 18 (fun x10 => (if x10 = 0 then oGR σ 12 l0 20 (fun a1 => oGI σ 12 l0 19 (fun x11 => oLd σ 20 a1 (x11 - l5) (fun x12 => oA (zk σ l0 = 12) (oB (fX12_emit σ l0 x12) (fun σ6 => oL (l6 + 1) (fun v3 => some (.inl (v3, σ6)))))))) else some (.inr σ))))
set_option maxRecDepth 100000 in
theorem wX12_match_L89 {Γ : zG} (E : zE Γ cX12_match RX12 7 { frames := 2, cells := 0, slots := 0, locals := 48 }) (l0 : Nat) (l3 : Int32) (l5 : Int32) : ∀ x R, (fun x => bX12_match_89 l0 l3 l5 x.1 x.2) x = some R → Sum.elim (jX12_match_89 Γ l0 l3 l5) (eX12_match_89 Γ l0 l3 l5) R → jX12_match_89 Γ l0 l3 l5 x := by
  intro x R h K
  obtain ⟨l6, σ⟩ := x
  have h : bX12_match_89 l0 l3 l5 l6 σ = some R := h
  show zJ Γ 7 0 0 σ 89 [(0, .ref l0), (3, .int l3), (5, .int l5), (6, .int l6)] []
  unfold bX12_match_89 at h
  refine zj_iload E dX12_match_89 3 rfl ?_
  refine zj_iload_n E dX12_match_91 rfl 1 rfl ?_
  refine zj_icmp_ge (tgt := 124) E dX12_match_92 (by decide) h (fun h => ?_) (fun h => ?_)
  · have e9 := Option.some.inj h
    subst e9
    refine zj_lv [] rfl ?_
    exact K
  · refine zj_aload_n E dX12_match_95 rfl 0 rfl ?_
    refine zs_getI E zc11 18 (by decide) zw_19_13 rfl dX12_match_96 h (fun x10 h => ?_)
    refine zj_if_ne (tgt := 124) E dX12_match_99 (by decide) h (fun h => ?_) (fun h => ?_)
    · have e9 := Option.some.inj h
      subst e9
      refine zj_lv [] rfl ?_
      exact K
    · refine zj_aload_n E dX12_match_102 rfl 0 rfl ?_
      refine zj_aload_n E dX12_match_103 rfl 0 rfl ?_
      refine zs_getR E zc11 20 (by decide) zw_6_12 rfl dX12_match_104 h (fun a1 h => ?_)
      refine zj_aload_n E dX12_match_107 rfl 0 rfl ?_
      refine zs_getI E zc11 19 (by decide) zw_19_14 rfl dX12_match_108 h (fun x11 h => ?_)
      refine zj_iload E dX12_match_111 2 rfl ?_
      refine zj_isub E dX12_match_113 ?_
      refine zs_bald E dX12_match_114 h (fun x12 h => ?_)
      obtain ⟨hk, h⟩ := oA_some h
      obtain ⟨σ6, hc, h⟩ := oB_some h
      refine zs_callV (As := [.int x12]) (rest := []) E zc11 zyX12_emit zw_20_5 (kX12_emit _ _ _ _ _ hc) rfl rfl hk rfl ⟨by decide, by decide⟩ ⟨by decide, by decide⟩ (Nat.le_of_ble_eq_true rfl) dX12_match_115 rfl (show zJ Γ 7 0 0 σ6 118 [(0, .ref l0), (3, .int l3), (5, .int l5), (6, .int l6)] [] from ?_)
      refine zs_iinc (lv2 := fun v3 => [(6, .int v3), (0, .ref l0), (3, .int l3), (5, .int l5)]) E dX12_match_118 3 rfl (by decide) (by decide) (fun _ => rfl) h (fun v3 h => ?_)
      refine zj_goto (tgt := 89) E dX12_match_121 (by decide) ?_
      have e9 := Option.some.inj h
      subst e9
      refine zj_lv [1, 2, 3, 0] rfl ?_
      exact K
def fX12_match_83 (σ : zS) (l0 : Nat) (l3 : Int32) (l5 : Int32) (s0 : Int32) (s1 : Nat) : Option zS := oPZ σ 12 s1 18 s0 (fun σ5 => oB (zloop zF (fun x => bX12_match_89 l0 l3 l5 x.1 x.2) (0, σ5)) (fun b1 => (fun σ7 => some σ7) b1))
set_option maxRecDepth 100000 in
theorem wX12_match_83 {Γ : zG} (E : zE Γ cX12_match RX12 7 { frames := 2, cells := 0, slots := 0, locals := 48 }) (σ : zS) (l0 : Nat) (l3 : Int32) (l5 : Int32) (s0 : Int32) (s1 : Nat) {R : zS} (h : fX12_match_83 σ l0 l3 l5 s0 s1 = some R) (K : zRet Γ cX12_match 7 0 0 (none) R) : zJ Γ 7 0 0 σ 83 [(0, .ref l0), (3, .int l3), (5, .int l5)] [.int s0, .ref s1] := by
  unfold fX12_match_83 at h
  refine zs_putZ E zc11 18 (by decide) zw_19_13 rfl rfl dX12_match_83 h (fun σ5 h => ?_)
  refine zj_iconst (v := 0) E dX12_match_86 (by decide) ?_
  refine zj_istore (lv2 := [(6, .int 0), (0, .ref l0), (3, .int l3), (5, .int l5)]) E dX12_match_87 (by decide) rfl ?_
  obtain ⟨b1, hb1, h⟩ := oB_some h
  refine zj_lv [1, 2, 3, 0] rfl ?_
  refine zj_loop (wX12_match_L89 E l0 l3 l5) zF (0, σ5) b1 hb1 ?_
  obtain ⟨σ7, rfl⟩ : ∃ z, z = b1 := ⟨_, rfl⟩
  try dsimp only at h
  show zJ Γ 7 0 0 σ7 124 [] []
  have e9 := Option.some.inj h
  subst e9
  exact (show zRet Γ cX12_match 7 0 0 (none) σ7 from K) _ _ dX12_match_124
def fX12_match_78 (σ : zS) (l0 : Nat) (l3 : Int32) (l5 : Int32) (s0 : Nat) : Option zS := fX12_match_83 σ l0 l3 l5 1 s0
set_option maxRecDepth 100000 in
theorem wX12_match_78 {Γ : zG} (E : zE Γ cX12_match RX12 7 { frames := 2, cells := 0, slots := 0, locals := 48 }) (σ : zS) (l0 : Nat) (l3 : Int32) (l5 : Int32) (s0 : Nat) {R : zS} (h : fX12_match_78 σ l0 l3 l5 s0 = some R) (K : zRet Γ cX12_match 7 0 0 (none) R) : zJ Γ 7 0 0 σ 78 [(0, .ref l0), (3, .int l3), (5, .int l5)] [.ref s0] := by
  unfold fX12_match_78 at h
  refine zj_iconst (v := 1) E dX12_match_78 (by decide) ?_
  refine zj_goto (tgt := 83) E dX12_match_79 (by decide) ?_
  refine zj_lv [0, 1, 2] rfl ?_
  exact wX12_match_83 E _ _ _ _ _ _ h K
def fX12_match (σ : zS) (p0 : Nat) (p1 : Int32) (p2 : Int32) : Option zS := oB (fX12_lengthBase σ p1) (fun x1 => oB (fX12_lengthBits σ p1) (fun x2 => oA (zk σ p0 = 12) (oC (fX12_bits σ p0 x2) (fun x3 σ1 => oL (x1 + x3) (fun v1 => oA (zk σ1 p0 = 12) (oC (fX12_symbol σ1 p0 320 p2) (fun x4 σ2 => oGI σ2 12 p0 18 (fun x5 => (if x5 = 0 then (if x4 ≤ (29 : Int32) then oB (fX12_distanceBase σ2 x4) (fun x6 => oB (fX12_distanceBits σ2 x4) (fun x7 => oA (zk σ2 p0 = 12) (oC (fX12_bits σ2 p0 x7) (fun x8 σ4 => oL (x6 + x8) (fun v2 => oGI σ4 12 p0 18 (fun x9 => (if x9 = 0 then oGI σ4 12 p0 19 (fun x13 => (if v2 ≤ x13 then fX12_match_83 σ4 p0 v1 v2 0 p0 else fX12_match_78 σ4 p0 v1 v2 p0)) else fX12_match_78 σ4 p0 v1 v2 p0))))))) else fX12_match_38 σ2 p0) else fX12_match_38 σ2 p0)))))))))
set_option maxRecDepth 100000 in
theorem wX12_match {Γ : zG} (E : zE Γ cX12_match RX12 7 { frames := 2, cells := 0, slots := 0, locals := 48 }) (σ : zS) (p0 : Nat) (p1 : Int32) (p2 : Int32) {R : zS} (h : fX12_match σ p0 p1 p2 = some R) (K : zRet Γ cX12_match 7 0 0 (none) R) : zJ Γ 7 0 0 σ 0 [(0, .ref p0), (1, .int p1), (2, .int p2)] [] := by
  unfold fX12_match at h
  refine zj_iload_n E dX12_match_0 rfl 1 rfl ?_
  obtain ⟨x1, hc, h⟩ := oB_some h
  refine zs_callS (As := [.int p1]) (rest := []) E zyX12_lengthBase zw_21_6 (kX12_lengthBase _ _ _ _ _ hc) rfl rfl rfl ⟨by decide, by decide⟩ ⟨by decide, by decide⟩ (Nat.le_of_ble_eq_true rfl) dX12_match_1 rfl (show zJ Γ 7 0 0 σ 4 [(0, .ref p0), (1, .int p1), (2, .int p2)] [.int x1] from ?_)
  refine zj_aload_n E dX12_match_4 rfl 0 rfl ?_
  refine zj_iload_n E dX12_match_5 rfl 1 rfl ?_
  obtain ⟨x2, hc, h⟩ := oB_some h
  refine zs_callS (As := [.int p1]) (rest := [.ref p0, .int x1]) E zyX12_lengthBits zw_21_9 (kX12_lengthBits _ _ _ _ _ hc) rfl rfl rfl ⟨by decide, by decide⟩ ⟨by decide, by decide⟩ (Nat.le_of_ble_eq_true rfl) dX12_match_6 rfl (show zJ Γ 7 0 0 σ 9 [(0, .ref p0), (1, .int p1), (2, .int p2)] [.int x2, .ref p0, .int x1] from ?_)
  obtain ⟨hk, h⟩ := oA_some h
  obtain ⟨x3, σ1, hc, h⟩ := oC_some h
  refine zs_callV (As := [.int x2]) (rest := [.int x1]) E zc11 zyX12_bits zw_19_16 (kX12_bits _ _ _ _ _ hc) rfl rfl hk rfl ⟨by decide, by decide⟩ ⟨by decide, by decide⟩ (Nat.le_of_ble_eq_true rfl) dX12_match_9 rfl (show zJ Γ 7 0 0 σ1 12 [(0, .ref p0), (1, .int p1), (2, .int p2)] [.int x3, .int x1] from ?_)
  refine zj_iadd E dX12_match_12 ?_
  refine zs_istore_n (lv2 := fun v1 => [(3, .int v1), (0, .ref p0), (1, .int p1), (2, .int p2)]) E dX12_match_13 rfl (by decide) (fun _ => rfl) h (fun v1 h => ?_)
  refine zj_aload_n E dX12_match_14 rfl 1 rfl ?_
  refine zj_sipush (v := 320) E dX12_match_15 (by decide) ?_
  refine zj_iload_n E dX12_match_18 rfl 3 rfl ?_
  obtain ⟨hk, h⟩ := oA_some h
  obtain ⟨x4, σ2, hc, h⟩ := oC_some h
  refine zs_callV (As := [.int 320, .int p2]) (rest := []) E zc11 zyX12_symbol zw_20_22 (kX12_symbol _ _ _ _ _ hc) rfl rfl hk rfl ⟨by decide, by decide⟩ ⟨by decide, by decide⟩ (Nat.le_of_ble_eq_true rfl) dX12_match_19 rfl (show zJ Γ 7 0 0 σ2 22 [(3, .int v1), (0, .ref p0), (1, .int p1), (2, .int p2)] [.int x4] from ?_)
  refine zj_istore (lv2 := [(4, .int x4), (3, .int v1), (0, .ref p0), (1, .int p1), (2, .int p2)]) E dX12_match_22 (by decide) rfl ?_
  refine zj_aload_n E dX12_match_24 rfl 2 rfl ?_
  refine zs_getI E zc11 18 (by decide) zw_19_13 rfl dX12_match_25 h (fun x5 h => ?_)
  refine zj_if_ne (tgt := 38) E dX12_match_28 (by decide) h (fun h => ?_) (fun h => ?_)
  · refine zj_lv [2] rfl ?_
    exact wX12_match_38 E _ _ h K
  · refine zj_iload E dX12_match_31 0 rfl ?_
    refine zj_bipush (v := 29) E dX12_match_33 (by decide) ?_
    refine zj_icmp_le (tgt := 44) E dX12_match_35 (by decide) h (fun h => ?_) (fun h => ?_)
    · refine zj_iload E dX12_match_44 0 rfl ?_
      obtain ⟨x6, hc, h⟩ := oB_some h
      refine zs_callS (As := [.int x4]) (rest := []) E zyX12_distanceBase zw_21_12 (kX12_distanceBase _ _ _ _ _ hc) rfl rfl rfl ⟨by decide, by decide⟩ ⟨by decide, by decide⟩ (Nat.le_of_ble_eq_true rfl) dX12_match_46 rfl (show zJ Γ 7 0 0 σ2 49 [(4, .int x4), (3, .int v1), (0, .ref p0), (1, .int p1), (2, .int p2)] [.int x6] from ?_)
      refine zj_aload_n E dX12_match_49 rfl 2 rfl ?_
      refine zj_iload E dX12_match_50 0 rfl ?_
      obtain ⟨x7, hc, h⟩ := oB_some h
      refine zs_callS (As := [.int x4]) (rest := [.ref p0, .int x6]) E zyX12_distanceBits zw_21_15 (kX12_distanceBits _ _ _ _ _ hc) rfl rfl rfl ⟨by decide, by decide⟩ ⟨by decide, by decide⟩ (Nat.le_of_ble_eq_true rfl) dX12_match_52 rfl (show zJ Γ 7 0 0 σ2 55 [(4, .int x4), (3, .int v1), (0, .ref p0), (1, .int p1), (2, .int p2)] [.int x7, .ref p0, .int x6] from ?_)
      obtain ⟨hk, h⟩ := oA_some h
      obtain ⟨x8, σ4, hc, h⟩ := oC_some h
      refine zs_callV (As := [.int x7]) (rest := [.int x6]) E zc11 zyX12_bits zw_19_16 (kX12_bits _ _ _ _ _ hc) rfl rfl hk rfl ⟨by decide, by decide⟩ ⟨by decide, by decide⟩ (Nat.le_of_ble_eq_true rfl) dX12_match_55 rfl (show zJ Γ 7 0 0 σ4 58 [(4, .int x4), (3, .int v1), (0, .ref p0), (1, .int p1), (2, .int p2)] [.int x8, .int x6] from ?_)
      refine zj_iadd E dX12_match_58 ?_
      refine zs_istore (lv2 := fun v2 => [(5, .int v2), (4, .int x4), (3, .int v1), (0, .ref p0), (1, .int p1), (2, .int p2)]) E dX12_match_59 (by decide) (fun _ => rfl) h (fun v2 h => ?_)
      refine zj_aload_n E dX12_match_61 rfl 3 rfl ?_
      refine zj_aload_n E dX12_match_62 rfl 3 rfl ?_
      refine zs_getI E zc11 18 (by decide) zw_19_13 rfl dX12_match_63 h (fun x9 h => ?_)
      refine zj_if_ne (tgt := 78) E dX12_match_66 (by decide) h (fun h => ?_) (fun h => ?_)
      · refine zj_lv [3, 2, 0] rfl ?_
        exact wX12_match_78 E _ _ _ _ _ h K
      · refine zj_iload E dX12_match_69 0 rfl ?_
        refine zj_aload_n E dX12_match_71 rfl 3 rfl ?_
        refine zs_getI E zc11 19 (by decide) zw_19_14 rfl dX12_match_72 h (fun x13 h => ?_)
        refine zj_icmp_le (tgt := 82) E dX12_match_75 (by decide) h (fun h => ?_) (fun h => ?_)
        · refine zj_iconst (v := 0) E dX12_match_82 (by decide) ?_
          refine zj_lv [3, 2, 0] rfl ?_
          exact wX12_match_83 E _ _ _ _ _ _ h K
        · refine zj_lv [3, 2, 0] rfl ?_
          exact wX12_match_78 E _ _ _ _ _ h K
    · refine zj_lv [2] rfl ?_
      exact wX12_match_38 E _ _ h K
set_option maxRecDepth 100000 in
theorem kX12_match (l : Launch) (D : va_G) (cs : zCs) (z0 : Nat) (σ : zS) {p0 : Nat} {p1 : Int32} {p2 : Int32}  {σ' : zS} (h : fX12_match σ p0 p1 p2 = some σ') : zM l D cs z0 yX12_match cX12_match 7 none { frames := 2, cells := 0, slots := 0, locals := 48 } [.ref p0, .int p1, .int p2] σ none σ' 0 0 := by
  exact zM_of (by decide) rfl rfl (Nat.le_of_ble_eq_true rfl) rfl (fun Γ e1 e2 e3 e4 E hN K => wX12_match E σ _ _ _ h K)
/-! X12_coded -/
def jX12_coded_13 (Γ : zG) (l0 : Nat) (l1 : Int32) (l2 : Int32) : (Int32 × zS) → Prop := fun x => zJ Γ 5 0 0 x.2 13 [(0, .ref l0), (1, .int l1), (2, .int l2), (3, .int x.1)] []
def eX12_coded_13 (Γ : zG) (l0 : Nat) (l1 : Int32) (l2 : Int32) : zS → Prop := fun b => zJ Γ 5 0 0 b 119 [] []
def fX12_coded_115 (σ : zS) (l0 : Nat) (l1 : Int32) (l2 : Int32) (s0 : Int32) : Option ((Int32 × zS) ⊕ zS) := some (.inl (s0, σ))
set_option maxRecDepth 100000 in
theorem wX12_coded_115 {Γ : zG} (E : zE Γ cX12_coded RX12 5 { frames := 3, cells := 0, slots := 0, locals := 74 }) (σ : zS) (l0 : Nat) (l1 : Int32) (l2 : Int32) (s0 : Int32) {R : ((Int32 × zS) ⊕ zS)} (h : fX12_coded_115 σ l0 l1 l2 s0 = some R) (K : Sum.elim (jX12_coded_13 Γ l0 l1 l2) (eX12_coded_13 Γ l0 l1 l2) R) : zJ Γ 5 0 0 σ 115 [(0, .ref l0), (1, .int l1), (2, .int l2)] [.int s0] := by
  unfold fX12_coded_115 at h
  refine zj_istore_n (lv2 := [(3, .int s0), (0, .ref l0), (1, .int l1), (2, .int l2)]) E dX12_coded_115 rfl (by decide) rfl ?_
  refine zj_goto (tgt := 13) E dX12_coded_116 (by decide) ?_
  have e9 := Option.some.inj h
  subst e9
  refine zj_lv [1, 2, 3, 0] rfl ?_
  exact K
def fX12_coded_114 (σ : zS) (l0 : Nat) (l1 : Int32) (l2 : Int32) : Option ((Int32 × zS) ⊕ zS) := fX12_coded_115 σ l0 l1 l2 0
set_option maxRecDepth 100000 in
theorem wX12_coded_114 {Γ : zG} (E : zE Γ cX12_coded RX12 5 { frames := 3, cells := 0, slots := 0, locals := 74 }) (σ : zS) (l0 : Nat) (l1 : Int32) (l2 : Int32) {R : ((Int32 × zS) ⊕ zS)} (h : fX12_coded_114 σ l0 l1 l2 = some R) (K : Sum.elim (jX12_coded_13 Γ l0 l1 l2) (eX12_coded_13 Γ l0 l1 l2) R) : zJ Γ 5 0 0 σ 114 [(0, .ref l0), (1, .int l1), (2, .int l2)] [] := by
  unfold fX12_coded_114 at h
  refine zj_iconst (v := 0) E dX12_coded_114 (by decide) ?_
  refine zj_lv [0, 1, 2] rfl ?_
  exact wX12_coded_115 E _ _ _ _ _ h K
def fX12_coded_95 (σ : zS) (l0 : Nat) (l1 : Int32) (l2 : Int32) (l4 : Int32) : Option ((Int32 × zS) ⊕ zS) := oGI σ 12 l0 18 (fun x3 => (if x3 = 0 then (if l4 = (256 : Int32) then fX12_coded_114 σ l0 l1 l2 else fX12_coded_115 σ l0 l1 l2 1) else fX12_coded_114 σ l0 l1 l2))
set_option maxRecDepth 100000 in
theorem wX12_coded_95 {Γ : zG} (E : zE Γ cX12_coded RX12 5 { frames := 3, cells := 0, slots := 0, locals := 74 }) (σ : zS) (l0 : Nat) (l1 : Int32) (l2 : Int32) (l4 : Int32) {R : ((Int32 × zS) ⊕ zS)} (h : fX12_coded_95 σ l0 l1 l2 l4 = some R) (K : Sum.elim (jX12_coded_13 Γ l0 l1 l2) (eX12_coded_13 Γ l0 l1 l2) R) : zJ Γ 5 0 0 σ 95 [(0, .ref l0), (1, .int l1), (2, .int l2), (4, .int l4)] [] := by
  unfold fX12_coded_95 at h
  refine zj_aload_n E dX12_coded_95 rfl 0 rfl ?_
  refine zs_getI E zc11 18 (by decide) zw_19_13 rfl dX12_coded_96 h (fun x3 h => ?_)
  refine zj_if_ne (tgt := 114) E dX12_coded_99 (by decide) h (fun h => ?_) (fun h => ?_)
  · refine zj_lv [0, 1, 2] rfl ?_
    exact wX12_coded_114 E _ _ _ _ h K
  · refine zj_iload E dX12_coded_102 3 rfl ?_
    refine zj_sipush (v := 256) E dX12_coded_104 (by decide) ?_
    refine zj_icmp_eq (tgt := 114) E dX12_coded_107 (by decide) h (fun h => ?_) (fun h => ?_)
    · refine zj_lv [0, 1, 2] rfl ?_
      exact wX12_coded_114 E _ _ _ _ h K
    · refine zj_iconst (v := 1) E dX12_coded_110 (by decide) ?_
      refine zj_goto (tgt := 115) E dX12_coded_111 (by decide) ?_
      refine zj_lv [0, 1, 2] rfl ?_
      exact wX12_coded_115 E _ _ _ _ _ h K
def fX12_coded_78 (σ : zS) (l0 : Nat) (l1 : Int32) (l2 : Int32) (l4 : Int32) (s0 : Int32) (s1 : Nat) : Option ((Int32 × zS) ⊕ zS) := oPZ σ 12 s1 18 s0 (fun σ2 => oGI σ2 12 l0 18 (fun x5 => (if x5 = 0 then oA (zk σ2 l0 = 12) (oB (fX12_match σ2 l0 l4 l2) (fun σ3 => fX12_coded_95 σ3 l0 l1 l2 l4)) else fX12_coded_95 σ2 l0 l1 l2 l4)))
set_option maxRecDepth 100000 in
theorem wX12_coded_78 {Γ : zG} (E : zE Γ cX12_coded RX12 5 { frames := 3, cells := 0, slots := 0, locals := 74 }) (σ : zS) (l0 : Nat) (l1 : Int32) (l2 : Int32) (l4 : Int32) (s0 : Int32) (s1 : Nat) {R : ((Int32 × zS) ⊕ zS)} (h : fX12_coded_78 σ l0 l1 l2 l4 s0 s1 = some R) (K : Sum.elim (jX12_coded_13 Γ l0 l1 l2) (eX12_coded_13 Γ l0 l1 l2) R) : zJ Γ 5 0 0 σ 78 [(0, .ref l0), (1, .int l1), (2, .int l2), (4, .int l4)] [.int s0, .ref s1] := by
  unfold fX12_coded_78 at h
  refine zs_putZ E zc11 18 (by decide) zw_19_13 rfl rfl dX12_coded_78 h (fun σ2 h => ?_)
  refine zj_aload_n E dX12_coded_81 rfl 0 rfl ?_
  refine zs_getI E zc11 18 (by decide) zw_19_13 rfl dX12_coded_82 h (fun x5 h => ?_)
  refine zj_if_ne (tgt := 95) E dX12_coded_85 (by decide) h (fun h => ?_) (fun h => ?_)
  · refine zj_lv [0, 1, 2, 3] rfl ?_
    exact wX12_coded_95 E _ _ _ _ _ h K
  · refine zj_aload_n E dX12_coded_88 rfl 0 rfl ?_
    refine zj_iload E dX12_coded_89 3 rfl ?_
    refine zj_iload_n E dX12_coded_91 rfl 2 rfl ?_
    obtain ⟨hk, h⟩ := oA_some h
    obtain ⟨σ3, hc, h⟩ := oB_some h
    refine zs_callV (As := [.int l4, .int l2]) (rest := []) E zc11 zyX12_match zw_21_2 (kX12_match _ _ _ _ _ hc) rfl rfl hk rfl ⟨by decide, by decide⟩ ⟨by decide, by decide⟩ (Nat.le_of_ble_eq_true rfl) dX12_coded_92 rfl (show zJ Γ 5 0 0 σ3 95 [(0, .ref l0), (1, .int l1), (2, .int l2), (4, .int l4)] [] from ?_)
    refine zj_lv [0, 1, 2, 3] rfl ?_
    exact wX12_coded_95 E _ _ _ _ _ h K
def fX12_coded_49 (σ : zS) (l0 : Nat) (l1 : Int32) (l2 : Int32) (l4 : Int32) : Option ((Int32 × zS) ⊕ zS) := (if l4 ≤ (256 : Int32) then fX12_coded_95 σ l0 l1 l2 l4 else oGI σ 12 l0 18 (fun x4 => (if x4 = 0 then (if l4 ≤ (285 : Int32) then fX12_coded_78 σ l0 l1 l2 l4 0 l0 else fX12_coded_78 σ l0 l1 l2 l4 1 l0) else fX12_coded_95 σ l0 l1 l2 l4)))
set_option maxRecDepth 100000 in
theorem wX12_coded_49 {Γ : zG} (E : zE Γ cX12_coded RX12 5 { frames := 3, cells := 0, slots := 0, locals := 74 }) (σ : zS) (l0 : Nat) (l1 : Int32) (l2 : Int32) (l4 : Int32) {R : ((Int32 × zS) ⊕ zS)} (h : fX12_coded_49 σ l0 l1 l2 l4 = some R) (K : Sum.elim (jX12_coded_13 Γ l0 l1 l2) (eX12_coded_13 Γ l0 l1 l2) R) : zJ Γ 5 0 0 σ 49 [(0, .ref l0), (1, .int l1), (2, .int l2), (4, .int l4)] [] := by
  unfold fX12_coded_49 at h
  refine zj_iload E dX12_coded_49 3 rfl ?_
  refine zj_sipush (v := 256) E dX12_coded_51 (by decide) ?_
  refine zj_icmp_le (tgt := 95) E dX12_coded_54 (by decide) h (fun h => ?_) (fun h => ?_)
  · refine zj_lv [0, 1, 2, 3] rfl ?_
    exact wX12_coded_95 E _ _ _ _ _ h K
  · refine zj_aload_n E dX12_coded_57 rfl 0 rfl ?_
    refine zs_getI E zc11 18 (by decide) zw_19_13 rfl dX12_coded_58 h (fun x4 h => ?_)
    refine zj_if_ne (tgt := 95) E dX12_coded_61 (by decide) h (fun h => ?_) (fun h => ?_)
    · refine zj_lv [0, 1, 2, 3] rfl ?_
      exact wX12_coded_95 E _ _ _ _ _ h K
    · refine zj_aload_n E dX12_coded_64 rfl 0 rfl ?_
      refine zj_iload E dX12_coded_65 3 rfl ?_
      refine zj_sipush (v := 285) E dX12_coded_67 (by decide) ?_
      refine zj_icmp_le (tgt := 77) E dX12_coded_70 (by decide) h (fun h => ?_) (fun h => ?_)
      · refine zj_iconst (v := 0) E dX12_coded_77 (by decide) ?_
        refine zj_lv [0, 1, 2, 3] rfl ?_
        exact wX12_coded_78 E _ _ _ _ _ _ _ h K
      · refine zj_iconst (v := 1) E dX12_coded_73 (by decide) ?_
        refine zj_goto (tgt := 78) E dX12_coded_74 (by decide) ?_
        refine zj_lv [0, 1, 2, 3] rfl ?_
        exact wX12_coded_78 E _ _ _ _ _ _ _ h K
def bX12_coded_13 (l0 : Nat) (l1 : Int32) (l2 : Int32) (l3 : Int32) (σ : zS) : Option ((Int32 × zS) ⊕ zS) := (if l3 = 0 then some (.inr σ) else oA (zk σ l0 = 12) (oC (fX12_symbol σ l0 0 l1) (fun x2 σ1 => (if (256 : Int32) ≤ x2 then fX12_coded_49 σ1 l0 l1 l2 x2 else oGI σ1 12 l0 18 (fun x6 => (if x6 = 0 then oA (zk σ1 l0 = 12) (oB (fX12_emit σ1 l0 x2) (fun σ4 => fX12_coded_95 σ4 l0 l1 l2 x2)) else fX12_coded_49 σ1 l0 l1 l2 x2))))))
set_option maxRecDepth 100000 in
theorem wX12_coded_L13 {Γ : zG} (E : zE Γ cX12_coded RX12 5 { frames := 3, cells := 0, slots := 0, locals := 74 }) (l0 : Nat) (l1 : Int32) (l2 : Int32) : ∀ x R, (fun x => bX12_coded_13 l0 l1 l2 x.1 x.2) x = some R → Sum.elim (jX12_coded_13 Γ l0 l1 l2) (eX12_coded_13 Γ l0 l1 l2) R → jX12_coded_13 Γ l0 l1 l2 x := by
  intro x R h K
  obtain ⟨l3, σ⟩ := x
  have h : bX12_coded_13 l0 l1 l2 l3 σ = some R := h
  show zJ Γ 5 0 0 σ 13 [(0, .ref l0), (1, .int l1), (2, .int l2), (3, .int l3)] []
  unfold bX12_coded_13 at h
  refine zj_iload_n E dX12_coded_13 rfl 3 rfl ?_
  refine zj_if_eq (tgt := 119) E dX12_coded_14 (by decide) h (fun h => ?_) (fun h => ?_)
  · have e9 := Option.some.inj h
    subst e9
    refine zj_lv [] rfl ?_
    exact K
  · refine zj_aload_n E dX12_coded_17 rfl 0 rfl ?_
    refine zj_iconst (v := 0) E dX12_coded_18 (by decide) ?_
    refine zj_iload_n E dX12_coded_19 rfl 1 rfl ?_
    obtain ⟨hk, h⟩ := oA_some h
    obtain ⟨x2, σ1, hc, h⟩ := oC_some h
    refine zs_callV (As := [.int 0, .int l1]) (rest := []) E zc11 zyX12_symbol zw_20_22 (kX12_symbol _ _ _ _ _ hc) rfl rfl hk rfl ⟨by decide, by decide⟩ ⟨by decide, by decide⟩ (Nat.le_of_ble_eq_true rfl) dX12_coded_20 rfl (show zJ Γ 5 0 0 σ1 23 [(0, .ref l0), (1, .int l1), (2, .int l2), (3, .int l3)] [.int x2] from ?_)
    refine zj_istore (lv2 := [(4, .int x2), (0, .ref l0), (1, .int l1), (2, .int l2), (3, .int l3)]) E dX12_coded_23 (by decide) rfl ?_
    refine zj_iload E dX12_coded_25 0 rfl ?_
    refine zj_sipush (v := 256) E dX12_coded_27 (by decide) ?_
    refine zj_icmp_ge (tgt := 49) E dX12_coded_30 (by decide) h (fun h => ?_) (fun h => ?_)
    · refine zj_lv [1, 2, 3, 0] rfl ?_
      exact wX12_coded_49 E _ _ _ _ _ h K
    · refine zj_aload_n E dX12_coded_33 rfl 1 rfl ?_
      refine zs_getI E zc11 18 (by decide) zw_19_13 rfl dX12_coded_34 h (fun x6 h => ?_)
      refine zj_if_ne (tgt := 49) E dX12_coded_37 (by decide) h (fun h => ?_) (fun h => ?_)
      · refine zj_lv [1, 2, 3, 0] rfl ?_
        exact wX12_coded_49 E _ _ _ _ _ h K
      · refine zj_aload_n E dX12_coded_40 rfl 1 rfl ?_
        refine zj_iload E dX12_coded_41 0 rfl ?_
        obtain ⟨hk, h⟩ := oA_some h
        obtain ⟨σ4, hc, h⟩ := oB_some h
        refine zs_callV (As := [.int x2]) (rest := []) E zc11 zyX12_emit zw_20_5 (kX12_emit _ _ _ _ _ hc) rfl rfl hk rfl ⟨by decide, by decide⟩ ⟨by decide, by decide⟩ (Nat.le_of_ble_eq_true rfl) dX12_coded_43 rfl (show zJ Γ 5 0 0 σ4 46 [(4, .int x2), (0, .ref l0), (1, .int l1), (2, .int l2), (3, .int l3)] [] from ?_)
        refine zj_goto (tgt := 95) E dX12_coded_46 (by decide) ?_
        refine zj_lv [1, 2, 3, 0] rfl ?_
        exact wX12_coded_95 E _ _ _ _ _ h K
def fX12_coded_12 (σ : zS) (l0 : Nat) (l1 : Int32) (l2 : Int32) (s0 : Int32) : Option zS := oB (zloop zF (fun x => bX12_coded_13 l0 l1 l2 x.1 x.2) (s0, σ)) (fun b1 => (fun σ5 => some σ5) b1)
set_option maxRecDepth 100000 in
theorem wX12_coded_12 {Γ : zG} (E : zE Γ cX12_coded RX12 5 { frames := 3, cells := 0, slots := 0, locals := 74 }) (σ : zS) (l0 : Nat) (l1 : Int32) (l2 : Int32) (s0 : Int32) {R : zS} (h : fX12_coded_12 σ l0 l1 l2 s0 = some R) (K : zRet Γ cX12_coded 5 0 0 (none) R) : zJ Γ 5 0 0 σ 12 [(0, .ref l0), (1, .int l1), (2, .int l2)] [.int s0] := by
  unfold fX12_coded_12 at h
  refine zj_istore_n (lv2 := [(3, .int s0), (0, .ref l0), (1, .int l1), (2, .int l2)]) E dX12_coded_12 rfl (by decide) rfl ?_
  obtain ⟨b1, hb1, h⟩ := oB_some h
  refine zj_lv [1, 2, 3, 0] rfl ?_
  refine zj_loop (wX12_coded_L13 E l0 l1 l2) zF (s0, σ) b1 hb1 ?_
  obtain ⟨σ5, rfl⟩ : ∃ z, z = b1 := ⟨_, rfl⟩
  try dsimp only at h
  show zJ Γ 5 0 0 σ5 119 [] []
  have e9 := Option.some.inj h
  subst e9
  exact (show zRet Γ cX12_coded 5 0 0 (none) σ5 from K) _ _ dX12_coded_119
def fX12_coded (σ : zS) (p0 : Nat) (p1 : Int32) (p2 : Int32) : Option zS := oGI σ 12 p0 18 (fun x1 => (if x1 = 0 then fX12_coded_12 σ p0 p1 p2 1 else fX12_coded_12 σ p0 p1 p2 0))
set_option maxRecDepth 100000 in
theorem wX12_coded {Γ : zG} (E : zE Γ cX12_coded RX12 5 { frames := 3, cells := 0, slots := 0, locals := 74 }) (σ : zS) (p0 : Nat) (p1 : Int32) (p2 : Int32) {R : zS} (h : fX12_coded σ p0 p1 p2 = some R) (K : zRet Γ cX12_coded 5 0 0 (none) R) : zJ Γ 5 0 0 σ 0 [(0, .ref p0), (1, .int p1), (2, .int p2)] [] := by
  unfold fX12_coded at h
  refine zj_aload_n E dX12_coded_0 rfl 0 rfl ?_
  refine zs_getI E zc11 18 (by decide) zw_19_13 rfl dX12_coded_1 h (fun x1 h => ?_)
  refine zj_if_ne (tgt := 11) E dX12_coded_4 (by decide) h (fun h => ?_) (fun h => ?_)
  · refine zj_iconst (v := 0) E dX12_coded_11 (by decide) ?_
    refine zj_lv [0, 1, 2] rfl ?_
    exact wX12_coded_12 E _ _ _ _ _ h K
  · refine zj_iconst (v := 1) E dX12_coded_7 (by decide) ?_
    refine zj_goto (tgt := 12) E dX12_coded_8 (by decide) ?_
    refine zj_lv [0, 1, 2] rfl ?_
    exact wX12_coded_12 E _ _ _ _ _ h K
set_option maxRecDepth 100000 in
theorem kX12_coded (l : Launch) (D : va_G) (cs : zCs) (z0 : Nat) (σ : zS) {p0 : Nat} {p1 : Int32} {p2 : Int32}  {σ' : zS} (h : fX12_coded σ p0 p1 p2 = some σ') : zM l D cs z0 yX12_coded cX12_coded 5 none { frames := 3, cells := 0, slots := 0, locals := 74 } [.ref p0, .int p1, .int p2] σ none σ' 0 0 := by
  exact zM_of (by decide) rfl rfl (Nat.le_of_ble_eq_true rfl) rfl (fun Γ e1 e2 e3 e4 E hN K => wX12_coded E σ _ _ _ h K)
/-! X12_plain -/
def jX12_plain_44 (Γ : zG) (l0 : Nat) (l1 : Int32) : (Int32 × zS) → Prop := fun x => zJ Γ 5 0 0 x.2 44 [(0, .ref l0), (1, .int l1), (3, .int x.1)] []
def eX12_plain_44 (Γ : zG) (l0 : Nat) (l1 : Int32) : zS → Prop := fun b => zJ Γ 5 0 0 b 83 [] []
def fX12_plain_77 (σ : zS) (l0 : Nat) (l1 : Int32) (l3 : Int32) : Option ((Int32 × zS) ⊕ zS) := oL (l3 + 1) (fun v1 => some (.inl (v1, σ)))
set_option maxRecDepth 100000 in
theorem wX12_plain_77 {Γ : zG} (E : zE Γ cX12_plain RX12 5 { frames := 1, cells := 0, slots := 0, locals := 23 }) (σ : zS) (l0 : Nat) (l1 : Int32) (l3 : Int32) {R : ((Int32 × zS) ⊕ zS)} (h : fX12_plain_77 σ l0 l1 l3 = some R) (K : Sum.elim (jX12_plain_44 Γ l0 l1) (eX12_plain_44 Γ l0 l1) R) : zJ Γ 5 0 0 σ 77 [(0, .ref l0), (1, .int l1), (3, .int l3)] [] := by
  unfold fX12_plain_77 at h
  refine zs_iinc (lv2 := fun v1 => [(3, .int v1), (0, .ref l0), (1, .int l1)]) E dX12_plain_77 2 rfl (by decide) (by decide) (fun _ => rfl) h (fun v1 h => ?_)
  refine zj_goto (tgt := 44) E dX12_plain_80 (by decide) ?_
  have e9 := Option.some.inj h
  subst e9
  refine zj_lv [1, 2, 0] rfl ?_
  exact K
def bX12_plain_44 (l0 : Nat) (l1 : Int32) (l3 : Int32) (σ : zS) : Option ((Int32 × zS) ⊕ zS) := (if l1 ≤ l3 then some (.inr σ) else oGI σ 12 l0 18 (fun x4 => (if x4 = 0 then oA (zk σ l0 = 12) (oC (fX12_bits σ l0 8) (fun x5 σ5 => oGI σ5 12 l0 18 (fun x6 => (if x6 = 0 then oA (zk σ5 l0 = 12) (oB (fX12_emit σ5 l0 x5) (fun σ6 => fX12_plain_77 σ6 l0 l1 l3)) else fX12_plain_77 σ5 l0 l1 l3)))) else some (.inr σ))))
set_option maxRecDepth 100000 in
theorem wX12_plain_L44 {Γ : zG} (E : zE Γ cX12_plain RX12 5 { frames := 1, cells := 0, slots := 0, locals := 23 }) (l0 : Nat) (l1 : Int32) : ∀ x R, (fun x => bX12_plain_44 l0 l1 x.1 x.2) x = some R → Sum.elim (jX12_plain_44 Γ l0 l1) (eX12_plain_44 Γ l0 l1) R → jX12_plain_44 Γ l0 l1 x := by
  intro x R h K
  obtain ⟨l3, σ⟩ := x
  have h : bX12_plain_44 l0 l1 l3 σ = some R := h
  show zJ Γ 5 0 0 σ 44 [(0, .ref l0), (1, .int l1), (3, .int l3)] []
  unfold bX12_plain_44 at h
  refine zj_iload_n E dX12_plain_44 rfl 2 rfl ?_
  refine zj_iload_n E dX12_plain_45 rfl 1 rfl ?_
  refine zj_icmp_ge (tgt := 83) E dX12_plain_46 (by decide) h (fun h => ?_) (fun h => ?_)
  · have e9 := Option.some.inj h
    subst e9
    refine zj_lv [] rfl ?_
    exact K
  · refine zj_aload_n E dX12_plain_49 rfl 0 rfl ?_
    refine zs_getI E zc11 18 (by decide) zw_19_13 rfl dX12_plain_50 h (fun x4 h => ?_)
    refine zj_if_ne (tgt := 83) E dX12_plain_53 (by decide) h (fun h => ?_) (fun h => ?_)
    · have e9 := Option.some.inj h
      subst e9
      refine zj_lv [] rfl ?_
      exact K
    · refine zj_aload_n E dX12_plain_56 rfl 0 rfl ?_
      refine zj_bipush (v := 8) E dX12_plain_57 (by decide) ?_
      obtain ⟨hk, h⟩ := oA_some h
      obtain ⟨x5, σ5, hc, h⟩ := oC_some h
      refine zs_callV (As := [.int 8]) (rest := []) E zc11 zyX12_bits zw_19_16 (kX12_bits _ _ _ _ _ hc) rfl rfl hk rfl ⟨by decide, by decide⟩ ⟨by decide, by decide⟩ (Nat.le_of_ble_eq_true rfl) dX12_plain_59 rfl (show zJ Γ 5 0 0 σ5 62 [(0, .ref l0), (1, .int l1), (3, .int l3)] [.int x5] from ?_)
      refine zj_istore (lv2 := [(4, .int x5), (0, .ref l0), (1, .int l1), (3, .int l3)]) E dX12_plain_62 (by decide) rfl ?_
      refine zj_aload_n E dX12_plain_64 rfl 1 rfl ?_
      refine zs_getI E zc11 18 (by decide) zw_19_13 rfl dX12_plain_65 h (fun x6 h => ?_)
      refine zj_if_ne (tgt := 77) E dX12_plain_68 (by decide) h (fun h => ?_) (fun h => ?_)
      · refine zj_lv [1, 2, 3] rfl ?_
        exact wX12_plain_77 E _ _ _ _ h K
      · refine zj_aload_n E dX12_plain_71 rfl 1 rfl ?_
        refine zj_iload E dX12_plain_72 0 rfl ?_
        obtain ⟨hk, h⟩ := oA_some h
        obtain ⟨σ6, hc, h⟩ := oB_some h
        refine zs_callV (As := [.int x5]) (rest := []) E zc11 zyX12_emit zw_20_5 (kX12_emit _ _ _ _ _ hc) rfl rfl hk rfl ⟨by decide, by decide⟩ ⟨by decide, by decide⟩ (Nat.le_of_ble_eq_true rfl) dX12_plain_74 rfl (show zJ Γ 5 0 0 σ6 77 [(4, .int x5), (0, .ref l0), (1, .int l1), (3, .int l3)] [] from ?_)
        refine zj_lv [1, 2, 3] rfl ?_
        exact wX12_plain_77 E _ _ _ _ h K
def fX12_plain_39 (σ : zS) (l0 : Nat) (l1 : Int32) (s0 : Int32) (s1 : Nat) : Option zS := oPZ σ 12 s1 18 s0 (fun σ4 => oB (zloop zF (fun x => bX12_plain_44 l0 l1 x.1 x.2) (0, σ4)) (fun b1 => (fun σ7 => some σ7) b1))
set_option maxRecDepth 100000 in
theorem wX12_plain_39 {Γ : zG} (E : zE Γ cX12_plain RX12 5 { frames := 1, cells := 0, slots := 0, locals := 23 }) (σ : zS) (l0 : Nat) (l1 : Int32) (s0 : Int32) (s1 : Nat) {R : zS} (h : fX12_plain_39 σ l0 l1 s0 s1 = some R) (K : zRet Γ cX12_plain 5 0 0 (none) R) : zJ Γ 5 0 0 σ 39 [(0, .ref l0), (1, .int l1)] [.int s0, .ref s1] := by
  unfold fX12_plain_39 at h
  refine zs_putZ E zc11 18 (by decide) zw_19_13 rfl rfl dX12_plain_39 h (fun σ4 h => ?_)
  refine zj_iconst (v := 0) E dX12_plain_42 (by decide) ?_
  refine zj_istore_n (lv2 := [(3, .int 0), (0, .ref l0), (1, .int l1)]) E dX12_plain_43 rfl (by decide) rfl ?_
  obtain ⟨b1, hb1, h⟩ := oB_some h
  refine zj_lv [1, 2, 0] rfl ?_
  refine zj_loop (wX12_plain_L44 E l0 l1) zF (0, σ4) b1 hb1 ?_
  obtain ⟨σ7, rfl⟩ : ∃ z, z = b1 := ⟨_, rfl⟩
  try dsimp only at h
  show zJ Γ 5 0 0 σ7 83 [] []
  have e9 := Option.some.inj h
  subst e9
  exact (show zRet Γ cX12_plain 5 0 0 (none) σ7 from K) _ _ dX12_plain_83
def fX12_plain_34 (σ : zS) (l0 : Nat) (l1 : Int32) (s0 : Nat) : Option zS := fX12_plain_39 σ l0 l1 1 s0
set_option maxRecDepth 100000 in
theorem wX12_plain_34 {Γ : zG} (E : zE Γ cX12_plain RX12 5 { frames := 1, cells := 0, slots := 0, locals := 23 }) (σ : zS) (l0 : Nat) (l1 : Int32) (s0 : Nat) {R : zS} (h : fX12_plain_34 σ l0 l1 s0 = some R) (K : zRet Γ cX12_plain 5 0 0 (none) R) : zJ Γ 5 0 0 σ 34 [(0, .ref l0), (1, .int l1)] [.ref s0] := by
  unfold fX12_plain_34 at h
  refine zj_iconst (v := 1) E dX12_plain_34 (by decide) ?_
  refine zj_goto (tgt := 39) E dX12_plain_35 (by decide) ?_
  refine zj_lv [0, 1] rfl ?_
  exact wX12_plain_39 E _ _ _ _ _ h K
def fX12_plain (σ : zS) (p0 : Nat) : Option zS := oA (zk σ p0 = 12) (oB (fX12_evenOut σ p0) (fun σ1 => oA (zk σ1 p0 = 12) (oC (fX12_bits σ1 p0 16) (fun x1 σ2 => oA (zk σ2 p0 = 12) (oC (fX12_bits σ2 p0 16) (fun x2 σ3 => oGI σ3 12 p0 18 (fun x3 => (if x3 = 0 then (if (x1 ^^^ x2) = (65535 : Int32) then fX12_plain_39 σ3 p0 x1 0 p0 else fX12_plain_34 σ3 p0 x1 p0) else fX12_plain_34 σ3 p0 x1 p0))))))))
set_option maxRecDepth 100000 in
theorem wX12_plain {Γ : zG} (E : zE Γ cX12_plain RX12 5 { frames := 1, cells := 0, slots := 0, locals := 23 }) (σ : zS) (p0 : Nat) {R : zS} (h : fX12_plain σ p0 = some R) (K : zRet Γ cX12_plain 5 0 0 (none) R) : zJ Γ 5 0 0 σ 0 [(0, .ref p0)] [] := by
  unfold fX12_plain at h
  refine zj_aload_n E dX12_plain_0 rfl 0 rfl ?_
  obtain ⟨hk, h⟩ := oA_some h
  obtain ⟨σ1, hc, h⟩ := oB_some h
  refine zs_callV (As := []) (rest := []) E zc11 zyX12_evenOut zw_20_1 (kX12_evenOut _ _ _ _ _ hc) rfl rfl hk rfl ⟨by decide, by decide⟩ ⟨by decide, by decide⟩ (Nat.le_of_ble_eq_true rfl) dX12_plain_1 rfl (show zJ Γ 5 0 0 σ1 4 [(0, .ref p0)] [] from ?_)
  refine zj_aload_n E dX12_plain_4 rfl 0 rfl ?_
  refine zj_bipush (v := 16) E dX12_plain_5 (by decide) ?_
  obtain ⟨hk, h⟩ := oA_some h
  obtain ⟨x1, σ2, hc, h⟩ := oC_some h
  refine zs_callV (As := [.int 16]) (rest := []) E zc11 zyX12_bits zw_19_16 (kX12_bits _ _ _ _ _ hc) rfl rfl hk rfl ⟨by decide, by decide⟩ ⟨by decide, by decide⟩ (Nat.le_of_ble_eq_true rfl) dX12_plain_7 rfl (show zJ Γ 5 0 0 σ2 10 [(0, .ref p0)] [.int x1] from ?_)
  refine zj_istore_n (lv2 := [(1, .int x1), (0, .ref p0)]) E dX12_plain_10 rfl (by decide) rfl ?_
  refine zj_aload_n E dX12_plain_11 rfl 1 rfl ?_
  refine zj_bipush (v := 16) E dX12_plain_12 (by decide) ?_
  obtain ⟨hk, h⟩ := oA_some h
  obtain ⟨x2, σ3, hc, h⟩ := oC_some h
  refine zs_callV (As := [.int 16]) (rest := []) E zc11 zyX12_bits zw_19_16 (kX12_bits _ _ _ _ _ hc) rfl rfl hk rfl ⟨by decide, by decide⟩ ⟨by decide, by decide⟩ (Nat.le_of_ble_eq_true rfl) dX12_plain_14 rfl (show zJ Γ 5 0 0 σ3 17 [(1, .int x1), (0, .ref p0)] [.int x2] from ?_)
  refine zj_istore_n (lv2 := [(2, .int x2), (1, .int x1), (0, .ref p0)]) E dX12_plain_17 rfl (by decide) rfl ?_
  refine zj_aload_n E dX12_plain_18 rfl 2 rfl ?_
  refine zj_aload_n E dX12_plain_19 rfl 2 rfl ?_
  refine zs_getI E zc11 18 (by decide) zw_19_13 rfl dX12_plain_20 h (fun x3 h => ?_)
  refine zj_if_ne (tgt := 34) E dX12_plain_23 (by decide) h (fun h => ?_) (fun h => ?_)
  · refine zj_lv [2, 1] rfl ?_
    exact wX12_plain_34 E _ _ _ _ h K
  · refine zj_iload_n E dX12_plain_26 rfl 1 rfl ?_
    refine zj_iload_n E dX12_plain_27 rfl 0 rfl ?_
    refine zj_ixor E dX12_plain_28 ?_
    refine zj_ldc (v := 65535) E zw_20_0 dX12_plain_29 ?_
    refine zj_icmp_eq (tgt := 38) E dX12_plain_31 (by decide) h (fun h => ?_) (fun h => ?_)
    · refine zj_iconst (v := 0) E dX12_plain_38 (by decide) ?_
      refine zj_lv [2, 1] rfl ?_
      exact wX12_plain_39 E _ _ _ _ _ h K
    · refine zj_lv [2, 1] rfl ?_
      exact wX12_plain_34 E _ _ _ _ h K
set_option maxRecDepth 100000 in
theorem kX12_plain (l : Launch) (D : va_G) (cs : zCs) (z0 : Nat) (σ : zS) {p0 : Nat}  {σ' : zS} (h : fX12_plain σ p0 = some σ') : zM l D cs z0 yX12_plain cX12_plain 5 none { frames := 1, cells := 0, slots := 0, locals := 23 } [.ref p0] σ none σ' 0 0 := by
  exact zM_of (by decide) rfl rfl (Nat.le_of_ble_eq_true rfl) rfl (fun Γ e1 e2 e3 e4 E hN K => wX12_plain E σ _ h K)
/-! X12_fixed -/
def jX12_fixed_2 (Γ : zG) (l0 : Nat) : (Int32 × zS) → Prop := fun x => zJ Γ 2 0 0 x.2 2 [(0, .ref l0), (1, .int x.1)] []
def eX12_fixed_2 (Γ : zG) (l0 : Nat) : zS → Prop := fun b => zJ Γ 2 0 0 b 59 [(0, .ref l0)] []
def fX12_fixed_52 (σ : zS) (l0 : Nat) (l1 : Int32) (s0 : Int32) (s1 : Int32) (s2 : Nat) : Option ((Int32 × zS) ⊕ zS) := oSt σ 21 s2 s1 s0 (fun σ1 => oL (l1 + 1) (fun v1 => some (.inl (v1, σ1))))
set_option maxRecDepth 100000 in
theorem wX12_fixed_52 {Γ : zG} (E : zE Γ cX12_fixed RX12 2 { frames := 4, cells := 0, slots := 0, locals := 98 }) (σ : zS) (l0 : Nat) (l1 : Int32) (s0 : Int32) (s1 : Int32) (s2 : Nat) {R : ((Int32 × zS) ⊕ zS)} (h : fX12_fixed_52 σ l0 l1 s0 s1 s2 = some R) (K : Sum.elim (jX12_fixed_2 Γ l0) (eX12_fixed_2 Γ l0) R) : zJ Γ 2 0 0 σ 52 [(0, .ref l0), (1, .int l1)] [.int s0, .int s1, .ref s2] := by
  unfold fX12_fixed_52 at h
  refine zs_iast E dX12_fixed_52 h (fun σ1 h => ?_)
  refine zs_iinc (lv2 := fun v1 => [(1, .int v1), (0, .ref l0)]) E dX12_fixed_53 1 rfl (by decide) (by decide) (fun _ => rfl) h (fun v1 h => ?_)
  refine zj_goto (tgt := 2) E dX12_fixed_56 (by decide) ?_
  have e9 := Option.some.inj h
  subst e9
  refine zj_lv [1, 0] rfl ?_
  exact K
def bX12_fixed_2 (l0 : Nat) (l1 : Int32) (σ : zS) : Option ((Int32 × zS) ⊕ zS) := (if (288 : Int32) ≤ l1 then some (.inr σ) else oGR σ 12 l0 21 (fun a1 => (if (144 : Int32) ≤ l1 then (if (256 : Int32) ≤ l1 then (if (280 : Int32) ≤ l1 then fX12_fixed_52 σ l0 l1 8 l1 a1 else fX12_fixed_52 σ l0 l1 7 l1 a1) else fX12_fixed_52 σ l0 l1 9 l1 a1) else fX12_fixed_52 σ l0 l1 8 l1 a1)))
set_option maxRecDepth 100000 in
theorem wX12_fixed_L2 {Γ : zG} (E : zE Γ cX12_fixed RX12 2 { frames := 4, cells := 0, slots := 0, locals := 98 }) (l0 : Nat) : ∀ x R, (fun x => bX12_fixed_2 l0 x.1 x.2) x = some R → Sum.elim (jX12_fixed_2 Γ l0) (eX12_fixed_2 Γ l0) R → jX12_fixed_2 Γ l0 x := by
  intro x R h K
  obtain ⟨l1, σ⟩ := x
  have h : bX12_fixed_2 l0 l1 σ = some R := h
  show zJ Γ 2 0 0 σ 2 [(0, .ref l0), (1, .int l1)] []
  unfold bX12_fixed_2 at h
  refine zj_iload_n E dX12_fixed_2 rfl 1 rfl ?_
  refine zj_sipush (v := 288) E dX12_fixed_3 (by decide) ?_
  refine zj_icmp_ge (tgt := 59) E dX12_fixed_6 (by decide) h (fun h => ?_) (fun h => ?_)
  · have e9 := Option.some.inj h
    subst e9
    refine zj_lv [0] rfl ?_
    exact K
  · refine zj_aload_n E dX12_fixed_9 rfl 0 rfl ?_
    refine zs_getR E zc11 21 (by decide) zw_6_13 rfl dX12_fixed_10 h (fun a1 h => ?_)
    refine zj_iload_n E dX12_fixed_13 rfl 1 rfl ?_
    refine zj_iload_n E dX12_fixed_14 rfl 1 rfl ?_
    refine zj_sipush (v := 144) E dX12_fixed_15 (by decide) ?_
    refine zj_icmp_ge (tgt := 26) E dX12_fixed_18 (by decide) h (fun h => ?_) (fun h => ?_)
    · refine zj_iload_n E dX12_fixed_26 rfl 1 rfl ?_
      refine zj_sipush (v := 256) E dX12_fixed_27 (by decide) ?_
      refine zj_icmp_ge (tgt := 38) E dX12_fixed_30 (by decide) h (fun h => ?_) (fun h => ?_)
      · refine zj_iload_n E dX12_fixed_38 rfl 1 rfl ?_
        refine zj_sipush (v := 280) E dX12_fixed_39 (by decide) ?_
        refine zj_icmp_ge (tgt := 50) E dX12_fixed_42 (by decide) h (fun h => ?_) (fun h => ?_)
        · refine zj_bipush (v := 8) E dX12_fixed_50 (by decide) ?_
          refine zj_lv [0, 1] rfl ?_
          exact wX12_fixed_52 E _ _ _ _ _ _ h K
        · refine zj_bipush (v := 7) E dX12_fixed_45 (by decide) ?_
          refine zj_goto (tgt := 52) E dX12_fixed_47 (by decide) ?_
          refine zj_lv [0, 1] rfl ?_
          exact wX12_fixed_52 E _ _ _ _ _ _ h K
      · refine zj_bipush (v := 9) E dX12_fixed_33 (by decide) ?_
        refine zj_goto (tgt := 52) E dX12_fixed_35 (by decide) ?_
        refine zj_lv [0, 1] rfl ?_
        exact wX12_fixed_52 E _ _ _ _ _ _ h K
    · refine zj_bipush (v := 8) E dX12_fixed_21 (by decide) ?_
      refine zj_goto (tgt := 52) E dX12_fixed_23 (by decide) ?_
      refine zj_lv [0, 1] rfl ?_
      exact wX12_fixed_52 E _ _ _ _ _ _ h K
def jX12_fixed_61 (Γ : zG) (l0 : Nat) : (Int32 × zS) → Prop := fun x => zJ Γ 2 0 0 x.2 61 [(0, .ref l0), (1, .int x.1)] []
def eX12_fixed_61 (Γ : zG) (l0 : Nat) : zS → Prop := fun b => zJ Γ 2 0 0 b 84 [(0, .ref l0)] []
def bX12_fixed_61 (l0 : Nat) (l1 : Int32) (σ : zS) : Option ((Int32 × zS) ⊕ zS) := (if (32 : Int32) ≤ l1 then some (.inr σ) else oGR σ 12 l0 21 (fun a2 => oSt σ 21 a2 ((320 : Int32) + l1) 5 (fun σ3 => oL (l1 + 1) (fun v2 => some (.inl (v2, σ3))))))
set_option maxRecDepth 100000 in
theorem wX12_fixed_L61 {Γ : zG} (E : zE Γ cX12_fixed RX12 2 { frames := 4, cells := 0, slots := 0, locals := 98 }) (l0 : Nat) : ∀ x R, (fun x => bX12_fixed_61 l0 x.1 x.2) x = some R → Sum.elim (jX12_fixed_61 Γ l0) (eX12_fixed_61 Γ l0) R → jX12_fixed_61 Γ l0 x := by
  intro x R h K
  obtain ⟨l1, σ⟩ := x
  have h : bX12_fixed_61 l0 l1 σ = some R := h
  show zJ Γ 2 0 0 σ 61 [(0, .ref l0), (1, .int l1)] []
  unfold bX12_fixed_61 at h
  refine zj_iload_n E dX12_fixed_61 rfl 1 rfl ?_
  refine zj_bipush (v := 32) E dX12_fixed_62 (by decide) ?_
  refine zj_icmp_ge (tgt := 84) E dX12_fixed_64 (by decide) h (fun h => ?_) (fun h => ?_)
  · have e9 := Option.some.inj h
    subst e9
    refine zj_lv [0] rfl ?_
    exact K
  · refine zj_aload_n E dX12_fixed_67 rfl 0 rfl ?_
    refine zs_getR E zc11 21 (by decide) zw_6_13 rfl dX12_fixed_68 h (fun a2 h => ?_)
    refine zj_sipush (v := 320) E dX12_fixed_71 (by decide) ?_
    refine zj_iload_n E dX12_fixed_74 rfl 1 rfl ?_
    refine zj_iadd E dX12_fixed_75 ?_
    refine zj_iconst (v := 5) E dX12_fixed_76 (by decide) ?_
    refine zs_iast E dX12_fixed_77 h (fun σ3 h => ?_)
    refine zs_iinc (lv2 := fun v2 => [(1, .int v2), (0, .ref l0)]) E dX12_fixed_78 1 rfl (by decide) (by decide) (fun _ => rfl) h (fun v2 h => ?_)
    refine zj_goto (tgt := 61) E dX12_fixed_81 (by decide) ?_
    have e9 := Option.some.inj h
    subst e9
    refine zj_lv [1, 0] rfl ?_
    exact K
def fX12_fixed (σ : zS) (p0 : Nat) : Option zS := oB (zloop zF (fun x => bX12_fixed_2 p0 x.1 x.2) (0, σ)) (fun b1 => (fun σ2 => oB (zloop zF (fun x => bX12_fixed_61 p0 x.1 x.2) (0, σ2)) (fun b2 => (fun σ4 => oA (zk σ4 p0 = 12) (oB (fX12_makeCodes σ4 p0 0 288 0) (fun σ5 => oA (zk σ5 p0 = 12) (oB (fX12_makeCodes σ5 p0 320 32 0) (fun σ6 => oA (zk σ6 p0 = 12) (oB (fX12_coded σ6 p0 288 32) (fun σ7 => some σ7))))))) b2)) b1)
set_option maxRecDepth 100000 in
theorem wX12_fixed {Γ : zG} (E : zE Γ cX12_fixed RX12 2 { frames := 4, cells := 0, slots := 0, locals := 98 }) (σ : zS) (p0 : Nat) {R : zS} (h : fX12_fixed σ p0 = some R) (K : zRet Γ cX12_fixed 2 0 0 (none) R) : zJ Γ 2 0 0 σ 0 [(0, .ref p0)] [] := by
  unfold fX12_fixed at h
  refine zj_iconst (v := 0) E dX12_fixed_0 (by decide) ?_
  refine zj_istore_n (lv2 := [(1, .int 0), (0, .ref p0)]) E dX12_fixed_1 rfl (by decide) rfl ?_
  obtain ⟨b1, hb1, h⟩ := oB_some h
  refine zj_lv [1, 0] rfl ?_
  refine zj_loop (wX12_fixed_L2 E p0) zF (0, σ) b1 hb1 ?_
  obtain ⟨σ2, rfl⟩ : ∃ z, z = b1 := ⟨_, rfl⟩
  try dsimp only at h
  show zJ Γ 2 0 0 σ2 59 [(0, .ref p0)] []
  refine zj_iconst (v := 0) E dX12_fixed_59 (by decide) ?_
  refine zj_istore_n (lv2 := [(1, .int 0), (0, .ref p0)]) E dX12_fixed_60 rfl (by decide) rfl ?_
  obtain ⟨b2, hb2, h⟩ := oB_some h
  refine zj_lv [1, 0] rfl ?_
  refine zj_loop (wX12_fixed_L61 E p0) zF (0, σ2) b2 hb2 ?_
  obtain ⟨σ4, rfl⟩ : ∃ z, z = b2 := ⟨_, rfl⟩
  try dsimp only at h
  show zJ Γ 2 0 0 σ4 84 [(0, .ref p0)] []
  refine zj_aload_n E dX12_fixed_84 rfl 0 rfl ?_
  refine zj_iconst (v := 0) E dX12_fixed_85 (by decide) ?_
  refine zj_sipush (v := 288) E dX12_fixed_86 (by decide) ?_
  refine zj_iconst (v := 0) E dX12_fixed_89 (by decide) ?_
  obtain ⟨hk, h⟩ := oA_some h
  obtain ⟨σ5, hc, h⟩ := oB_some h
  refine zs_callV (As := [.int 0, .int 288, .int 0]) (rest := []) E zc11 zyX12_makeCodes zw_20_13 (kX12_makeCodes _ _ _ _ _ hc) rfl rfl hk rfl ⟨by decide, by decide⟩ ⟨by decide, by decide⟩ (Nat.le_of_ble_eq_true rfl) dX12_fixed_90 rfl (show zJ Γ 2 0 0 σ5 93 [(0, .ref p0)] [] from ?_)
  refine zj_aload_n E dX12_fixed_93 rfl 0 rfl ?_
  refine zj_sipush (v := 320) E dX12_fixed_94 (by decide) ?_
  refine zj_bipush (v := 32) E dX12_fixed_97 (by decide) ?_
  refine zj_iconst (v := 0) E dX12_fixed_99 (by decide) ?_
  obtain ⟨hk, h⟩ := oA_some h
  obtain ⟨σ6, hc, h⟩ := oB_some h
  refine zs_callV (As := [.int 320, .int 32, .int 0]) (rest := []) E zc11 zyX12_makeCodes zw_20_13 (kX12_makeCodes _ _ _ _ _ hc) rfl rfl hk rfl ⟨by decide, by decide⟩ ⟨by decide, by decide⟩ (Nat.le_of_ble_eq_true rfl) dX12_fixed_100 rfl (show zJ Γ 2 0 0 σ6 103 [(0, .ref p0)] [] from ?_)
  refine zj_aload_n E dX12_fixed_103 rfl 0 rfl ?_
  refine zj_sipush (v := 288) E dX12_fixed_104 (by decide) ?_
  refine zj_bipush (v := 32) E dX12_fixed_107 (by decide) ?_
  obtain ⟨hk, h⟩ := oA_some h
  obtain ⟨σ7, hc, h⟩ := oB_some h
  refine zs_callV (As := [.int 288, .int 32]) (rest := []) E zc11 zyX12_coded zw_20_18 (kX12_coded _ _ _ _ _ hc) rfl rfl hk rfl ⟨by decide, by decide⟩ ⟨by decide, by decide⟩ (Nat.le_of_ble_eq_true rfl) dX12_fixed_109 rfl (show zJ Γ 2 0 0 σ7 112 [(0, .ref p0)] [] from ?_)
  have e9 := Option.some.inj h
  subst e9
  exact (show zRet Γ cX12_fixed 2 0 0 (none) σ7 from K) _ _ dX12_fixed_112
set_option maxRecDepth 100000 in
theorem kX12_fixed (l : Launch) (D : va_G) (cs : zCs) (z0 : Nat) (σ : zS) {p0 : Nat}  {σ' : zS} (h : fX12_fixed σ p0 = some σ') : zM l D cs z0 yX12_fixed cX12_fixed 2 none { frames := 4, cells := 0, slots := 0, locals := 98 } [.ref p0] σ none σ' 0 0 := by
  exact zM_of (by decide) rfl rfl (Nat.le_of_ble_eq_true rfl) rfl (fun Γ e1 e2 e3 e4 E hN K => wX12_fixed E σ _ h K)
