/-! THE LAW'S ENTRY: classes and tables known; from the entry to the loop -/
section LSTART
variable {s : State} {args : Array Value}
theorem lw_known (h0 : ∀ w ∈ wsL_law0, w.before args s = true) : ∃ D : va_G, ∀ (c : Nat) (q : vw_C), vwCl[c]? = some q → u_Kn s q.1 q.2.1 q.2.2 (D.1 c) (D.2 c) := by
  obtain ⟨c0, i0, k0⟩ := u_known (C := RX0) (T := TX0) (N := 2) (n := 2) h0 zinX0 (h0 (.instantiable RX0 2) (zr_3 _ (List.mem_of_getElem? (i := 22) rfl)))
  obtain ⟨c1, i1, k1⟩ := u_known (C := RX1) (T := TX1) (N := 2) (n := 2) h0 zinX1 (h0 (.instantiable RX1 2) (zr_1 _ (List.mem_of_getElem? (i := 17) rfl)))
  obtain ⟨c2, i2, k2⟩ := u_known (C := RX2) (T := TX2) (N := 4) (n := 4) h0 zinX2 (h0 (.instantiable RX2 4) (zr_4 _ (List.mem_of_getElem? (i := 2) rfl)))
  obtain ⟨c3, i3, k3⟩ := u_known (C := RX3) (T := TX3) (N := 7) (n := 7) h0 zinX3 (h0 (.instantiable RX3 7) (zr_5 _ (List.mem_of_getElem? (i := 2) rfl)))
  obtain ⟨c4, i4, k4⟩ := u_known (C := RX4) (T := TX4) (N := 11) (n := 11) h0 zinX4 (h0 (.instantiable RX4 11) (zr_1 _ (List.mem_of_getElem? (i := 21) rfl)))
  obtain ⟨c5, i5, k5⟩ := u_known (C := RX5) (T := TX5) (N := 8) (n := 8) h0 zinX5 (h0 (.instantiable RX5 8) (zr_2 _ (List.mem_of_getElem? (i := 9) rfl)))
  obtain ⟨c6, i6, k6⟩ := u_known (C := RX7) (T := TX7) (N := 4) (n := 4) h0 zinX7 (h0 (.instantiable RX7 4) (zr_2 _ (List.mem_of_getElem? (i := 5) rfl)))
  obtain ⟨c7, i7, k7⟩ := u_known (C := RX8) (T := TX8) (N := 1) (n := 1) h0 zinX8 (h0 (.instantiable RX8 1) (zr_1 _ (List.mem_of_getElem? (i := 14) rfl)))
  obtain ⟨c8, i8, k8⟩ := u_known (C := RX9) (T := TX9) (N := 9) (n := 9) h0 zinX9 (h0 (.instantiable RX9 9) (zr_3 _ (List.mem_of_getElem? (i := 7) rfl)))
  obtain ⟨c9, i9, k9⟩ := u_known (C := RX10) (T := TX10) (N := 4) (n := 4) h0 zinX10 (h0 (.instantiable RX10 4) (zr_2 _ (List.mem_of_getElem? (i := 1) rfl)))
  obtain ⟨c10, i10, k10⟩ := u_known (C := RX11) (T := TX11) (N := 6) (n := 6) h0 zinX11 (h0 (.instantiable RX11 6) (zr_1 _ (List.mem_of_getElem? (i := 1) rfl)))
  obtain ⟨c11, i11, k11⟩ := u_known (C := RX12) (T := TX12) (N := 32) (n := 32) h0 zinX12 (h0 (.instantiable RX12 32) (zr_1 _ (List.mem_of_getElem? (i := 4) rfl)))
  refine ⟨(fun c => match c with | 0 => c0 | 1 => c1 | 2 => c2 | 3 => c3 | 4 => c4 | 5 => c5 | 6 => c6 | 7 => c7 | 8 => c8 | 9 => c9 | 10 => c10 | _ => c11, fun c => match c with | 0 => i0 | 1 => i1 | 2 => i2 | 3 => i3 | 4 => i4 | 5 => i5 | 6 => i6 | 7 => i7 | 8 => i8 | 9 => i9 | 10 => i10 | _ => i11), ?_⟩
  intro c q hq
  match c, hq with
  | 0, hq => cases hq; exact k0
  | 1, hq => cases hq; exact k1
  | 2, hq => cases hq; exact k2
  | 3, hq => cases hq; exact k3
  | 4, hq => cases hq; exact k4
  | 5, hq => cases hq; exact k5
  | 6, hq => cases hq; exact k6
  | 7, hq => cases hq; exact k7
  | 8, hq => cases hq; exact k8
  | 9, hq => cases hq; exact k9
  | 10, hq => cases hq; exact k10
  | 11, hq => cases hq; exact k11
  | c + 12, hq => simp [vwCl] at hq
theorem lw_zK (hts : ∀ w ∈ lw_tbl, w.before args s = true) (hfl : ∀ w ∈ zFL, w.before args s = true) : ∃ (D : va_G) (cs : zCs), zK D cs s.heap.size s := by
  have h0 : ∀ w ∈ wsL_law0, w.before args s = true := fun w h => hts w (lw_in0 w h)
  have hA : ∀ a : Nat, a < s.heap.size → ¬ (fun q : Nat => s.heap.size ≤ q) a := fun a h => Nat.not_le.mpr h
  obtain ⟨D, hD⟩ := lw_known h0
  obtain ⟨cB, b1, b2⟩ := lw_arr (hts (Cond.arrayClass .byte) (lw_ko _ (List.mem_of_getElem? (i := 4) rfl))) (fun C h => by cases h)
  obtain ⟨cI, i1, i2⟩ := lw_arr (hts (Cond.arrayClass .int) (lw_ko _ (List.mem_of_getElem? (i := 5) rfl))) (fun C h => by cases h)
  obtain ⟨cL, l1, l2⟩ := lw_arr (hts (Cond.arrayClass .long) (lw_ko _ (List.mem_of_getElem? (i := 6) rfl))) (fun C h => by cases h)
  have hov := hts (Cond.arrayOver (.object "FrameReel$Picture")) (lw_ko _ (List.mem_of_getElem? (i := 7) rfl))
  obtain ⟨cP, p1, p2⟩ := lw_arrO hov
  refine ⟨D, (cB, cI, cP, cL), ⟨hD, fun k q hk => ?_⟩, fun f hf => va_Nw.of rfl (hts _ (lw_knf _ (List.mem_map.mpr ⟨f, hf, rfl⟩))), fun f hf => va_Nw.of rfl (hts _ (lw_knm _ (List.mem_map.mpr ⟨f, hf, rfl⟩))), fun q hq => lw_ztab hq hts hfl hA, Nat.le_refl _, va_AO.of hov⟩
  match k, hk with
  | 0, hk => cases hk; exact ⟨b1, b2⟩
  | 1, hk => cases hk; exact ⟨i1, i2⟩
  | 2, hk => cases hk; exact ⟨p1, p2⟩
  | 3, hk => cases hk; exact ⟨l1, l2⟩
  | k + 4, hk => simp at hk
theorem lw_zX9 (hts : ∀ w ∈ lw_tbl, w.before args s = true) (hfl : ∀ w ∈ zFL, w.before args s = true) : zX9 s.heap.size s := by
  have hA : ∀ a : Nat, a < s.heap.size → ¬ (fun q : Nat => s.heap.size ≤ q) a := fun a h => Nat.not_le.mpr h
  exact ⟨fun w hw => va_Nw.of (zdc_tab (List.all_eq_true.mp zxB_dc w hw)) (hts _ (lw_ib w hw)), vx_Zqof (hts _ (lw_ko _ (List.mem_of_getElem? (i := 0) rfl))) (hts _ (lw_ko _ (List.mem_of_getElem? (i := 2) rfl))) (hfl _ (lw_tr _ (List.mem_of_getElem? (i := 0) rfl))) hA, vx_Zqof (hts _ (lw_ko _ (List.mem_of_getElem? (i := 1) rfl))) (hts _ (lw_ko _ (List.mem_of_getElem? (i := 2) rfl))) (hfl _ (lw_tr _ (List.mem_of_getElem? (i := 1) rfl))) hA⟩
/-- nothing is there yet -/
def z00 (z : Nat) : zS := (fun _ => 0, fun _ => 0, fun _ _ => 0, fun _ _ => none, fun _ _ => 0, z)
theorem z00_rep (D : va_G) (cs : zCs) (H : Heap) : zrep D cs H.size (z00 H.size) H := by
  refine ⟨rfl, Nat.le_refl _, fun a ha => absurd rfl ha, fun ci q hq a ha => ?_, fun a ha => ?_, fun a ha => ?_, fun a ha => ?_, fun a ha => ?_⟩
  · have h : (0 : Nat) = ci + 1 := ha
    omega
  · have h : (0 : Nat) = 20 := ha
    omega
  · have h : (0 : Nat) = 21 := ha
    omega
  · have h : (0 : Nat) = 22 := ha
    omega
  · have h : (0 : Nat) = 23 := ha
    omega
theorem Cm_lt {p i : Nat} (hi : i < 71) : Cm p (p + 1) i < p + 71 := by
  have ob : off i < 70 := by
    unfold off
    repeat' split
    all_goals omega
  unfold Cm
  split <;> omega
theorem Bm_lt {p j : Nat} (hj : j < 12) : Bm p (p + 1) j < p + 12 := by
  unfold Bm
  split <;> omega
theorem zAG_new {σ : zS} {q m a : Nat} (h : a ≠ zx σ) : zAG σ (zuN σ q m) a := ⟨by rw [zuN_k, if_neg h], by rw [zuN_n, if_neg h], fun j => by rw [zuN_i, if_neg h], fun j => by rw [zuN_r, if_neg h]⟩
/-- the law's start: the two reels, the cell -/
theorem v_new3 (σ : zS) : ∃ s1 s2, fX11_init (zuN σ 11 0) (zx σ) = some s1 ∧ fX12_init (zuN s1 12 0) (zx s1) = some s2 ∧ ∃ C B : Nat → Nat, C 0 = zx σ ∧ B 0 = zx s1 ∧ LI (zuN s2 23 1) C B (zx s2) := by
  obtain ⟨s1, s2, e1, e2, x1, x2, hV, -⟩ := v_new σ
  refine ⟨s1, s2, e1, e2, Cm (zx σ) (zx σ + 1), Bm (zx σ + 71) (zx σ + 72), rfl, x1.symm, hV.pt (fun i hi => zAG_new ?_) (fun j hj => zAG_new ?_), by rw [zuN_k, if_pos rfl], by rw [zuN_n, if_pos rfl]⟩
  · have := Cm_lt (p := zx σ) hi
    omega
  · have h9 : Bm (zx σ + 71) (zx σ + 72) j < zx σ + 71 + 12 := Bm_lt (p := zx σ + 71) hj
    omega
theorem lw_ty11 : ∀ j, j < 6 → zty 10 j = .int ∨ zty 10 j = .boolean ∨ zref (zty 10 j) = true := by decide
theorem lw_ty12 : ∀ j, j < 32 → zty 11 j = .int ∨ zty 11 j = .boolean ∨ zref (zty 11 j) = true := by decide
theorem lw_iX11 : zYI yX11_init cX11_init 2 0 := ⟨zr_1 _ (List.mem_of_getElem? (i := 8) rfl), zr_1 _ (List.mem_of_getElem? (i := 2) rfl), zr_1 _ (List.mem_of_getElem? (i := 9) rfl), rfl, by decide +kernel⟩
theorem lw_iX12 : zYI yX12_init cX12_init 1 0 := ⟨zr_6 _ (List.mem_of_getElem? (i := 0) rfl), zr_1 _ (List.mem_of_getElem? (i := 5) rfl), zr_6 _ (List.mem_of_getElem? (i := 1) rfl), rfl, by decide +kernel⟩
set_option maxRecDepth 100000 in
theorem lw_begin {Γ : zG} {b : Nat} {xl : List Int32} (E : zE Γ cL_law RL 7 room_1) (hL : LL Γ b xl) (Kend : ∀ (σ : zS) (k n : Nat) (lv : List (Nat × Value)), k ≤ 601024 → n ≤ 7293034 → zJ Γ 7 k n σ 645 lv [.int 1]) (σ : zS) : zJ Γ 7 0 0 σ 0 [(0, .ref b)] [] := by
  obtain ⟨s1, s2, e1, e2, C, B, hc, hb, hI⟩ := v_new3 σ
  refine zs_new (ci := 10) E zc10 (zr_1 _ (List.mem_of_getElem? (i := 0) rfl)) (zr_1 _ (List.mem_of_getElem? (i := 1) rfl)) (zr_1 _ (List.mem_of_getElem? (i := 2) rfl)) lw_ty11 ⟨by decide, by decide⟩ dL_law_0 ?_
  refine zj_dup E dL_law_3 rfl ?_
  refine zs_callI (As := []) (rest := [.ref (zx σ)]) E lw_iX11 (zr_1 _ (List.mem_of_getElem? (i := 7) rfl)) (kX11_init _ _ _ _ _ e1) rfl rfl rfl ⟨by decide, by decide⟩ ⟨by decide, by decide⟩ (Nat.le_of_ble_eq_true rfl) dL_law_4 rfl (show zJ Γ 7 71 33942 s1 7 [(0, .ref b)] [.ref (zx σ)] from ?_)
  refine zj_astore_n (lv2 := [(1, .ref (zx σ)), (0, .ref b)]) E dL_law_7 rfl (by decide) rfl ?_
  refine zs_new (ci := 11) E zc11 (zr_1 _ (List.mem_of_getElem? (i := 3) rfl)) (zr_1 _ (List.mem_of_getElem? (i := 4) rfl)) (zr_1 _ (List.mem_of_getElem? (i := 5) rfl)) lw_ty12 ⟨by decide, by decide⟩ dL_law_8 ?_
  refine zj_dup E dL_law_11 rfl ?_
  refine zs_callI (As := []) (rest := [.ref (zx s1)]) E lw_iX12 (zr_5 _ (List.mem_of_getElem? (i := 23) rfl)) (kX12_init _ _ _ _ _ e2) rfl rfl rfl ⟨by decide, by decide⟩ ⟨by decide, by decide⟩ (Nat.le_of_ble_eq_true rfl) dL_law_12 rfl (show zJ Γ 7 83 71062 s2 15 [(1, .ref (zx σ)), (0, .ref b)] [.ref (zx s1)] from ?_)
  refine zj_astore_n (lv2 := [(2, .ref (zx s1)), (1, .ref (zx σ)), (0, .ref b)]) E dL_law_15 rfl (by decide) rfl ?_
  refine zj_iconst (v := 1) E dL_law_16 (by decide) ?_
  refine zs_newL (N := 1) E (zr_1 _ (List.mem_of_getElem? (i := 6) rfl)) (by decide) (by decide) (by decide) ⟨by decide, by decide⟩ dL_law_17 ?_
  refine zj_astore_n (lv2 := [(3, .ref (zx s2)), (2, .ref (zx s1)), (1, .ref (zx σ)), (0, .ref b)]) E dL_law_19 rfl (by decide) rfl ?_
  refine zj_iconst (v := nI (7 * 0)) E dL_law_20 (by decide) ?_
  refine zj_istore (lv2 := [(4, .int (nI (7 * 0))), (3, .ref (zx s2)), (2, .ref (zx s1)), (1, .ref (zx σ)), (0, .ref b)]) E dL_law_21 (by decide) rfl ?_
  refine zj_lv [4, 3, 2, 1, 0] rfl ?_
  rw [← hc, ← hb]
  have hlen : xl.length ≤ 3584 := hL.2.2.2.2
  exact lw_loop E hL Kend 3584 0 _ _ _ (by omega) (by omega) (by omega) (by omega) hI
end LSTART
