/-! THE LAW: the cases with a branch of their own, first and pixel -/
section LCASE2
variable {Γ : zG} {b ob j k n pc : Nat} {xl : List Int32} {σ : zS} {C B : Nat → Nat} {lv : List (Nat × Value)} {st : List Value}
theorem lw_zT (E : zE Γ cL_law RL 7 room_1) {x : Int32} {off : Int} {tgt : Nat} (hd : decode cL_law pc = .ok (.ifCond .eq off, 3)) (ht : (pc : Int) + off = (tgt : Int)) (hx : x = 0) (kk : zJ Γ 7 k n σ tgt lv st) : zJ Γ 7 k n σ pc lv (.int x :: st) := fun H locs ls hP hS hl => lv_if_eq E.hx E.hb hd ht (fun _ => kk H locs ls hP hS hl) (fun c => absurd hx c)
theorem lw_zF (E : zE Γ cL_law RL 7 room_1) {x : Int32} {off : Int} {tgt : Nat} (hd : decode cL_law pc = .ok (.ifCond .eq off, 3)) (ht : (pc : Int) + off = (tgt : Int)) (hx : x ≠ 0) (kk : zJ Γ 7 k n σ (pc + 3) lv st) : zJ Γ 7 k n σ pc lv (.int x :: st) := fun H locs ls hP hS hl => lv_if_eq E.hx E.hb hd ht (fun c => absurd c hx) (fun _ => kk H locs ls hP hS hl)
theorem lw_nT (E : zE Γ cL_law RL 7 room_1) {x : Int32} {off : Int} {tgt : Nat} (hd : decode cL_law pc = .ok (.ifCond .ne off, 3)) (ht : (pc : Int) + off = (tgt : Int)) (hx : x ≠ 0) (kk : zJ Γ 7 k n σ tgt lv st) : zJ Γ 7 k n σ pc lv (.int x :: st) := fun H locs ls hP hS hl => lv_if_ne E.hx E.hb hd ht (fun _ => kk H locs ls hP hS hl) (fun c => absurd c hx)
theorem lw_nF (E : zE Γ cL_law RL 7 room_1) {x : Int32} {off : Int} {tgt : Nat} (hd : decode cL_law pc = .ok (.ifCond .ne off, 3)) (ht : (pc : Int) + off = (tgt : Int)) (hx : x = 0) (kk : zJ Γ 7 k n σ (pc + 3) lv st) : zJ Γ 7 k n σ pc lv (.int x :: st) := fun H locs ls hP hS hl => lv_if_ne E.hx E.hb hd ht (fun c => absurd hx c) (fun _ => kk H locs ls hP hS hl)
/-- a truth value out of a number -/
def xb (x : Int32) : Nat := if x = 0 then 0 else 1
theorem xb_le (x : Int32) : xb x ≤ 1 := by unfold xb; split <;> decide
theorem lw_b1 (E : zE Γ cL_law RL 7 room_1) {x : Int32} (kk : zJ Γ 7 k n σ 444 lv (.int (nI (xb x)) :: st)) : zJ Γ 7 k n σ 436 lv (.int x :: st) := by
  unfold xb at kk
  by_cases hx : x = 0
  · rw [if_pos hx] at kk
    exact lw_zT (tgt := 443) E dL_law_436 (by decide) hx (zj_iconst (v := nI 0) E dL_law_443 (by decide) kk)
  · rw [if_neg hx] at kk
    exact lw_zF (tgt := 443) E dL_law_436 (by decide) hx (zj_iconst (v := nI 1) E dL_law_439 (by decide) (zj_goto (tgt := 444) E dL_law_440 (by decide) kk))
theorem lw_b2 (E : zE Γ cL_law RL 7 room_1) {x : Int32} (kk : zJ Γ 7 k n σ 462 lv (.int (nI (xb x)) :: st)) : zJ Γ 7 k n σ 454 lv (.int x :: st) := by
  unfold xb at kk
  by_cases hx : x = 0
  · rw [if_pos hx] at kk
    exact lw_zT (tgt := 461) E dL_law_454 (by decide) hx (zj_iconst (v := nI 0) E dL_law_461 (by decide) kk)
  · rw [if_neg hx] at kk
    exact lw_zF (tgt := 461) E dL_law_454 (by decide) hx (zj_iconst (v := nI 1) E dL_law_457 (by decide) (zj_goto (tgt := 462) E dL_law_458 (by decide) kk))
set_option maxRecDepth 100000 in
theorem lc_7 (E : zE Γ cL_law RL 7 room_1) (hL : LL Γ b xl) (hj : 7 * j + 7 ≤ xl.length) (hI : LI σ C B ob) (hk : k ≤ 601000) (hn : n ≤ 7290000) (K : ∀ σ' k' n', k' ≤ k + 1 → n' ≤ n + 6 → LI σ' C B ob → zJ Γ 7 k' n' σ' 638 (LV b (C 0) (B 0) ob (nI (7 * j))) []) : zJ Γ 7 k n σ 429 (LV b (C 0) (B 0) ob (nI (7 * j))) [] := by
  refine zj_aload_n E dL_law_429 rfl 1 rfl ?_
  refine lw_arg (c := 1) E hL hj (by decide) dL_law_430 dL_law_431 dL_law_433 rfl dL_law_434 dL_law_435 ?_
  refine lw_b1 E ?_
  obtain ⟨r, s1, s2, e1, e2, hV, hF⟩ := v_first hI.1 (xb_le (xa xl j 1))
  refine zs_callV (As := [.int (nI (xb (xa xl j 1)))]) (rest := []) E zc10 lw_yX11_first lw_mX11_first (kX11_first _ _ _ _ _ e1) rfl rfl (v_main hI.1) rfl ⟨by decide, by decide⟩ (lw_room hk hn) (Nat.le_of_ble_eq_true rfl) dL_law_444 rfl (show zJ Γ 7 k n s1 447 (LV b (C 0) (B 0) ob (nI (7 * j))) [.int r] from ?_)
  refine zj_aload_n E dL_law_447 rfl 2 rfl ?_
  refine lw_arg (c := 1) E hL hj (by decide) dL_law_448 dL_law_449 dL_law_451 rfl dL_law_452 dL_law_453 ?_
  refine lw_b2 E ?_
  refine zs_callV (As := [.int (nI (xb (xa xl j 1)))]) (rest := [.int r]) E zc11 lw_yX12_first lw_mX12_first (kX12_first _ _ _ _ _ e2) rfl rfl (by unfold fX12_first at e2; exact lw_kB e2) rfl ⟨by decide, by decide⟩ (lw_room hk hn) (Nat.le_of_ble_eq_true rfl) dL_law_462 rfl (show zJ Γ 7 k n s2 465 (LV b (C 0) (B 0) ob (nI (7 * j))) [.int r, .int r] from ?_)
  exact lw_eqT (tgt := 638) E dL_law_465 (by decide) (K _ _ _ (Nat.le_succ _) (Nat.le_add_right _ _) (hI.fr hV hF))
/-! pixel -/
theorem lw_yL : (yL_pixel.cls ≠ "java/lang/invoke/MethodHandle" ∧ yL_pixel.cls ≠ "java/lang/invoke/VarHandle" ∧ (parseMethodDescriptor yL_pixel.desc).map (fun d => d.parameters.length) = some 4) := by decide +kernel
theorem lw_wsS {Ts ws' : List Cond} (h0 : ∀ w ∈ wsL_law0, w ∈ Ts) (h1 : ∀ w ∈ ws', w ∈ Ts) : ∀ w ∈ va_wsS RL 65 yL_pixel (Cond.codeWith yL_pixel cL_pixel 5 (some .int) yh :: ws'), w ∈ Ts := by
  have y1 : Cond.methodLink RL 65 yL_pixel ∈ wsL_law0 := zr_29 _ (List.mem_of_getElem? (i := 5) rfl)
  have y2 : Cond.static yL_pixel ∈ wsL_law0 := zr_29 _ (List.mem_of_getElem? (i := 6) rfl)
  have y3 : Cond.initialized yL_pixel.cls ∈ wsL_law0 := zr_29 _ (List.mem_of_getElem? (i := 7) rfl)
  have y4 : Cond.codeWith yL_pixel cL_pixel 5 (some .int) yh ∈ wsL_law0 := zr_29 _ (List.mem_of_getElem? (i := 8) rfl)
  intro w hw'
  unfold va_wsS at hw'
  rcases List.mem_append.mp hw' with h | h
  · simp only [List.mem_cons, List.not_mem_nil, or_false] at h
    rcases h with rfl | rfl | rfl <;> exact h0 _ (by assumption)
  · rcases List.mem_cons.mp h with rfl | h
    · exact h0 _ y4
    · exact h1 _ h
set_option maxRecDepth 100000 in
theorem lw_pixR (E : zE Γ cL_law RL 7 room_1) {p0 : Nat} {x y r : Int32} (h : gpix σ p0 x y = some (some r)) (hm : zk σ p0 = 11) (hk1 : zk σ ob = 23) (hn1 : zn σ ob = 1) (hk : k ≤ 601000) (hn : n ≤ 7290000) (kk : zJ Γ 7 k n (zuL σ ob 0 r.toInt64) 549 lv [.int 0]) : zJ Γ 7 k n σ 546 lv [.ref ob, .int y, .int x, .ref p0] := by
  refine zs_call (mc := 0) (ms := 0) (rest := []) (v := some (.int 0)) (a := [Value.ref p0, .int x, .int y, .ref ob].toArray) (fun H locs ls hP hS hl => vx_runSW (As := [Value.ref p0, .int x, .int y, .ref ob]) (rest := []) (hh := yh) (zfix E) (kL_pixR (zgl Γ) (zgD Γ) (zgC Γ) (zgz Γ) h hm hk1 hn1) (vx_cwSW 4 E.ht (zGood (lw_wsS (fun _ h => h) (fun _ h => h))) rfl rfl rfl lw_yL (by rw [E.hR]; exact ⟨by decide, by decide⟩)) ⟨zP_blind, zpre E hP hS⟩ rfl rfl hl.1 rfl (Nat.le_of_ble_eq_true rfl) dL_law_546 (by rw [E.hR]; exact lw_room hk hn)) kk
set_option maxRecDepth 100000 in
theorem lw_pixT (E : zE Γ cL_law RL 7 room_1) (hL : LL Γ b xl) {p0 : Nat} {x y : Int32} (h : gpix σ p0 x y = some none) (hm : zk σ p0 = 11) (hk : k ≤ 601000) (hn : n ≤ 7290000) (kk : ∀ z, zJ Γ 7 (k + 1) (n + 6) (zuX σ z) 549 lv [.int 1]) : zJ Γ 7 k n σ 546 lv [.ref ob, .int y, .int x, .ref p0] := by
  intro H locs ls hP hS hl
  obtain ⟨-, hX, hst, hg, -⟩ := hL
  have hts1 : ∀ w ∈ zxW, w.before (zga Γ) (zgs Γ) = true := fun w hw => (List.mem_append.mp hw).elim (fun q => E.ht w q) (fun q => hg w q)
  have hrun := vx_runSW (p := zgp Γ) (l := zgl Γ) (e := zge Γ) (R := zgR Γ) (s := zgs Γ) (m := zgm Γ) (args := zga Γ) (below := zgb Γ) (meth := zgt Γ) (c := zgc Γ) (H := H) (locs := locs) (cells := k) (slots := n) (g := F0 (zgm Γ) 546 ls [.ref ob, .int y, .int x, .ref p0]) (As := [Value.ref p0, .int x, .int y, .ref ob]) (rest := []) (hh := yh) (Ts := zxW) ⟨E.hx, E.hb, E.hm, E.ho, hts1⟩ (kL_pixT (ob := ob) hst (zgD Γ) (zgC Γ) (zgz Γ) h hm) (vx_cwSW 4 hts1 (zGoodX (lw_wsS zxW0 (fun _ h => h))) rfl rfl rfl lw_yL (by rw [E.hR]; exact ⟨by decide, by decide⟩)) ⟨zPx_blind, fun U hU hW => ⟨rfl, by rw [hU]; exact hP, zK_moved E.hK hW (by rw [hU]; exact hS.1) (fun q h1 h2 => by rw [hU]; exact hS.2.1 q h1 h2), zX9_moved hX hW (fun q h1 h2 => by rw [hU]; exact hS.2.1 q h1 h2)⟩⟩ rfl rfl hl.1 rfl (Nat.le_of_ble_eq_true rfl) dL_law_546 (by rw [E.hR]; exact ⟨Nat.le_trans (Nat.add_le_add_right hk 1) (Nat.le_of_ble_eq_true rfl), Nat.le_trans (Nat.add_le_add_right hn 6) (Nat.le_of_ble_eq_true rfl)⟩)
  intro T hT X
  obtain ⟨v', st₀, t, T', L, h0, X', hLq, e1, e2, ⟨hv, hB, hz, hkq⟩, stp⟩ := hrun T hT X
  cases hv
  rw [h0] at hz hkq
  obtain ⟨t2, a1, b1⟩ := kk t.heap.size T'.heap (locs ++ L) ls (by rw [e1]; exact hB)
    ⟨Nat.le_trans hS.1 (by rw [e1]; exact hz), fun q h1 h2 => by rw [e1, hkq q (Nat.lt_of_lt_of_le h1 hS.1) h2]; exact hS.2.1 q h1 h2, fun q hq => by
      rcases List.mem_append.mp hq with h | h
      · exact hS.2.2 q h
      · exact hLq q h⟩ hl T' rfl X'
  exact ⟨t2, stp t2 a1, b1⟩
theorem lg_cmp_self (x : Int64) : lg_cmp x x = 0 := by
  have h : ¬ x < x := Int64.lt_irrefl
  simp [lg_cmp, h]
theorem INV.pX {z : Nat} (h : INV σ C B) : INV (zuX σ z) C B := h.pt (fun _ _ => ⟨rfl, rfl, fun _ => rfl, fun _ => rfl⟩) (fun _ _ => ⟨rfl, rfl, fun _ => rfl, fun _ => rfl⟩)
theorem INV.pL {a i : Nat} {v : Int64} (h : INV σ C B) : INV (zuL σ a i v) C B := h.pt (fun _ _ => ⟨rfl, rfl, fun _ => rfl, fun _ => rfl⟩) (fun _ _ => ⟨rfl, rfl, fun _ => rfl, fun _ => rfl⟩)
theorem gpix_X {z p0 : Nat} {x y : Int32} : gpix (zuX σ z) p0 x y = gpix σ p0 x y := rfl
theorem gpix_L {a i p0 : Nat} {v : Int64} {x y : Int32} : gpix (zuL σ a i v) p0 x y = gpix σ p0 x y := rfl
abbrev LW (b c m o : Nat) (i f : Int32) : List (Nat × Value) := (5, .int f) :: LV b c m o i
/-! behind the call: the reference is asked, the answers are compared -/
set_option maxRecDepth 100000 in
theorem lw_pix2 (E : zE Γ cL_law RL 7 room_1) (hL : LL Γ b xl) (hj : 7 * j + 7 ≤ xl.length) (hI : LI σ C B ob) (hk : k ≤ 601001) (hn : n ≤ 7290006) {f v : Int32} (hf : f = 0 ∨ f = 1) (e2 : fX12_pixel σ (B 0) (xa xl j 1) (xa xl j 2) = some (v, zuI σ (B 0) 0 f)) (hV : INV (zuI σ (B 0) 0 f) C B) (hF : FR C B σ (zuI σ (B 0) 0 f)) (hl1 : f = 0 → zl σ ob 0 = v.toInt64) (K : ∀ σ', LI σ' C B ob → zJ Γ 7 k n σ' 638 (LV b (C 0) (B 0) ob (nI (7 * j))) []) : zJ Γ 7 k n σ 549 (LV b (C 0) (B 0) ob (nI (7 * j))) [.int f] := by
  have hrm : k + 0 ≤ room_1.cells ∧ n + 0 ≤ room_1.slots := ⟨Nat.le_trans hk (Nat.le_of_ble_eq_true rfl), Nat.le_trans hn (Nat.le_of_ble_eq_true rfl)⟩
  refine zj_istore (lv2 := LW b (C 0) (B 0) ob (nI (7 * j)) f) E dL_law_549 (by decide) rfl ?_
  refine zj_aload_n E dL_law_551 rfl 3 rfl ?_
  refine lw_argG (c := 1) E hL 1 5 rfl rfl hj (by decide) dL_law_552 dL_law_553 dL_law_555 rfl dL_law_556 dL_law_557 ?_
  refine lw_argG (c := 2) E hL 1 5 rfl rfl hj (by decide) dL_law_558 dL_law_559 dL_law_561 rfl dL_law_562 dL_law_563 ?_
  refine zs_callV (As := [.int (xa xl j 1), .int (xa xl j 2)]) (rest := []) E zc11 lw_yX12_pixel lw_mX12_pixel (kX12_pixel _ _ _ _ _ e2) rfl rfl (v_thrown hI.1) rfl ⟨by decide, by decide⟩ hrm (Nat.le_of_ble_eq_true rfl) dL_law_564 rfl (show zJ Γ 7 k n (zuI σ (B 0) 0 f) 567 (LW b (C 0) (B 0) ob (nI (7 * j)) f) [.int v] from ?_)
  refine zj_istore (lv2 := (6, .int v) :: LW b (C 0) (B 0) ob (nI (7 * j)) f) E dL_law_567 (by decide) rfl ?_
  refine zj_aload_n E dL_law_569 rfl 4 rfl ?_
  have ht : fX12_thrown (zuI σ (B 0) 0 f) (B 0) = some f := by
    unfold fX12_thrown
    rw [oGI_eq (v_thrown hV) (show zi (zuI σ (B 0) 0 f) (B 0) 0 = f by rw [zuI_at, if_pos rfl])]
  refine zs_callV (As := []) (rest := []) E zc11 lw_yX12_thrown lw_mX12_thrown (kX12_thrown _ _ _ _ _ ht) rfl rfl (v_thrown hV) rfl ⟨by decide, by decide⟩ hrm (Nat.le_of_ble_eq_true rfl) dL_law_570 rfl (show zJ Γ 7 k n (zuI σ (B 0) 0 f) 573 ((6, .int v) :: LW b (C 0) (B 0) ob (nI (7 * j)) f) [.int f] from ?_)
  refine zj_iload E dL_law_573 1 rfl ?_
  refine lw_eqT (tgt := 580) E dL_law_575 (by decide) ?_
  refine zj_iload E dL_law_580 1 rfl ?_
  have hend : zJ Γ 7 k n (zuI σ (B 0) 0 f) 597 ((6, .int v) :: LW b (C 0) (B 0) ob (nI (7 * j)) f) [] := by
    refine zj_goto (tgt := 638) E dL_law_597 (by decide) ?_
    refine zj_lv [2, 3, 4, 5, 6] rfl ?_
    exact K _ (hI.fr hV hF)
  rcases hf with rfl | rfl
  · refine lw_nF (tgt := 597) E dL_law_582 (by decide) rfl ?_
    refine zj_aload_n E dL_law_585 rfl 5 rfl ?_
    refine zj_iconst (v := 0) E dL_law_586 (by decide) ?_
    refine zs_lald E dL_law_587 ⟨hI.2.1, by decide, by rw [show zn (zuI σ (B 0) 0 0) ob = zn σ ob from rfl, hI.2.2]; decide⟩ (hl1 rfl) ?_
    refine zj_iload E dL_law_588 0 rfl ?_
    refine zj_i2l E dL_law_590 ?_
    refine zj_lcmp E dL_law_591 ?_
    exact lw_zT (tgt := 597) E dL_law_592 (by decide) (lg_cmp_self _) hend
  · exact lw_nT (tgt := 597) E dL_law_582 (by decide) (by decide) hend
set_option maxRecDepth 100000 in
theorem lc_10 (E : zE Γ cL_law RL 7 room_1) (hL : LL Γ b xl) (hj : 7 * j + 7 ≤ xl.length) (hI : LI σ C B ob) (hk : k ≤ 601000) (hn : n ≤ 7290000) (K : ∀ σ' k' n', k' ≤ k + 1 → n' ≤ n + 6 → LI σ' C B ob → zJ Γ 7 k' n' σ' 638 (LV b (C 0) (B 0) ob (nI (7 * j))) []) : zJ Γ 7 k n σ 532 (LV b (C 0) (B 0) ob (nI (7 * j))) [] := by
  refine zj_aload_n E dL_law_532 rfl 1 rfl ?_
  refine lw_arg (c := 1) E hL hj (by decide) dL_law_533 dL_law_534 dL_law_536 rfl dL_law_537 dL_law_538 ?_
  refine lw_arg (c := 2) E hL hj (by decide) dL_law_539 dL_law_540 dL_law_542 rfl dL_law_543 dL_law_544 ?_
  refine zj_aload_n E dL_law_545 rfl 3 rfl ?_
  have hv0 := v_pixel hI.1 (xa xl j 1) (xa xl j 2)
  rcases hv0 with ⟨v, e1, -⟩ | ⟨e1, -⟩
  · refine lw_pixR E e1 (v_main hI.1) hI.2.1 hI.2.2 hk hn ?_
    have hI1 : LI (zuL σ ob 0 v.toInt64) C B ob := ⟨hI.1.pL, hI.2.1, hI.2.2⟩
    have hl1 : zl (zuL σ ob 0 v.toInt64) ob 0 = v.toInt64 := by rw [zuL_at, if_pos rfl]
    have hv1 := v_pixel hI1.1 (xa xl j 1) (xa xl j 2)
    rw [gpix_L, e1] at hv1
    generalize zuL σ ob 0 v.toInt64 = s1 at hI1 hl1 hv1 ⊢
    rcases hv1 with ⟨v', ev, e2, hV, hF⟩ | ⟨ev, -⟩
    · cases ev
      exact lw_pix2 E hL hj hI1 (by omega) (by omega) (Or.inl rfl) e2 hV hF (fun _ => hl1) (fun σ' h => K σ' k n (by omega) (by omega) h)
    · cases ev
  · refine lw_pixT E hL e1 (v_main hI.1) hk hn (fun z => ?_)
    have hI1 : LI (zuX σ z) C B ob := ⟨hI.1.pX, hI.2.1, hI.2.2⟩
    have hv1 := v_pixel hI1.1 (xa xl j 1) (xa xl j 2)
    rw [gpix_X, e1] at hv1
    generalize zuX σ z = s1 at hI1 hv1 ⊢
    rcases hv1 with ⟨v', ev, -⟩ | ⟨ev, e2, hV, hF⟩
    · cases ev
    · exact lw_pix2 E hL hj hI1 (by omega) (by omega) (Or.inr rfl) e2 hV hF (fun q => absurd q (by decide)) (fun σ' h => K σ' (k + 1) (n + 6) (by omega) (by omega) h)
end LCASE2
