/-! THE LAW: its loop -/
section LLOOP
variable {Γ : zG} {b ob k n pc : Nat} {xl : List Int32} {σ : zS} {C B : Nat → Nat} {lv : List (Nat × Value)} {st : List Value}
theorem zJ_widen {nL k' n' : Nat} (h1 : k ≤ k') (h2 : n ≤ n') (kk : zJ Γ nL k' n' σ pc lv st) : zJ Γ nL k n σ pc lv st := fun H locs ls hP hS hl => W.widen h1 h2 (kk H locs ls hP hS hl)
theorem lw_gtT (E : zE Γ cL_law RL 7 room_1) {x y : Int32} {off : Int} {tgt : Nat} (hd : decode cL_law pc = .ok (.if_icmp .gt off, 3)) (ht : (pc : Int) + off = (tgt : Int)) (hx : y < x) (kk : zJ Γ 7 k n σ tgt lv st) : zJ Γ 7 k n σ pc lv (.int y :: .int x :: st) := fun H locs ls hP hS hl => lv_icmp_gt E.hx E.hb hd ht (fun _ => kk H locs ls hP hS hl) (fun c => absurd hx c)
theorem lw_gtF (E : zE Γ cL_law RL 7 room_1) {x y : Int32} {off : Int} {tgt : Nat} (hd : decode cL_law pc = .ok (.if_icmp .gt off, 3)) (ht : (pc : Int) + off = (tgt : Int)) (hx : ¬ y < x) (kk : zJ Γ 7 k n σ (pc + 3) lv st) : zJ Γ 7 k n σ pc lv (.int y :: .int x :: st) := fun H locs ls hP hS hl => lv_icmp_gt E.hx E.hb hd ht (fun c => absurd c hx) (fun _ => kk H locs ls hP hS hl)
theorem lw_sub7 {m : Nat} (h : m < 2147483648) : (nI m - 7).toInt = (m : Int) - 7 := by
  rw [Int32.toInt_sub, zt_nI h]
  have e : (7 : Int32).toInt = 7 := by decide
  rw [e]
  have e2 : ((m : Int) - 7).bmod (2 ^ 32) = (m : Int) - 7 := by
    rw [Int.bmod_eq_of_le (by omega) (by omega)]
  exact e2
theorem lw_out {v : Int32} (h0 : v ≠ 0) (h1 : v ≠ 1) (h2 : v ≠ 2) (h3 : v ≠ 3) (h4 : v ≠ 4) (h5 : v ≠ 5) (h6 : v ≠ 6) (h7 : v ≠ 7) (h8 : v ≠ 8) (h9 : v ≠ 9) (h10 : v ≠ 10) (h11 : v ≠ 11) (h12 : v ≠ 12) : v.toInt < 0 ∨ 12 < v.toInt := by
  have key : ∀ c : Nat, c < 13 → v ≠ nI c → v.toInt ≠ (c : Int) := fun c hc hv e => hv (Int32.toInt_inj.mp (e.trans (zt_nI (by omega)).symm))
  have k0 := key 0 (by decide) h0
  have k1 := key 1 (by decide) h1
  have k2 := key 2 (by decide) h2
  have k3 := key 3 (by decide) h3
  have k4 := key 4 (by decide) h4
  have k5 := key 5 (by decide) h5
  have k6 := key 6 (by decide) h6
  have k7 := key 7 (by decide) h7
  have k8 := key 8 (by decide) h8
  have k9 := key 9 (by decide) h9
  have k10 := key 10 (by decide) h10
  have k11 := key 11 (by decide) h11
  have k12 := key 12 (by decide) h12
  omega
set_option maxRecDepth 100000 in
theorem lw_switch (E : zE Γ cL_law RL 7 room_1) {v : Int32} (k0 : zJ Γ 7 k n σ 108 lv st) (k1 : zJ Γ 7 k n σ 145 lv st) (k2 : zJ Γ 7 k n σ 206 lv st) (k3 : zJ Γ 7 k n σ 219 lv st) (k4 : zJ Γ 7 k n σ 232 lv st) (k5 : zJ Γ 7 k n σ 281 lv st) (k6 : zJ Γ 7 k n σ 368 lv st) (k7 : zJ Γ 7 k n σ 429 lv st) (k8 : zJ Γ 7 k n σ 470 lv st) (k9 : zJ Γ 7 k n σ 507 lv st) (k10 : zJ Γ 7 k n σ 532 lv st) (k11 : zJ Γ 7 k n σ 600 lv st) (k12 : zJ Γ 7 k n σ 613 lv st) (kd : zJ Γ 7 k n σ 638 lv st) : zJ Γ 7 k n σ 40 lv (.int v :: st) := by
  by_cases e0 : v = 0
  · exact zj_tIn (tgt := 108) E e0 dL_law_40 (by decide) (by decide) rfl (by decide) k0
  by_cases e1 : v = 1
  · exact zj_tIn (tgt := 145) E e1 dL_law_40 (by decide) (by decide) rfl (by decide) k1
  by_cases e2 : v = 2
  · exact zj_tIn (tgt := 206) E e2 dL_law_40 (by decide) (by decide) rfl (by decide) k2
  by_cases e3 : v = 3
  · exact zj_tIn (tgt := 219) E e3 dL_law_40 (by decide) (by decide) rfl (by decide) k3
  by_cases e4 : v = 4
  · exact zj_tIn (tgt := 232) E e4 dL_law_40 (by decide) (by decide) rfl (by decide) k4
  by_cases e5 : v = 5
  · exact zj_tIn (tgt := 281) E e5 dL_law_40 (by decide) (by decide) rfl (by decide) k5
  by_cases e6 : v = 6
  · exact zj_tIn (tgt := 368) E e6 dL_law_40 (by decide) (by decide) rfl (by decide) k6
  by_cases e7 : v = 7
  · exact zj_tIn (tgt := 429) E e7 dL_law_40 (by decide) (by decide) rfl (by decide) k7
  by_cases e8 : v = 8
  · exact zj_tIn (tgt := 470) E e8 dL_law_40 (by decide) (by decide) rfl (by decide) k8
  by_cases e9 : v = 9
  · exact zj_tIn (tgt := 507) E e9 dL_law_40 (by decide) (by decide) rfl (by decide) k9
  by_cases e10 : v = 10
  · exact zj_tIn (tgt := 532) E e10 dL_law_40 (by decide) (by decide) rfl (by decide) k10
  by_cases e11 : v = 11
  · exact zj_tIn (tgt := 600) E e11 dL_law_40 (by decide) (by decide) rfl (by decide) k11
  by_cases e12 : v = 12
  · exact zj_tIn (tgt := 613) E e12 dL_law_40 (by decide) (by decide) rfl (by decide) k12
  exact zj_tOut (tgt := 638) E dL_law_40 (lw_out e0 e1 e2 e3 e4 e5 e6 e7 e8 e9 e10 e11 e12) (by decide) kd
set_option maxRecDepth 100000 in
theorem lw_loop (E : zE Γ cL_law RL 7 room_1) (hL : LL Γ b xl) (Kend : ∀ (σ : zS) (k n : Nat) (lv : List (Nat × Value)), k ≤ 601024 → n ≤ 7293034 → zJ Γ 7 k n σ 645 lv [.int 1]) : ∀ (N j : Nat) (σ : zS) (k n : Nat), xl.length ≤ 7 * j + N → 7 * j ≤ 3584 + 7 → k ≤ 100 + j → n ≤ 80000 + 6 * j → LI σ C B ob → zJ Γ 7 k n σ 23 (LV b (C 0) (B 0) ob (nI (7 * j))) [] := by
  have hlen : xl.length ≤ 3584 := hL.2.2.2.2
  intro N
  induction N with
  | zero =>
    intro j σ k n h1 h2 h3 h4 hI
    refine zj_iload E dL_law_23 4 rfl ?_
    refine zj_aload_n E dL_law_25 rfl 0 rfl ?_
    refine zs_tln (v := nI xl.length) E hL.1 rfl dL_law_26 ?_
    refine zj_bipush (v := 7) E dL_law_27 (by decide) ?_
    refine zj_isub E dL_law_29 ?_
    refine lw_gtT (tgt := 644) E dL_law_30 (by decide) (by rw [zlt, lw_sub7 (by omega), zt_nI (by omega)]; omega) ?_
    refine zj_iconst (v := 1) E dL_law_644 (by decide) ?_
    exact Kend _ _ _ _ (by omega) (by omega)
  | succ N ih =>
    intro j σ k n h1 h2 h3 h4 hI
    refine zj_iload E dL_law_23 4 rfl ?_
    refine zj_aload_n E dL_law_25 rfl 0 rfl ?_
    refine zs_tln (v := nI xl.length) E hL.1 rfl dL_law_26 ?_
    refine zj_bipush (v := 7) E dL_law_27 (by decide) ?_
    refine zj_isub E dL_law_29 ?_
    by_cases hd : xl.length < 7 * j + 7
    · refine lw_gtT (tgt := 644) E dL_law_30 (by decide) (by rw [zlt, lw_sub7 (by omega), zt_nI (by omega)]; omega) ?_
      refine zj_iconst (v := 1) E dL_law_644 (by decide) ?_
      exact Kend _ _ _ _ (by omega) (by omega)
    · have hj : 7 * j + 7 ≤ xl.length := by omega
      refine lw_gtF (tgt := 644) E dL_law_30 (by decide) (by rw [zlt, lw_sub7 (by omega), zt_nI (by omega)]; omega) ?_
      refine zj_aload_n E dL_law_33 rfl 0 rfl ?_
      refine zj_iload E dL_law_34 4 rfl ?_
      have e0 : nI (7 * j) = nI (7 * j) + nI 0 := by rw [nI_add, Nat.add_zero]
      have hld : ∀ st', zJ Γ 7 k n σ 37 (LV b (C 0) (B 0) ob (nI (7 * j))) (.int (xa xl j 0) :: st') → zJ Γ 7 k n σ 36 (LV b (C 0) (B 0) ob (nI (7 * j))) (.int (nI (7 * j)) :: .ref b :: st') := fun st' h => by
        have q := lw_ld (c := 0) E hL hj (by decide) dL_law_36 h
        rw [← e0] at q
        exact q
      refine hld _ ?_
      refine zj_bipush (v := 15) E dL_law_37 (by decide) ?_
      refine zj_iand E dL_law_39 ?_
      have K : ∀ σ' k' n', k' ≤ k + 1 → n' ≤ n + 6 → LI σ' C B ob → zJ Γ 7 k' n' σ' 638 (LV b (C 0) (B 0) ob (nI (7 * j))) [] := by
        intro σ' k' n' g1 g2 hI'
        have e7 : nI (7 * (j + 1)) = nI (7 * j) + Int32.ofInt 7 := by
          rw [show 7 * (j + 1) = 7 * j + 7 by omega, ← nI_add]
          rfl
        refine zj_iincC (v := nI (7 * (j + 1))) (lv2 := [(4, .int (nI (7 * (j + 1)))), (0, .ref b), (1, .ref (C 0)), (2, .ref (B 0)), (3, .ref ob)]) E dL_law_638 4 rfl e7 (by decide) rfl ?_
        refine zj_goto (tgt := 23) E dL_law_641 (by decide) ?_
        refine zj_lv [1, 2, 3, 4, 0] rfl ?_
        exact ih (j + 1) σ' k' n' (by omega) (by omega) (by omega) (by omega) hI'
      have hk : k ≤ 601000 := by omega
      have hn : n ≤ 7290000 := by omega
      exact lw_switch E (lc_0 E hL hj hI hk hn K) (lc_1 E hL hj hI hk hn K) (lc_2 E hL hj hI hk hn K) (lc_3 E hL hj hI hk hn K) (lc_4 E hL hj hI hk hn K) (lc_5 E hL hj hI hk hn K) (lc_6 E hL hj hI hk hn K) (lc_7 E hL hj hI hk hn K) (lc_8 E hL hj hI hk hn K) (lc_9 E hL hj hI hk hn K) (lc_10 E hL hj hI hk hn K) (lc_11 E hL hj hI hk hn K) (lc_12 E hL hj hI hk hn K) (K σ k n (by omega) (by omega) hI)
end LLOOP
