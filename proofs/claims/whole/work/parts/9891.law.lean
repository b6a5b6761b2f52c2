/-! THE LAW: the words of its calls, its arguments, what stays in its loop -/
theorem lw_mX11_type : Cond.methodLink RL 19 yX11_type ∈ wsL_law0 := zr_6 _ (List.mem_of_getElem? (i := 16) rfl)
theorem lw_yX11_type : zYV RX11 yX11_type cX11_type 4 (some .int) 2 := ⟨zr_6 _ (List.mem_of_getElem? (i := 17) rfl), zr_6 _ (List.mem_of_getElem? (i := 18) rfl), zr_1 _ (List.mem_of_getElem? (i := 2) rfl), zr_6 _ (List.mem_of_getElem? (i := 19) rfl), by decide +kernel⟩
theorem lw_mX12_type : Cond.methodLink RL 22 yX12_type ∈ wsL_law0 := zr_7 _ (List.mem_of_getElem? (i := 5) rfl)
theorem lw_yX12_type : zYV RX12 yX12_type cX12_type 4 (some .int) 2 := ⟨zr_7 _ (List.mem_of_getElem? (i := 6) rfl), zr_7 _ (List.mem_of_getElem? (i := 7) rfl), zr_1 _ (List.mem_of_getElem? (i := 5) rfl), zr_7 _ (List.mem_of_getElem? (i := 8) rfl), by decide +kernel⟩
theorem lw_mX11_words : Cond.methodLink RL 23 yX11_words ∈ wsL_law0 := zr_7 _ (List.mem_of_getElem? (i := 10) rfl)
theorem lw_yX11_words : zYV RX11 yX11_words cX11_words 5 (some .int) 4 := ⟨zr_7 _ (List.mem_of_getElem? (i := 11) rfl), zr_7 _ (List.mem_of_getElem? (i := 12) rfl), zr_1 _ (List.mem_of_getElem? (i := 2) rfl), zr_7 _ (List.mem_of_getElem? (i := 13) rfl), by decide +kernel⟩
theorem lw_mX12_words : Cond.methodLink RL 27 yX12_words ∈ wsL_law0 := zr_7 _ (List.mem_of_getElem? (i := 19) rfl)
theorem lw_yX12_words : zYV RX12 yX12_words cX12_words 5 (some .int) 4 := ⟨zr_7 _ (List.mem_of_getElem? (i := 20) rfl), zr_7 _ (List.mem_of_getElem? (i := 21) rfl), zr_1 _ (List.mem_of_getElem? (i := 5) rfl), zr_7 _ (List.mem_of_getElem? (i := 22) rfl), by decide +kernel⟩
theorem lw_mX11_read : Cond.methodLink RL 28 yX11_read ∈ wsL_law0 := zr_8 _ (List.mem_of_getElem? (i := 0) rfl)
theorem lw_yX11_read : zYV RX11 yX11_read cX11_read 2 (some .int) 0 := ⟨zr_8 _ (List.mem_of_getElem? (i := 1) rfl), zr_8 _ (List.mem_of_getElem? (i := 2) rfl), zr_1 _ (List.mem_of_getElem? (i := 2) rfl), zr_8 _ (List.mem_of_getElem? (i := 3) rfl), by decide +kernel⟩
theorem lw_mX12_read : Cond.methodLink RL 32 yX12_read ∈ wsL_law0 := zr_17 _ (List.mem_of_getElem? (i := 13) rfl)
theorem lw_yX12_read : zYV RX12 yX12_read cX12_read 3 (some .int) 0 := ⟨zr_17 _ (List.mem_of_getElem? (i := 14) rfl), zr_17 _ (List.mem_of_getElem? (i := 15) rfl), zr_1 _ (List.mem_of_getElem? (i := 5) rfl), zr_17 _ (List.mem_of_getElem? (i := 16) rfl), by decide +kernel⟩
theorem lw_mX11_place : Cond.methodLink RL 33 yX11_place ∈ wsL_law0 := zr_23 _ (List.mem_of_getElem? (i := 19) rfl)
theorem lw_yX11_place : zYV RX11 yX11_place cX11_place 1 (some .int) 0 := ⟨zr_23 _ (List.mem_of_getElem? (i := 20) rfl), zr_23 _ (List.mem_of_getElem? (i := 21) rfl), zr_1 _ (List.mem_of_getElem? (i := 2) rfl), zr_23 _ (List.mem_of_getElem? (i := 22) rfl), by decide +kernel⟩
theorem lw_mX12_place : Cond.methodLink RL 36 yX12_place ∈ wsL_law0 := zr_23 _ (List.mem_of_getElem? (i := 23) rfl)
theorem lw_yX12_place : zYV RX12 yX12_place cX12_place 1 (some .int) 0 := ⟨zr_24 _ (List.mem_of_getElem? (i := 0) rfl), zr_24 _ (List.mem_of_getElem? (i := 1) rfl), zr_1 _ (List.mem_of_getElem? (i := 5) rfl), zr_24 _ (List.mem_of_getElem? (i := 2) rfl), by decide +kernel⟩
theorem lw_mX11_begin : Cond.methodLink RL 37 yX11_begin ∈ wsL_law0 := zr_24 _ (List.mem_of_getElem? (i := 3) rfl)
theorem lw_yX11_begin : zYV RX11 yX11_begin cX11_begin 4 (some .int) 3 := ⟨zr_24 _ (List.mem_of_getElem? (i := 4) rfl), zr_24 _ (List.mem_of_getElem? (i := 5) rfl), zr_1 _ (List.mem_of_getElem? (i := 2) rfl), zr_24 _ (List.mem_of_getElem? (i := 6) rfl), by decide +kernel⟩
theorem lw_mX12_begin : Cond.methodLink RL 41 yX12_begin ∈ wsL_law0 := zr_24 _ (List.mem_of_getElem? (i := 13) rfl)
theorem lw_yX12_begin : zYV RX12 yX12_begin cX12_begin 4 (some .int) 3 := ⟨zr_24 _ (List.mem_of_getElem? (i := 14) rfl), zr_24 _ (List.mem_of_getElem? (i := 15) rfl), zr_1 _ (List.mem_of_getElem? (i := 5) rfl), zr_24 _ (List.mem_of_getElem? (i := 16) rfl), by decide +kernel⟩
theorem lw_mX11_frame : Cond.methodLink RL 42 yX11_frame ∈ wsL_law0 := zr_24 _ (List.mem_of_getElem? (i := 21) rfl)
theorem lw_yX11_frame : zYV RX11 yX11_frame cX11_frame 7 (some .int) 6 := ⟨zr_24 _ (List.mem_of_getElem? (i := 22) rfl), zr_24 _ (List.mem_of_getElem? (i := 23) rfl), zr_1 _ (List.mem_of_getElem? (i := 2) rfl), zr_25 _ (List.mem_of_getElem? (i := 0) rfl), by decide +kernel⟩
theorem lw_mX12_frame : Cond.methodLink RL 46 yX12_frame ∈ wsL_law0 := zr_25 _ (List.mem_of_getElem? (i := 3) rfl)
theorem lw_yX12_frame : zYV RX12 yX12_frame cX12_frame 7 (some .int) 6 := ⟨zr_25 _ (List.mem_of_getElem? (i := 4) rfl), zr_25 _ (List.mem_of_getElem? (i := 5) rfl), zr_1 _ (List.mem_of_getElem? (i := 5) rfl), zr_25 _ (List.mem_of_getElem? (i := 6) rfl), by decide +kernel⟩
theorem lw_mX11_paint : Cond.methodLink RL 47 yX11_paint ∈ wsL_law0 := zr_25 _ (List.mem_of_getElem? (i := 7) rfl)
theorem lw_yX11_paint : zYV RX11 yX11_paint cX11_paint 6 (some .int) 4 := ⟨zr_25 _ (List.mem_of_getElem? (i := 8) rfl), zr_25 _ (List.mem_of_getElem? (i := 9) rfl), zr_1 _ (List.mem_of_getElem? (i := 2) rfl), zr_25 _ (List.mem_of_getElem? (i := 10) rfl), by decide +kernel⟩
theorem lw_mX12_paint : Cond.methodLink RL 50 yX12_paint ∈ wsL_law0 := zr_25 _ (List.mem_of_getElem? (i := 19) rfl)
theorem lw_yX12_paint : zYV RX12 yX12_paint cX12_paint 8 (some .int) 4 := ⟨zr_25 _ (List.mem_of_getElem? (i := 20) rfl), zr_25 _ (List.mem_of_getElem? (i := 21) rfl), zr_1 _ (List.mem_of_getElem? (i := 5) rfl), zr_25 _ (List.mem_of_getElem? (i := 22) rfl), by decide +kernel⟩
theorem lw_mX11_first : Cond.methodLink RL 51 yX11_first ∈ wsL_law0 := zr_25 _ (List.mem_of_getElem? (i := 23) rfl)
theorem lw_yX11_first : zYV RX11 yX11_first cX11_first 2 (some .int) 1 := ⟨zr_26 _ (List.mem_of_getElem? (i := 0) rfl), zr_26 _ (List.mem_of_getElem? (i := 1) rfl), zr_1 _ (List.mem_of_getElem? (i := 2) rfl), zr_26 _ (List.mem_of_getElem? (i := 2) rfl), by decide +kernel⟩
theorem lw_mX12_first : Cond.methodLink RL 55 yX12_first ∈ wsL_law0 := zr_26 _ (List.mem_of_getElem? (i := 4) rfl)
theorem lw_yX12_first : zYV RX12 yX12_first cX12_first 2 (some .int) 1 := ⟨zr_26 _ (List.mem_of_getElem? (i := 5) rfl), zr_26 _ (List.mem_of_getElem? (i := 6) rfl), zr_1 _ (List.mem_of_getElem? (i := 5) rfl), zr_26 _ (List.mem_of_getElem? (i := 7) rfl), by decide +kernel⟩
theorem lw_mX11_about : Cond.methodLink RL 56 yX11_about ∈ wsL_law0 := zr_26 _ (List.mem_of_getElem? (i := 8) rfl)
theorem lw_yX11_about : zYV RX11 yX11_about cX11_about 3 (some .int) 2 := ⟨zr_26 _ (List.mem_of_getElem? (i := 9) rfl), zr_26 _ (List.mem_of_getElem? (i := 10) rfl), zr_1 _ (List.mem_of_getElem? (i := 2) rfl), zr_26 _ (List.mem_of_getElem? (i := 11) rfl), by decide +kernel⟩
theorem lw_mX12_about : Cond.methodLink RL 59 yX12_about ∈ wsL_law0 := zr_27 _ (List.mem_of_getElem? (i := 3) rfl)
theorem lw_yX12_about : zYV RX12 yX12_about cX12_about 3 (some .int) 2 := ⟨zr_27 _ (List.mem_of_getElem? (i := 4) rfl), zr_27 _ (List.mem_of_getElem? (i := 5) rfl), zr_1 _ (List.mem_of_getElem? (i := 5) rfl), zr_27 _ (List.mem_of_getElem? (i := 6) rfl), by decide +kernel⟩
theorem lw_mX11_show : Cond.methodLink RL 60 yX11_show ∈ wsL_law0 := zr_27 _ (List.mem_of_getElem? (i := 7) rfl)
theorem lw_yX11_show : zYV RX11 yX11_show cX11_show 2 (some .int) 1 := ⟨zr_27 _ (List.mem_of_getElem? (i := 8) rfl), zr_27 _ (List.mem_of_getElem? (i := 9) rfl), zr_1 _ (List.mem_of_getElem? (i := 2) rfl), zr_27 _ (List.mem_of_getElem? (i := 10) rfl), by decide +kernel⟩
theorem lw_mX12_show : Cond.methodLink RL 64 yX12_show ∈ wsL_law0 := zr_28 _ (List.mem_of_getElem? (i := 12) rfl)
theorem lw_yX12_show : zYV RX12 yX12_show cX12_show 4 (some .int) 1 := ⟨zr_28 _ (List.mem_of_getElem? (i := 13) rfl), zr_28 _ (List.mem_of_getElem? (i := 14) rfl), zr_1 _ (List.mem_of_getElem? (i := 5) rfl), zr_28 _ (List.mem_of_getElem? (i := 15) rfl), by decide +kernel⟩
theorem lw_mX12_pixel : Cond.methodLink RL 70 yX12_pixel ∈ wsL_law0 := zr_29 _ (List.mem_of_getElem? (i := 20) rfl)
theorem lw_yX12_pixel : zYV RX12 yX12_pixel cX12_pixel 3 (some .int) 2 := ⟨zr_29 _ (List.mem_of_getElem? (i := 21) rfl), zr_29 _ (List.mem_of_getElem? (i := 22) rfl), zr_1 _ (List.mem_of_getElem? (i := 5) rfl), zr_29 _ (List.mem_of_getElem? (i := 23) rfl), by decide +kernel⟩
theorem lw_mX12_thrown : Cond.methodLink RL 71 yX12_thrown ∈ wsL_law0 := zr_30 _ (List.mem_of_getElem? (i := 0) rfl)
theorem lw_yX12_thrown : zYV RX12 yX12_thrown cX12_thrown 1 (some .int) 0 := ⟨zr_30 _ (List.mem_of_getElem? (i := 1) rfl), zr_30 _ (List.mem_of_getElem? (i := 2) rfl), zr_1 _ (List.mem_of_getElem? (i := 5) rfl), zr_30 _ (List.mem_of_getElem? (i := 3) rfl), by decide +kernel⟩
theorem lw_mX11_write : Cond.methodLink RL 74 yX11_write ∈ wsL_law0 := zr_30 _ (List.mem_of_getElem? (i := 4) rfl)
theorem lw_yX11_write : zYV RX11 yX11_write cX11_write 1 (some .int) 0 := ⟨zr_30 _ (List.mem_of_getElem? (i := 5) rfl), zr_30 _ (List.mem_of_getElem? (i := 6) rfl), zr_1 _ (List.mem_of_getElem? (i := 2) rfl), zr_30 _ (List.mem_of_getElem? (i := 7) rfl), by decide +kernel⟩
theorem lw_mX12_write : Cond.methodLink RL 77 yX12_write ∈ wsL_law0 := zr_32 _ (List.mem_of_getElem? (i := 17) rfl)
theorem lw_yX12_write : zYV RX12 yX12_write cX12_write 4 (some .int) 0 := ⟨zr_32 _ (List.mem_of_getElem? (i := 18) rfl), zr_32 _ (List.mem_of_getElem? (i := 19) rfl), zr_1 _ (List.mem_of_getElem? (i := 5) rfl), zr_32 _ (List.mem_of_getElem? (i := 20) rfl), by decide +kernel⟩
theorem lw_mX11_out : Cond.methodLink RL 78 yX11_out ∈ wsL_law0 := zr_33 _ (List.mem_of_getElem? (i := 22) rfl)
theorem lw_yX11_out : zYV RX11 yX11_out cX11_out 2 (some .int) 1 := ⟨zr_33 _ (List.mem_of_getElem? (i := 23) rfl), zr_34 _ (List.mem_of_getElem? (i := 0) rfl), zr_1 _ (List.mem_of_getElem? (i := 2) rfl), zr_34 _ (List.mem_of_getElem? (i := 1) rfl), by decide +kernel⟩
theorem lw_mX12_out : Cond.methodLink RL 81 yX12_out ∈ wsL_law0 := zr_34 _ (List.mem_of_getElem? (i := 3) rfl)
theorem lw_yX12_out : zYV RX12 yX12_out cX12_out 2 (some .int) 1 := ⟨zr_34 _ (List.mem_of_getElem? (i := 4) rfl), zr_34 _ (List.mem_of_getElem? (i := 5) rfl), zr_1 _ (List.mem_of_getElem? (i := 5) rfl), zr_34 _ (List.mem_of_getElem? (i := 6) rfl), by decide +kernel⟩
def LL (Γ : zG) (b : Nat) (xl : List Int32) : Prop := ztb Γ b xl ∧ zX9 (zgz Γ) (zgs Γ) ∧ (zgl Γ).stackTraces = false ∧ (∀ w ∈ zxG, w.before (zga Γ) (zgs Γ) = true) ∧ xl.length ≤ 3584
abbrev LV (b c m o : Nat) (i : Int32) : List (Nat × Value) := [(0, .ref b), (1, .ref c), (2, .ref m), (3, .ref o), (4, .int i)]
/-- what stays: the two reels alike, the cell that holds a pixel -/
def LI (σ : zS) (C B : Nat → Nat) (ob : Nat) : Prop := INV σ C B ∧ zk σ ob = 23 ∧ zn σ ob = 1
def xa (xl : List Int32) (j c : Nat) : Int32 := xl.getD (7 * j + c) 0
section LHEAD
variable {Γ : zG} {b ob j k n pc : Nat} {xl : List Int32} {σ s : zS} {C B : Nat → Nat} {lv : List (Nat × Value)} {st : List Value} {i : Int32}
theorem LI.fr (h : LI σ C B ob) (hV : INV s C B) (hF : FR C B σ s) : LI s C B ob := ⟨hV, by rw [hF.1]; exact h.2.1, by rw [hF.2.1]; exact h.2.2⟩
theorem lw_room {k n : Nat} (hk : k ≤ 601000) (hn : n ≤ 7290000) : k + 0 ≤ room_1.cells ∧ n + 0 ≤ room_1.slots := ⟨Nat.le_trans hk (Nat.le_of_ble_eq_true rfl), Nat.le_trans hn (Nat.le_of_ble_eq_true rfl)⟩
theorem lw_kB {ρ : Type} {s : zS} {a j : Nat} {v : Int32} {f : zS → Option ρ} {R : ρ} (h : oPI s 12 a j v f = some R) : zk s a = 12 := by
  unfold oPI at h
  by_cases hk : zk s a = 12
  · exact hk
  · rw [if_neg hk] at h; cases h
theorem lw_eqT (E : zE Γ cL_law RL 7 room_1) {x : Int32} {off : Int} {tgt : Nat} (hd : decode cL_law pc = .ok (.if_icmp .eq off, 3)) (ht : (pc : Int) + off = (tgt : Int)) (kk : zJ Γ 7 k n σ tgt lv st) : zJ Γ 7 k n σ pc lv (.int x :: .int x :: st) := fun H locs ls hP hS hl => lv_icmp_eq E.hx E.hb hd ht (fun _ => kk H locs ls hP hS hl) (fun c => absurd rfl c)
theorem lw_ld (E : zE Γ cL_law RL 7 room_1) (hL : LL Γ b xl) {c : Nat} (hj : 7 * j + 7 ≤ xl.length) (hc : c < 7) (hd : decode cL_law pc = .ok (.iaload, 1)) (kk : zJ Γ 7 k n σ (pc + 1) lv (.int (xa xl j c) :: st)) : zJ Γ 7 k n σ pc lv (.int (nI (7 * j) + nI c) :: .ref b :: st) := by
  have hl5 := hL.2.2.2.2
  rw [nI_add]
  have tn : (nI (7 * j + c)).toInt = ((7 * j + c : Nat) : Int) := zt_nI (by omega)
  have tc : (nI (7 * j + c)).toNatClampNeg = 7 * j + c := by
    show (nI (7 * j + c)).toInt.toNat = _
    rw [tn]
    exact Int.toNat_natCast _
  refine zs_tld (R := xa xl j c) (f := fun x => some x) E hL.1 hd ?_ (fun x h => ?_)
  · unfold oLt
    rw [tc]
    exact if_pos ⟨by rw [zle, tn, zt0']; omega, by omega⟩
  · cases h
    exact kk
theorem lw_arg (E : zE Γ cL_law RL 7 room_1) (hL : LL Γ b xl) {cn : Nat} {m : Nat} {c : Nat} {cf : Int} (hj : 7 * j + 7 ≤ xl.length) (hc : c < 7) (d0 : decode cL_law pc = .ok (.aload_n 0, 1)) (d1 : decode cL_law (pc + 1) = .ok (.iload 4, 2)) (d2 : decode cL_law (pc + 3) = .ok (.iconst cf, 1)) (hcf : Int32.ofInt cf = nI c) (d3 : decode cL_law (pc + 4) = .ok (.iadd, 1)) (d4 : decode cL_law (pc + 5) = .ok (.iaload, 1)) (kk : zJ Γ 7 k n σ (pc + 6) (LV b cn m ob (nI (7 * j))) (.int (xa xl j c) :: st)) : zJ Γ 7 k n σ pc (LV b cn m ob (nI (7 * j))) st := by
  refine zj_aload_n E d0 rfl 0 rfl ?_
  refine zj_iload E d1 4 rfl ?_
  refine zj_iconst (v := nI c) E d2 hcf ?_
  refine zj_iadd E d3 ?_
  exact lw_ld E hL hj hc d4 kk
theorem lw_argG (E : zE Γ cL_law RL 7 room_1) (hL : LL Γ b xl) {c : Nat} {cf : Int} (q0 q4 : Nat) (h0 : lv[q0]? = some (0, .ref b)) (h4 : lv[q4]? = some (4, .int (nI (7 * j)))) (hj : 7 * j + 7 ≤ xl.length) (hc : c < 7) (d0 : decode cL_law pc = .ok (.aload_n 0, 1)) (d1 : decode cL_law (pc + 1) = .ok (.iload 4, 2)) (d2 : decode cL_law (pc + 3) = .ok (.iconst cf, 1)) (hcf : Int32.ofInt cf = nI c) (d3 : decode cL_law (pc + 4) = .ok (.iadd, 1)) (d4 : decode cL_law (pc + 5) = .ok (.iaload, 1)) (kk : zJ Γ 7 k n σ (pc + 6) lv (.int (xa xl j c) :: st)) : zJ Γ 7 k n σ pc lv st := by
  refine zj_aload_n E d0 rfl q0 h0 ?_
  refine zj_iload E d1 q4 h4 ?_
  refine zj_iconst (v := nI c) E d2 hcf ?_
  refine zj_iadd E d3 ?_
  exact lw_ld E hL hj hc d4 kk
theorem lw_argB (E : zE Γ cL_law RL 7 room_1) (hL : LL Γ b xl) {cn : Nat} {m : Nat} {c : Nat} {cf : Int} (hj : 7 * j + 7 ≤ xl.length) (hc : c < 7) (d0 : decode cL_law pc = .ok (.aload_n 0, 1)) (d1 : decode cL_law (pc + 1) = .ok (.iload 4, 2)) (d2 : decode cL_law (pc + 3) = .ok (.bipush cf, 2)) (hcf : (Int8.ofInt cf).toInt32 = nI c) (d3 : decode cL_law (pc + 5) = .ok (.iadd, 1)) (d4 : decode cL_law (pc + 6) = .ok (.iaload, 1)) (kk : zJ Γ 7 k n σ (pc + 7) (LV b cn m ob (nI (7 * j))) (.int (xa xl j c) :: st)) : zJ Γ 7 k n σ pc (LV b cn m ob (nI (7 * j))) st := by
  refine zj_aload_n E d0 rfl 0 rfl ?_
  refine zj_iload E d1 4 rfl ?_
  refine zj_bipush (v := nI c) E d2 hcf ?_
  refine zj_iadd E d3 ?_
  exact lw_ld E hL hj hc d4 kk
end LHEAD

