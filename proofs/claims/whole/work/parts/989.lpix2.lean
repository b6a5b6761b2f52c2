/-! the contracts: the class's pixel that answers, the class's pixel that throws, the law's pixel in both cases -/
def zxR : Room := { frames := 6, cells := 1, slots := 6, locals := 81 }
def zxC (D : va_G) (cs : zCs) (z0 : Nat) (σ : zS) : String → State → State → Prop := fun E st t => E = zxE ∧ zrep D cs z0 (zuX σ t.heap.size) t.heap ∧ va_F (fun q => z0 ≤ q) st t
theorem zxW0 : ∀ w ∈ wsL_law0, w ∈ zxW := fun _ h => List.mem_append_left _ h
theorem zx_good : ∀ w ∈ Cond.classLink RX11 162 zxE :: Cond.initialized zxE :: vx_at0 RX11 164 zxE zxN, vx_ot w = true := by decide +kernel
theorem zx_link : Cond.classLink RX11 162 zxE ∈ wsL_law0 := zr_29 _ (List.mem_of_getElem? (i := 14) rfl)
theorem zx_init : Cond.initialized zxE ∈ wsL_law0 := zr_29 _ (List.mem_of_getElem? (i := 15) rfl)
section ZPIX2
variable {l : Launch} {D : va_G} {cs : zCs} {z0 : Nat} {σ : zS} {p0 : Nat} {x y : Int32}
set_option maxRecDepth 100000 in
theorem kX11_pixR (l : Launch) (D : va_G) (cs : zCs) (z0 : Nat) {r : Int32} (h : gpix σ p0 x y = some (some r)) : zM l D cs z0 yX11_pixel cX11_pixel 3 (some .int) { frames := 1, cells := 0, slots := 0, locals := 22 } [.ref p0, .int x, .int y] σ (some (.int r)) σ 0 0 := by
  exact zM_of (by decide) rfl (Or.inl rfl) (Nat.le_of_ble_eq_true rfl) rfl (fun Γ e1 e2 e3 e4 E hN K => wX11_pix E ⟨by decide, by decide⟩ σ _ _ _ h (fun r' e => by cases e; exact K) (fun e => by cases e))
set_option maxRecDepth 100000 in
theorem kX11_pixT (hl : l.stackTraces = false) (D : va_G) (cs : zCs) (z0 : Nat) (h : gpix σ p0 x y = some none) : vx_Met l yX11_pixel (Cond.code yX11_pixel cX11_pixel 3 (some .int) :: zxW) zxR (zPx D cs z0 [.ref p0, .int x, .int y] σ) (fun _ _ _ _ => False) (zxC D cs z0 σ) 1 6 (fun q => z0 ≤ q) := by
  refine vx_ofW (cc := cX11_pixel) (maxL := 3) (ret := some .int) (by decide) rfl ?_
  intro p e s m args below meth c s₁ B hml htab hv'
  obtain ⟨rfl, hP, hK, hX⟩ := hv'
  have hts := atoms_spec (ws := Cond.code yX11_pixel cX11_pixel 3 (some .int) :: zxW) B.pre
  have hl0 := lv_entry [.ref p0, .int x, .int y] (n := 3) (Nat.le_of_ble_eq_true rfl)
  have hlocks := B.notSynchronized
  have hts0 : ∀ w ∈ wsL_law0, w.before _ s = true := fun w hw => hts w (List.mem_cons_of_mem _ (zxW0 w hw))
  have hown : s.vm.findClass RX11 = some m.cls := findClass_of_methodNamed B.named
  rw [lg_entry_eq]
  refine wX11_pix (Γ := (p, l, e, zxR, s, m, _, below, meth, c, vx_MQ below (fun _ _ _ _ => False) (zxC D cs z0 σ) _ s 1 6 (fun q => z0 ≤ q), D, cs, z0)) ⟨B.exec, B.bytes, hown, hml, hts0, hK, rfl⟩ ⟨Nat.le_of_ble_eq_true rfl, Nat.le_of_ble_eq_true rfl⟩ σ p0 x y h (fun r e => by cases e) (fun _ => ?_) _ _ _ hP va_S.rf hl0
  intro H locs ls hP hS hl1
  refine vx_throw0 (cc := cX11_pixel) (own := RX11) (cls := zxE) (names := zxN) (ik := 162) (ic := 164) (A := fun q => z0 ≤ q) B.exec B.bytes hl hown (by decide +kernel) (by decide +kernel) (hts0 _ zx_link) (hts0 _ zx_init) ?_ zx_good hX.2.1 hX.2.2 hS (hl1.1.trans hml.symm) dX11_pixel_12 dX11_pixel_15 dX11_pixel_16 dX11_pixel_19 (fun q hq => absurd (htab q hq) (fun z => z)) (Nat.le_of_ble_eq_true rfl) (Nat.le_of_ble_eq_true rfl) (Nat.le_of_ble_eq_true rfl) (Nat.le_of_ble_eq_true rfl) hlocks ?_ hS.2.2 (by decide) (by decide)
  · exact vx_hat (B := zxB) (fun w hw => hts w (List.mem_cons_of_mem _ (List.mem_append_right _ hw))) (fun w hw => hw) (fun w hw => va_Nw.use (zdc_tab (List.all_eq_true.mp zxB_dc w hw)) (hX.1 w hw))
  · intro t _ h1 h2
    exact ⟨rfl, zrep_X hP h1 h2, Nat.le_trans hS.1 h1, fun q a1 a2 => (h2 q (Nat.lt_of_lt_of_le a1 hS.1)).trans (hS.2.1 q a1 a2)⟩
/-- the law's pixel where the class's answers -/
def yh : List (Nat × Nat × Nat × Nat) := [(0, 10, 13, 13)]
def zLR : Room := { frames := 2, cells := 0, slots := 0, locals := 44 }
def zLT : Room := { frames := 7, cells := 1, slots := 6, locals := 103 }
theorem zyX11_pixel : zYV RX11 yX11_pixel cX11_pixel 3 (some .int) 2 := ⟨zr_29 _ (List.mem_of_getElem? (i := 11) rfl), zr_29 _ (List.mem_of_getElem? (i := 12) rfl), zr_1 _ (List.mem_of_getElem? (i := 2) rfl), zr_29 _ (List.mem_of_getElem? (i := 13) rfl), by decide +kernel⟩
theorem zw_pix : Cond.methodLink RL 7 yX11_pixel ∈ wsL_law0 := zr_29 _ (List.mem_of_getElem? (i := 10) rfl)
set_option maxRecDepth 100000 in
theorem kL_pixR (l : Launch) (D : va_G) (cs : zCs) (z0 : Nat) {ob : Nat} {r : Int32} (h : gpix σ p0 x y = some (some r)) (hm : zk σ p0 = 11) (hk : zk σ ob = 23) (hn : zn σ ob = 1) : Met l yL_pixel (Cond.codeWith yL_pixel cL_pixel 5 (some .int) yh :: wsL_law0) zLR (zP D cs z0 [.ref p0, .int x, .int y, .ref ob] σ) (zQ D cs z0 (some (.int 0)) (zuL σ ob 0 r.toInt64)) 0 0 (fun q => z0 ≤ q) := by
  refine va_MetW (cc := cL_pixel) (maxL := 5) (ret := some .int) (by decide) rfl ?_
  intro p e s m args below meth c s₁ B hml hv'
  obtain ⟨rfl, hP, hK⟩ := hv'
  have hts := atoms_spec (ws := Cond.codeWith yL_pixel cL_pixel 5 (some .int) yh :: wsL_law0) B.pre
  have hl0 := lv_entry [.ref p0, .int x, .int y, .ref ob] (n := 5) (Nat.le_of_ble_eq_true rfl)
  have hown : s.vm.findClass RL = some m.cls := findClass_of_methodNamed B.named
  have hr := B.returns
  rw [lg_entry_eq]
  have E : zE (p, l, e, zLR, s, m, [.ref p0, .int x, .int y, .ref ob].toArray, below, meth, c, MQ below (zQ D cs z0 (some (.int 0)) (zuL σ ob 0 r.toInt64)) [.ref p0, .int x, .int y, .ref ob].toArray s 0 0 (fun q => z0 ≤ q), D, cs, z0) cL_pixel RL 5 zLR := ⟨B.exec, B.bytes, hown, hml, fun w hw => hts w (List.mem_cons_of_mem _ hw), hK, rfl⟩
  suffices K : zJ (p, l, e, zLR, s, m, [.ref p0, .int x, .int y, .ref ob].toArray, below, meth, c, MQ below (zQ D cs z0 (some (.int 0)) (zuL σ ob 0 r.toInt64)) [.ref p0, .int x, .int y, .ref ob].toArray s 0 0 (fun q => z0 ≤ q), D, cs, z0) 5 0 0 σ 0 [(0, .ref p0), (1, .int x), (2, .int y), (3, .ref ob)] [] from K _ _ _ hP va_S.rf hl0
  refine zj_aload_n E dL_pixel_0 rfl 3 rfl ?_
  refine zj_iconst (v := 0) E dL_pixel_1 (by decide) ?_
  refine zj_aload_n E dL_pixel_2 rfl 0 rfl ?_
  refine zj_iload_n E dL_pixel_3 rfl 1 rfl ?_
  refine zj_iload_n E dL_pixel_4 rfl 2 rfl ?_
  refine zs_callV (As := [.int x, .int y]) (rest := [.int 0, .ref ob]) E zc10 zyX11_pixel zw_pix (kX11_pixR _ _ _ _ h) rfl rfl hm rfl ⟨Nat.le_of_ble_eq_true rfl, Nat.le_of_ble_eq_true rfl⟩ ⟨Nat.zero_le _, Nat.zero_le _⟩ (Nat.le_of_ble_eq_true rfl) dL_pixel_5 rfl (show zJ _ 5 0 0 σ 8 [(0, .ref p0), (1, .int x), (2, .int y), (3, .ref ob)] [.int r, .int 0, .ref ob] from ?_)
  refine zj_i2l E dL_pixel_8 ?_
  refine zs_last E dL_pixel_9 ⟨hk, by decide, by rw [hn]; decide⟩ ?_
  refine zj_goto (tgt := 17) E dL_pixel_10 (by decide) ?_
  refine zj_iconst (v := 0) E dL_pixel_17 (by decide) ?_
  intro H locs ls hP hS hl
  exact W.iret B.exec B.bytes hr (fun t ht _ => ⟨rfl, by rw [ht]; exact hP, hS.F ht⟩) hS.2.2 dL_pixel_18
def zQT (D : va_G) (cs : zCs) (z0 : Nat) (σ : zS) : Array Value → State → Outcome → State → Prop := fun _ st oc t => oc = .returned (some (.int 1)) ∧ zrep D cs z0 (zuX σ t.heap.size) t.heap ∧ va_F (fun q => z0 ≤ q) st t
theorem zL_link : Cond.classLink RL 13 zxE ∈ wsL_law0 := zr_29 _ (List.mem_of_getElem? (i := 9) rfl)
set_option maxRecDepth 100000 in
theorem kL_pixT (hl : l.stackTraces = false) (D : va_G) (cs : zCs) (z0 : Nat) {ob : Nat} (h : gpix σ p0 x y = some none) (hm : zk σ p0 = 11) : Met l yL_pixel (Cond.codeWith yL_pixel cL_pixel 5 (some .int) yh :: zxW) zLT (zPx D cs z0 [.ref p0, .int x, .int y, .ref ob] σ) (zQT D cs z0 σ) 1 6 (fun q => z0 ≤ q) := by
  refine va_MetW (cc := cL_pixel) (maxL := 5) (ret := some .int) (by decide) rfl ?_
  intro p e s m args below meth c s₁ B hml hv'
  obtain ⟨rfl, hP, hK, hX⟩ := hv'
  have hts := atoms_spec (ws := Cond.codeWith yL_pixel cL_pixel 5 (some .int) yh :: zxW) B.pre
  have hl0 := lv_entry [.ref p0, .int x, .int y, .ref ob] (n := 5) (Nat.le_of_ble_eq_true rfl)
  have hown : s.vm.findClass RL = some m.cls := findClass_of_methodNamed B.named
  have hr := B.returns
  have htb : c.exceptionTable.toList = tableOf yh := vx_table (x := yL_pixel) B (hts _ List.mem_cons_self)
  rw [lg_entry_eq]
  have hts1 : ∀ w ∈ zxW, w.before [Value.ref p0, .int x, .int y, .ref ob].toArray s = true := fun w hw => hts w (List.mem_cons_of_mem _ hw)
  have E : zE (p, l, e, zLT, s, m, [.ref p0, .int x, .int y, .ref ob].toArray, below, meth, c, MQ below (zQT D cs z0 σ) [.ref p0, .int x, .int y, .ref ob].toArray s 1 6 (fun q => z0 ≤ q), D, cs, z0) cL_pixel RL 5 zLT := ⟨B.exec, B.bytes, hown, hml, fun w hw => hts1 w (zxW0 w hw), hK, rfl⟩
  suffices K : zJ (p, l, e, zLT, s, m, [.ref p0, .int x, .int y, .ref ob].toArray, below, meth, c, MQ below (zQT D cs z0 σ) [.ref p0, .int x, .int y, .ref ob].toArray s 1 6 (fun q => z0 ≤ q), D, cs, z0) 5 0 0 σ 0 [(0, .ref p0), (1, .int x), (2, .int y), (3, .ref ob)] [] from K _ _ _ hP va_S.rf hl0
  refine zj_aload_n E dL_pixel_0 rfl 3 rfl ?_
  refine zj_iconst (v := 0) E dL_pixel_1 (by decide) ?_
  refine zj_aload_n E dL_pixel_2 rfl 0 rfl ?_
  refine zj_iload_n E dL_pixel_3 rfl 1 rfl ?_
  refine zj_iload_n E dL_pixel_4 rfl 2 rfl ?_
  intro H locs ls hP hS hl1
  have hF : CallFix p m c cL_pixel 5 s [Value.ref p0, .int x, .int y, .ref ob].toArray zxW RL := ⟨B.exec, B.bytes, hml, hown, hts1⟩
  have hcw : CallW zLT s [Value.ref p0, .int x, .int y, .ref ob].toArray RL RX11 7 yX11_pixel cX11_pixel 3 (some .int) (Cond.code yX11_pixel cX11_pixel 3 (some .int) :: zxW) zxR 1 6 2 := by
    obtain ⟨y1, y2, y3, y4, y5⟩ := zyX11_pixel
    refine cwV 2 hts1 (zGoodX ?_) rfl rfl rfl y5 ⟨Nat.le_of_ble_eq_true rfl, Nat.le_of_ble_eq_true rfl⟩
    intro w hw'
    unfold wsV at hw'
    rcases List.mem_append.mp hw' with h | h
    · simp only [List.mem_cons, List.not_mem_nil, or_false] at h
      rcases h with rfl | rfl | rfl | rfl <;> exact zxW0 _ (by first | assumption | exact zw_pix)
    · rcases List.mem_cons.mp h with rfl | h
      · exact zxW0 _ y4
      · exact h
  have hpre : PreV s H RX11 p0 (zPx D cs z0 [.ref p0, .int x, .int y] σ) [.int x, .int y] := ⟨zPx_blind, zrecv E hP zc10 hm, fun U hU hW => ⟨rfl, by rw [hU]; exact hP, zK_moved hK hW (by rw [hU]; exact hS.1) (fun q h1 h2 => by rw [hU]; exact hS.2.1 q h1 h2), zX9_moved hX hW (fun q h1 h2 => by rw [hU]; exact hS.2.1 q h1 h2)⟩⟩
  have hrun := vx_runV (g := F0 m 5 ls [.int y, .int x, .ref p0, .int 0, .ref ob]) (rest := [.int 0, .ref ob]) (e := e) (below := below) (meth := meth) (locs := locs) (cells := 0) (slots := 0) hF (kX11_pixT hl D cs z0 h) hcw hpre rfl rfl hl1.1 rfl (Nat.le_of_ble_eq_true rfl) dL_pixel_5 ⟨Nat.le_of_ble_eq_true rfl, Nat.le_of_ble_eq_true rfl⟩
  intro T hT X
  rcases hrun T hT X with ⟨v, st₀, t, T', L, h0, X', hL, e1, e2, hf, stp⟩ | ⟨q, st₀, t, T', L, E9, ce, h0, X', hL, e1, e2, ⟨rfl, hz, hv1, hv2⟩, hce, hcv, hcl, stp⟩
  · exact hf.elim
  · rw [h0] at hv1 hv2
    have hS1 : va_S (fun q => z0 ≤ q) s.heap T'.heap (locs ++ L) := ⟨Nat.le_trans hS.1 (by rw [e1]; exact hv1), fun q h1 h2 => by rw [e1, hv2 q (Nat.lt_of_lt_of_le h1 hS.1) h2]; exact hS.2.1 q h1 h2, fun q hq => by
      rcases List.mem_append.mp hq with h | h
      · exact hS.2.2 q h
      · exact hL q h⟩
    have hc := zt_catch (p := p) (l := l) (e := e) (R := zLT) (s := s) (m := m) (args := [Value.ref p0, .int x, .int y, .ref ob].toArray) (below := below) (meth := meth) (c := c) (H := T'.heap) (locs := locs ++ L) (cells := 0 + 1) (slots := 0 + 6) (Q := MQ below (zQT D cs z0 σ) [.ref p0, .int x, .int y, .ref ob].toArray s 1 6 (fun q => z0 ≤ q)) (pc := 5) (ls := ls) (rest := [.int 0, .ref ob]) (own := RL) (name := zxE) (E := zxE) (ce := ce) (q := q) hown ⟨0, 10, 13, 13⟩ [] htb (by decide) (by decide) (hts1 _ (zxW0 _ zL_link)) (va_Nw.use rfl (hX.1 _ zxB_cast)) (by rw [e1]; exact hce) hcv hcl ?_
    · obtain ⟨t2, a1, b1⟩ := hc T' rfl X'
      exact ⟨t2, stp.trans a1, b1⟩
    · have K2 : zJ (p, l, e, zLT, s, m, [.ref p0, .int x, .int y, .ref ob].toArray, below, meth, c, MQ below (zQT D cs z0 σ) [.ref p0, .int x, .int y, .ref ob].toArray s 1 6 (fun q => z0 ≤ q), D, cs, z0) 5 1 6 (zuX σ t.heap.size) 13 [(0, .ref p0), (1, .int x), (2, .int y), (3, .ref ob)] [.ref q] := by
        refine zj_astore (lv2 := [(4, .ref q), (0, .ref p0), (1, .int x), (2, .int y), (3, .ref ob)]) E dL_pixel_13 (by decide) rfl ?_
        refine zj_iconst (v := 1) E dL_pixel_15 (by decide) ?_
        intro H locs ls hP hS hl
        have hsz : H.size = t.heap.size := hP.1
        exact W.iret B.exec B.bytes hr (fun t' ht _ => ⟨rfl, by rw [ht, hsz]; exact hP, hS.F ht⟩) hS.2.2 dL_pixel_16
      exact K2 T'.heap (locs ++ L) ls (by rw [e1]; exact hz) hS1 hl1
end ZPIX2
