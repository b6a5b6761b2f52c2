/-! the class's write -/
section PCWR
variable {σ s : zS} {C : Nat → Nat} {L : List Nat} {st n b : Nat} {ab : Nat → Nat} {rg px : Nat → Nat → Nat}
theorem RC.pwr (h : CLL σ C) (hb : isR b) (hR : RC σ (fun i => C (b + i)) ab rg px) (hs : zsC C PWr σ s) (h4 : ab 4 ≤ 8) : RC s (fun i => C (b + i)) ab rg px := hR.of h hb hs (fun j _ hj => PWr.no (by have := hb.lt; omega)) h4
theorem RC.pxs (h : CLL σ C) (hb : isR b) (hR : RC σ (fun i => C (b + i)) ab rg px) {f : Nat} (hf : f < ab 4) (h8 : f < 8) : PXs σ (C (b + (2 + 2 * f))) (C (b + (3 + 2 * f))) (rg f 0) (rg f 1) (px f) := by
  obtain ⟨p1, p2, p3⟩ := hR.pic h hb hf h8
  exact ⟨p1, p2 0 (by decide), p2 1 (by decide), p3⟩
theorem w_frames {f0 : Nat} (h : WS σ C L st f0) (hb : isR b) (hR : RC σ (fun i => C (b + i)) ab rg px) (hw : WFr ab rg) (hf0 : f0 ≤ ab 4) (hl : L.length + 1105 * (ab 4 - f0) ≤ 9968) : ∃ s, zloop zF (fun x => bX10_run_107 (C 65) (C b) x.1 x.2) (nI f0, σ) = some s ∧ zsC C PWr σ s ∧ ∃ st', WS s C (L ++ frS rg px f0 (ab 4 - f0)) st' (f0 + 2 * (ab 4 - f0)) := by
  obtain ⟨b0, b1, b2, b4, b5, -⟩ := hw.b
  have hlt := hb.lt
  refine zloop_cnt (body := fun x => bX10_run_107 (C 65) (C b) x.1 x.2) (fun k x => x.1 = nI (f0 + k) ∧ zsC C PWr σ x.2 ∧ ∃ st', WS x.2 C (L ++ frS rg px f0 k) st' (f0 + 2 * k)) (ab 4 - f0) (fun s => zsC C PWr σ s ∧ ∃ st', WS s C (L ++ frS rg px f0 (ab 4 - f0)) st' (f0 + 2 * (ab 4 - f0))) (fun k x hk hx => ?_) (fun x hx => ?_) zF (nI f0, σ) ⟨rfl, zsC.rf, st, by rw [frS, List.append_nil]; exact h⟩ (by unfold zF; omega)
  · obtain ⟨i, t⟩ := x
    obtain ⟨x1, x2, st', x3⟩ := hx
    dsimp only at x1 x2 x3
    subst x1
    have hf : f0 + k < ab 4 := by omega
    have hR1 := hR.pwr h.1 hb x2 b4
    have hL1 := x3.1.rl hb
    have rgb := (hw.rgn hf).b b1 b2
    have hwh := zwh rgb.1 rgb.2.1
    have hlen := frS_len (rg := rg) (px := px) (f0 := f0) k (fun j hj => by
      have := (hw.rgn (f := f0 + j) (by omega)).b b1 b2
      exact ⟨this.1, this.2.1⟩)
    have hlk : 1105 * (k + 1) ≤ 1105 * (ab 4 - f0) := Nat.mul_le_mul_left _ hk
    have hpic := hR1.pic x3.1 hb hf (by omega)
    obtain ⟨s1, e1, z1, w1⟩ := w_ctl (r := rg (f0 + k)) (ip := b + (2 + 2 * (f0 + k))) x3 (by omega) hpic.1.1 hpic.2.1 (by rw [List.length_append]; omega)
    have hR2 := hR1.pwr x3.1 hb z1 b4
    have hL2 := w1.1.rl hb
    obtain ⟨s2, e2, z2, w2⟩ := w_fdata w1 (by omega) (by omega) (hR2.pxs w1.1 hb hf (by omega)) rgb.1 rgb.2.1 (by rw [List.length_append, List.length_append, chkS_len, ctlB_len]; omega)
    refine Or.inl ⟨(nI (f0 + (k + 1)), s2), ?_, rfl, (x2.trans z1).trans z2, (L ++ frS rg px f0 k ++ chkS 1717785676 (ctlB (f0 + 2 * k) (rg (f0 + k)))).length + 4, ?_⟩
    · show bX10_run_107 (C 65) (C b) (nI (f0 + k)) t = _
      unfold bX10_run_107
      have c1 : ¬ nI (ab 4) ≤ nI (f0 + k) := by rw [nI_leI (by omega) (by omega)]; omega
      have c2 : ¬ (8 : Int32) ≤ nI (f0 + k) := fun z => by
        have := (nI_leI (a := 8) (b := f0 + k) (by decide) (by omega)).mp z
        omega
      have kb1 : zk t (C b) = 6 := hL1.1
      have kb2 : zk s1 (C b) = 6 := hL2.1
      have e7 : zi t (C b) 7 = nI (ab 4) := hR1.1.2.2.2.2.2
      have r1 : zr t (C b) 0 = some (C (b + 1)) := hL1.2.1
      have r2 : zr s1 (C b) 0 = some (C (b + 1)) := hL2.2.1
      rw [oGI_eq kb1 e7, if_neg c1, if_neg c2, oGR_eq kb1 r1, oLr_eq hL1.2.2.2.1 (by rw [hL1.2.2.2.2.1]; omega) (by omega) (hL1.2.2.2.2.2.1 (f0 + k) (by omega)), oA_eq x3.k.1, oB_eq e1, oGR_eq kb2 r2, oLr_eq hL2.2.2.2.1 (by rw [hL2.2.2.2.2.1]; omega) (by omega) (hL2.2.2.2.2.2.1 (f0 + k) (by omega)), oA_eq w1.k.1, oB_eq e2, oL_eq, nI_1]
      rfl
    · rw [frS, ← List.append_assoc, ← List.append_assoc]
      have : f0 + 2 * (k + 1) = f0 + 2 * k + 1 + 1 := by omega
      rw [this]
      exact w2
  · obtain ⟨i, t⟩ := x
    obtain ⟨x1, x2, st', x3⟩ := hx
    dsimp only at x1 x2 x3
    subst x1
    have hR1 := hR.pwr h.1 hb x2 b4
    refine ⟨t, ?_, x2, st', x3⟩
    show bX10_run_107 (C 65) (C b) (nI (f0 + (ab 4 - f0))) t = _
    unfold bX10_run_107
    have kb1 : zk t (C b) = 6 := (x3.1.rl hb).1
    have e7 : zi t (C b) 7 = nI (ab 4) := hR1.1.2.2.2.2.2
    rw [oGI_eq kb1 e7, if_pos (by rw [nI_leI (by omega) (by omega)]; omega)]
theorem w_r106 {f0 : Nat} (h : WS σ C L st f0) (hb : isR b) (hR : RC σ (fun i => C (b + i)) ab rg px) (hw : WFr ab rg) (hf0 : f0 ≤ ab 4) (hl : L.length + 1105 * (ab 4 - f0) + 12 ≤ 9968) : ∃ s, fX10_run_106 σ (C 65) (C b) (nI f0) = some s ∧ zsC C PWr σ s ∧ ∃ st' n', WS s C (L ++ frS rg px f0 (ab 4 - f0) ++ chkS 1229278788 []) st' n' := by
  obtain ⟨b0, b1, b2, b4, b5, -⟩ := hw.b
  obtain ⟨s1, e1, z1, st1, w1⟩ := w_frames h hb hR hw hf0 (by omega)
  have hlen := frS_len (rg := rg) (px := px) (f0 := f0) (ab 4 - f0) (fun j hj => by
    have := (hw.rgn (f := f0 + j) (by omega)).b b1 b2
    exact ⟨this.1, this.2.1⟩)
  obtain ⟨s2, e2, z2, w2⟩ := w_open w1 0 1229278788 (by rw [List.length_append]; omega)
  obtain ⟨s3, e3, z3, w3⟩ := w_end (L := L ++ frS rg px f0 (ab 4 - f0)) (ty := 1229278788) (len := 0) (body := []) w2 (by rw [List.append_nil]) rfl (by rw [List.length_append]; show _ + 0 + 12 ≤ _; omega)
  refine ⟨s3, ?_, (z1.trans z2).trans z3, _, _, w3⟩
  unfold fX10_run_106
  rw [oB_eq e1]
  dsimp only
  rw [oA_eq w1.k.1, oB_eq e2, oA_eq w2.k.1, oB_eq e3]
theorem w_r86 (h : WS σ C L st (ab 5)) (hb : isR b) (hR : RC σ (fun i => C (b + i)) ab rg px) (hw : WFr ab rg) (h0 : ab 0 = 1) (hf0 : ab 5 ≤ ab 4) (hl : L.length + 1063 + 1105 * (ab 4 - ab 5) + 12 ≤ 9968) : ∃ s, fX10_run_86 σ (C 65) (C b) = some s ∧ zsC C PWr σ s ∧ ∃ st' n', WS s C (L ++ idS ab px ++ frS rg px (ab 5) (ab 4 - ab 5) ++ chkS 1229278788 []) st' n' := by
  obtain ⟨b0, b1, b2, b4, b5, -⟩ := hw.b
  have hlt := hb.lt
  obtain ⟨d1, d2, d3, d4, d5⟩ := s_default h.1 hb hR hw h0
  have hL := h.1.rl hb
  have hp : PXs σ (C (b + (2 + 2 * dfP ab))) (C (b + (3 + 2 * dfP ab))) (ab 1) (ab 2) (px (dfP ab)) := ⟨hL.2.2.2.2.2.2 _ d5, d2, d3, d4⟩
  have hwh := zwh b1 b2
  obtain ⟨s1, e1, z1, w1⟩ := w_default h (by omega) (by omega) hp b1 b2 (by omega)
  have hR1 := hR.pwr h.1 hb z1 b4
  obtain ⟨s2, e2, z2, st2, n2, w2⟩ := w_r106 w1 hb hR1 hw hf0 (by rw [List.length_append, chkS_len, packP_len]; omega)
  refine ⟨s2, ?_, z1.trans z2, st2, n2, w2⟩
  unfold fX10_run_86
  have k6 : zk σ (C b) = 6 := hL.1
  have k61 : zk s1 (C b) = 6 := (w1.1.rl hb).1
  have e5 : zi s1 (C b) 3 = nI (ab 5) := hR1.1.2.1
  rw [oA_eq k6, oB_eq d1, oA_eq h.k.1, oB_eq e1, oGI_eq k61 e5]
  rcases (show ab 5 = 0 ∨ ab 5 = 1 by omega) with q | q
  · rw [q] at e2 ⊢
    rw [if_pos (by decide)]
    exact e2
  · rw [q] at e2 ⊢
    rw [if_neg (by decide)]
    exact e2
theorem w_run {o : List Nat} (h : CLL σ C) (ht : SMT σ (C 2)) (ho : BL σ (C 66) (C 67) 9968 o) (hb : isR b) (hR : RC σ (fun i => C (b + i)) ab rg px) (hw : WFr ab rg) (h4 : 0 < ab 4) : ∃ s, fX10_run σ (C 65) (C b) = some s ∧ zsC C PWr σ s ∧ BL s (C 66) (C 67) 9968 (fileS ab rg px) := by
  obtain ⟨b0, b1, b2, b4, b5, b6⟩ := hw.b
  have hlt := hb.lt
  have h0 : ab 0 = 1 := by
    by_cases q : ab 0 = 0
    · have := b6 q; omega
    · omega
  obtain ⟨c1, c2, c3⟩ := s_clearL ho
  have hr0 : zsC C PWr σ (zuI (zuI σ (C 66) 1 0) (C 65) 3 0) := (zsC.rf.uI (by decide) (Or.inr (Or.inl rfl))).uI (by decide) (Or.inl rfl)
  have hw0 : ∃ st, WS (zuI (zuI σ (C 66) 1 0) (C 65) 3 0) C [] st 0 := by
    refine ⟨(zi σ (C 65) 2).toBitVec.toNat, h.of hr0, fun k hk => ?_, c2.of (zsm1 (b := C 65)) (h.ne 66 65) (h.ne 67 65), ?_, ?_⟩
    · rw [hr0.i h (by decide) (PWr.no (by decide))]; exact ht k hk
    · rw [zi_uI, if_neg (by omega), zi_uI, if_neg (by omega)]; exact zof _
    · rw [zi_uI, if_pos ⟨rfl, rfl⟩]; rfl
  obtain ⟨st0, w0⟩ := hw0
  have k65 : zk (zuI σ (C 66) 1 0) (C 65) = 10 := h.wrl.1
  unfold fX10_run
  rw [oGR_eq h.wrl.1 h.wrl.2.1, oA_eq ho.1.1, oB_eq c1, oPI_eq k65]
  generalize zuI (zuI σ (C 66) 1 0) (C 65) 3 0 = s0 at hr0 w0
  obtain ⟨s1, e1, z1, w1⟩ := w_num w0 (-1991225785) (by decide)
  obtain ⟨s2, e2, z2, w2⟩ := w_num w1 218765834 (by decide)
  have hsg : [] ++ zb4 (-1991225785) ++ zb4 218765834 = [137, 80, 78, 71, 13, 10, 26, 10] := by decide
  rw [hsg] at w2
  have y2 := (hr0.trans z1).trans z2
  have hR2 := hR.pwr h hb y2 b4
  obtain ⟨s3, e3, z3, w3⟩ := w_head w2 hb hR2.1.2.2.1 hR2.1.2.2.2.1 (by decide)
  have hl3 : ([137, 80, 78, 71, 13, 10, 26, 10] ++ chkS 1229472850 (zb4 (nI (ab 1)) ++ zb4 (nI (ab 2)) ++ [8, 6, 0, 0, 0])).length = 33 := by
    rw [List.length_append, chkS_len]; rfl
  generalize hH : [137, 80, 78, 71, 13, 10, 26, 10] ++ chkS 1229472850 (zb4 (nI (ab 1)) ++ zb4 (nI (ab 2)) ++ [8, 6, 0, 0, 0]) = H3 at w3 hl3
  obtain ⟨s4, e4, z4, w4⟩ := w_open w3 8 1633899596 (by omega)
  obtain ⟨s5, e5, z5, w5⟩ := w_num w4 (nI (ab 4)) (by simp only [List.length_append, zb4_len]; omega)
  obtain ⟨s6, e6, z6, w6⟩ := w_num w5 (nI (ab 3)) (by simp only [List.length_append, zb4_len]; omega)
  obtain ⟨s7, e7, z7, w7⟩ := w_end (L := H3) (ty := 1633899596) (len := 8) (body := zb4 (nI (ab 4)) ++ zb4 (nI (ab 3))) w6 (by simp only [List.append_assoc]) rfl (by simp only [List.length_append, zb4_len]; omega)
  have hHS : H3 ++ chkS 1633899596 (zb4 (nI (ab 4)) ++ zb4 (nI (ab 3))) = hdS ab := by rw [← hH]; rfl
  rw [hHS] at w7
  have y4 := (y2.trans z3).trans z4
  have y5 := y4.trans z5
  have y7 := (y5.trans z6).trans z7
  have hR4 := hR.pwr h hb y4 b4
  have hR5 := hR.pwr h hb y5 b4
  have hR7 := hR.pwr h hb y7 b4
  have kk : ∀ t, CLL t C → zk t (C b) = 6 := fun t ht => (ht.rl hb).1
  have g4 : zi s4 (C b) 7 = nI (ab 4) := hR4.1.2.2.2.2.2
  have g5 : zi s5 (C b) 6 = nI (ab 3) := hR5.1.2.2.2.2.1
  have g7 : zi s7 (C b) 3 = nI (ab 5) := hR7.1.2.1
  rw [oGR_eq w0.k.1 w0.k.2.1, oA_eq w0.bb.1, oB_eq e1, oGR_eq w1.k.1 w1.k.2.1, oA_eq w1.bb.1, oB_eq e2, oA_eq w2.k.1, oB_eq e3, oA_eq w3.k.1, oB_eq e4, oGR_eq w4.k.1 w4.k.2.1, oGI_eq (kk s4 w4.1) g4, oA_eq w4.bb.1, oB_eq e5, oGR_eq w5.k.1 w5.k.2.1, oGI_eq (kk s5 w5.1) g5, oA_eq w5.bb.1, oB_eq e6, oA_eq w6.k.1, oB_eq e7, oGI_eq (kk s7 w7.1) g7]
  unfold fileS
  have hdl := hdS_len ab
  rcases (show ab 5 = 0 ∨ ab 5 = 1 by omega) with q | q
  · have w7' : WS s7 C (hdS ab) (H3.length + 4) (ab 5) := by rw [q]; exact w7
    obtain ⟨s8, e8, z8, st8, n8, w8⟩ := w_r86 w7' hb hR7 hw h0 (by omega) (by omega)
    rw [if_pos q, q, if_pos (by decide)]
    rw [q] at w8
    exact ⟨s8, e8, y7.trans z8, w8.2.2.1⟩
  · have hL7 := w7.1.rl hb
    have hpic := hR7.pic w7.1 hb (f := 0) h4 (by decide)
    obtain ⟨s8, e8, z8, w8⟩ := w_ctl (r := rg 0) (ip := b + (2 + 2 * 0)) w7 (by omega) hpic.1.1 hpic.2.1 (by omega)
    have hR8 := hR7.pwr w7.1 hb z8 b4
    have w8' : WS s8 C (hdS ab ++ chkS 1717785676 (ctlB 0 (rg 0))) ((hdS ab).length + 4) (ab 5) := by rw [q]; exact w8
    obtain ⟨s9, e9, z9, st9, n9, w9⟩ := w_r86 w8' hb hR8 hw h0 (by omega) (by rw [List.length_append, chkS_len, ctlB_len]; omega)
    have hlr : oLr s7 (C (b + 1)) 0 (fun a12 => oA (zk s7 (C 65) = 10) (oB (fX10_addControl s7 (C 65) a12) (fun σ16 => fX10_run_86 σ16 (C 65) (C b)))) = some s9 := by
      have := oLr_eq (σ := s7) (a := C (b + 1)) (n := 0) (v := C (b + (2 + 2 * 0))) (f := fun a12 => oA (zk s7 (C 65) = 10) (oB (fX10_addControl s7 (C 65) a12) (fun σ16 => fX10_run_86 σ16 (C 65) (C b)))) hL7.2.2.2.1 (by rw [hL7.2.2.2.2.1]; decide) (by decide) (hL7.2.2.2.2.2.1 0 (by decide))
      refine this.trans ?_
      rw [oA_eq w7.k.1, oB_eq e8]
      exact e9
    have r7 : zr s7 (C b) 0 = some (C (b + 1)) := hL7.2.1
    rw [q, if_neg (by decide), if_neg (by decide), oGR_eq (kk s7 w7.1) r7]
    rw [q] at w9
    exact ⟨s9, hlr, (y7.trans z8).trans z9, w9.2.2.1⟩
theorem c_write {o : List Nat} (h : CLL σ C) (hb : isR b) (hr : zr σ (C 0) 4 = some (C b)) (hR : RC σ (fun i => C (b + i)) ab rg px) (hw : WFr ab rg) (ht : SMT σ (C 2)) (ho : BL σ (C 66) (C 67) 9968 o) :
    ∃ s, ((ab 4 = 0 ∧ fX11_write σ (C 0) = some (-13, s) ∧ s = σ) ∨ (0 < ab 4 ∧ fX11_write σ (C 0) = some (nI (fileS ab rg px).length, s) ∧ zsC C PWr σ s ∧ BL s (C 66) (C 67) 9968 (fileS ab rg px))) := by
  obtain ⟨b0, b1, b2, b4, b5, b6⟩ := hw.b
  have kb : zk σ (C b) = 6 := (h.rl hb).1
  have g0 : zi σ (C b) 2 = nI (ab 0) := hR.1.1
  have g4 : zi σ (C b) 7 = nI (ab 4) := hR.1.2.2.2.2.2
  have q4 : nI (ab 4) = 0 ↔ ab 4 = 0 := nI_eq (b := 0) (by omega) (by decide)
  have q0 : nI (ab 0) = 0 ↔ ab 0 = 0 := nI_eq (b := 0) (by omega) (by decide)
  unfold fX11_write
  rw [oGR_eq h.k0 hr, oGI_eq kb g0]
  by_cases d0 : ab 0 = 0
  · rw [if_pos (q0.mpr d0)]
    exact ⟨σ, Or.inl ⟨b6 d0, rfl, rfl⟩⟩
  · rw [if_neg (fun z => d0 (q0.mp z)), oGR_eq h.k0 hr, oGI_eq kb g4]
    by_cases d4 : ab 4 = 0
    · rw [if_pos (q4.mpr d4)]
      exact ⟨σ, Or.inl ⟨d4, rfl, rfl⟩⟩
    · rw [if_neg (fun z => d4 (q4.mp z)), oGR_eq h.k0 h.wr, oGR_eq h.k0 hr, oA_eq h.wrl.1]
      obtain ⟨s, e, z, w⟩ := w_run h ht ho hb hR hw (by omega)
      have h1 := h.of z
      refine ⟨s, Or.inr ⟨by omega, ?_, z, w⟩⟩
      rw [oB_eq e, oGR_eq h1.k0 h1.wr, oGR_eq h1.wrl.1 h1.wrl.2.1, oGI_eq w.1.1 w.1.2.2.2.2.1]
end PCWR
