/-! the reference's write -/
section PMWR2
variable {σ s : zS} {B : Nat → Nat} {L X : List Nat} {ab : Nat → Nat} {rg px : Nat → Nat → Nat}
theorem o_frames {f0 : Nat} (h : MS σ B L) (hR : MR σ B ab rg px) (hw : WFr ab rg) (hf0 : f0 ≤ ab 4) (hl : L.length + 1105 * (ab 4 - f0) ≤ 14000) : ∃ s, zloop zF (fun x => bX12_write_234 (B 0) x.1 x.2.1 x.2.2) (nI f0, nI f0, σ) = some s ∧ zsB B PMw FMw σ s ∧ MS s B (L ++ frS rg px f0 (ab 4 - f0)) := by
  obtain ⟨b0, b1, b2, b4, b5, -⟩ := hw.b
  refine zloop_cnt (body := fun x => bX12_write_234 (B 0) x.1 x.2.1 x.2.2) (fun k x => x.1 = nI (f0 + 2 * k) ∧ x.2.1 = nI (f0 + k) ∧ zsB B PMw FMw σ x.2.2 ∧ MS x.2.2 B (L ++ frS rg px f0 k)) (ab 4 - f0) (fun s => zsB B PMw FMw σ s ∧ MS s B (L ++ frS rg px f0 (ab 4 - f0))) (fun k x hk hx => ?_) (fun x hx => ?_) zF (nI f0, nI f0, σ) ⟨rfl, rfl, zsB.rf, by rw [frS, List.append_nil]; exact h⟩ (by unfold zF; omega)
  · obtain ⟨i, j, t⟩ := x
    obtain ⟨x1, x2, x3, x4⟩ := hx
    dsimp only at x1 x2 x3 x4
    subst x1
    subst x2
    have hf : f0 + k < ab 4 := by omega
    have hR1 := hR.pmw h.1 x3
    have rgb := (hw.rgn hf).b b1 b2
    have hwh := zwh rgb.1 rgb.2.1
    have hlen := frS_len (rg := rg) (px := px) (f0 := f0) k (fun j hj => by
      have := (hw.rgn (f := f0 + j) (by omega)).b b1 b2
      exact ⟨this.1, this.2.1⟩)
    have hlk : 1105 * (k + 1) ≤ 1105 * (ab 4 - f0) := Nat.mul_le_mul_left _ hk
    obtain ⟨s1, e1, z1, w1⟩ := o_ctl (n := f0 + 2 * k) x4 hR1 hf (by omega) (by rw [List.length_append]; omega)
    have hl1 : (L ++ frS rg px f0 k ++ chkS 1717785676 (ctlB (f0 + 2 * k) (rg (f0 + k)))).length ≤ L.length + 1105 * k + 38 := by rw [List.length_append, List.length_append, chkS_len, ctlB_len]; omega
    generalize hL1 : L ++ frS rg px f0 k ++ chkS 1717785676 (ctlB (f0 + 2 * k) (rg (f0 + k))) = L1 at w1 hl1
    obtain ⟨s2, e2, z2, w2⟩ := o_begin w1 (ty := 1717846356) (a := 102) (b := 100) (c := 65) (d := 84) (by decide) (by omega)
    obtain ⟨s3, e3, z3, w3⟩ := o_num w2 (nI (f0 + 2 * k + 1)) (by simp only [List.length_append, zb4_len]; omega)
    have y3 := (z1.trans z2).trans z3
    have hR3 := hR1.pmw x4.1 y3
    obtain ⟨s4, e4, z4, w4⟩ := o_pic (g := f0 + k) (w := rg (f0 + k) 0) (hh := rg (f0 + k) 1) (pf := px (f0 + k)) w3 (fun i hi => hR3.2.2.1 _ hf i hi) (by omega) rgb.1 rgb.2.1 (by simp only [List.length_append, zb4_len]; omega)
    obtain ⟨s5, e5, z5, w5⟩ := o_end (L := L1) (ty := 1717846356) (body := zb4 (nI (f0 + 2 * k + 1)) ++ packP (rg (f0 + k) 0) (rg (f0 + k) 1) (px (f0 + k))) w4 (by simp only [List.append_assoc]) (by rw [List.length_append, packP_len, zb4_len]; omega)
    refine Or.inl ⟨(nI (f0 + 2 * (k + 1)), nI (f0 + (k + 1)), s5), ?_, rfl, rfl, (x3.trans y3).trans (z4.trans z5), ?_⟩
    · show bX12_write_234 (B 0) (nI (f0 + 2 * k)) (nI (f0 + k)) t = _
      unfold bX12_write_234
      have c1 : ¬ nI (ab 4) ≤ nI (f0 + k) := by rw [nI_leI (by omega) (by omega)]; omega
      have g0 : fX12_region s3 (B 0) 0 (nI (f0 + k)) 0 = some (nI (rg (f0 + k) 0)) := m_reg0 w3.1 hR3 hf (by omega) (k := 0) (by decide)
      have g1 : fX12_region s3 (B 0) 0 (nI (f0 + k)) 1 = some (nI (rg (f0 + k) 1)) := m_reg0 w3.1 hR3 hf (by omega) (k := 1) (by decide)
      have a2 : nI (f0 + 2 * k) + 2 = nI (f0 + 2 * (k + 1)) := nI_add _ 2
      rw [zAB x4.1 (k := 4) (kk := 4) (by decide) rfl (hR1.1 4 (by decide)), if_neg c1, oA_eq x4.k, oB_eq e1, oA_eq w1.k, oC_eq e2, oA_eq w2.k, nI_1, oB_eq e3, oL_eq, oA_eq w3.k, oB_eq g0, oA_eq w3.k, oB_eq g1, oA_eq w3.k, oB_eq e4, oA_eq w4.k, oB_eq e5, oL_eq, a2, nI_1]
      rfl
    · rw [frS, ← List.append_assoc, ← List.append_assoc, hL1]
      exact w5
  · obtain ⟨i, j, t⟩ := x
    obtain ⟨x1, x2, x3, x4⟩ := hx
    dsimp only at x1 x2 x3 x4
    subst x1
    subst x2
    have hR1 := hR.pmw h.1 x3
    refine ⟨t, ?_, x3, x4⟩
    show bX12_write_234 (B 0) (nI (f0 + 2 * (ab 4 - f0))) (nI (f0 + (ab 4 - f0))) t = _
    unfold bX12_write_234
    rw [zAB x4.1 (k := 4) (kk := 4) (by decide) rfl (hR1.1 4 (by decide)), if_pos (by rw [nI_leI (by omega) (by omega)]; omega)]
theorem o_w207 (h : MS σ B (L ++ zb4 0 ++ zb4 1229209940)) (hR : MR σ B ab rg px) (hw : WFr ab rg) (h0 : ab 0 = 1) (hf0 : ab 5 ≤ ab 4) (hl : L.length + 1063 + 1105 * (ab 4 - ab 5) + 12 ≤ 14000) : ∃ s, fX12_write_207 σ (B 0) (nI L.length) (nI (ab 5)) (nI (dfP ab)) (B 0) = some (nI (L ++ idS ab px ++ frS rg px (ab 5) (ab 4 - ab 5) ++ chkS 1229278788 []).length, s) ∧ zsB B PMw FMw σ s ∧ MS s B (L ++ idS ab px ++ frS rg px (ab 5) (ab 4 - ab 5) ++ chkS 1229278788 []) := by
  obtain ⟨b0, b1, b2, b4, b5, -⟩ := hw.b
  have hwh := zwh b1 b2
  have hp : PYs σ B (dfP ab) (ab 1) (ab 2) (px (dfP ab)) := fun i hi => by
    by_cases q : ab 5 = 1
    · have hf : 0 < ab 4 ∧ rg 0 0 = ab 1 ∧ rg 0 1 = ab 2 := by
        rcases hw with ⟨q2, -⟩ | ⟨-, -, -, -, -, -, q2⟩
        · omega
        · exact q2 q
      have e : dfP ab = 0 := by unfold dfP; rw [if_pos q]
      rw [e]
      exact hR.2.2.1 0 hf.1 i (by rw [hf.2.1, hf.2.2]; exact hi)
    · have e : dfP ab = 8 := by unfold dfP; rw [if_neg q]
      rw [e]
      exact hR.2.2.2 (by omega) i hi
  have d8 : dfP ab ≤ 8 := by unfold dfP; split <;> decide
  obtain ⟨s1, e1, z1, w1⟩ := o_pic h hp d8 b1 b2 (by simp only [List.length_append, zb4_len]; omega)
  obtain ⟨s2, e2, z2, w2⟩ := o_end (L := L) (ty := 1229209940) (body := packP (ab 1) (ab 2) (px (dfP ab))) w1 rfl (by rw [packP_len]; omega)
  have y2 := z1.trans z2
  have hR2 := hR.pmw h.1 y2
  have hl2 : (L ++ chkS 1229209940 (packP (ab 1) (ab 2) (px (dfP ab)))).length ≤ L.length + 1063 := by rw [List.length_append, chkS_len, packP_len]; omega
  obtain ⟨s3, e3, z3, w3⟩ := o_frames w2 hR2 hw hf0 (by omega)
  have hlen := frS_len (rg := rg) (px := px) (f0 := ab 5) (ab 4 - ab 5) (fun j hj => by
    have := (hw.rgn (f := ab 5 + j) (by omega)).b b1 b2
    exact ⟨this.1, this.2.1⟩)
  have hl3 : (L ++ chkS 1229209940 (packP (ab 1) (ab 2) (px (dfP ab))) ++ frS rg px (ab 5) (ab 4 - ab 5)).length ≤ L.length + 1063 + 1105 * (ab 4 - ab 5) := by rw [List.length_append]; omega
  obtain ⟨s4, e4, z4, w4⟩ := o_begin w3 (ty := 1229278788) (a := 73) (b := 69) (c := 78) (d := 68) (by decide) (by omega)
  obtain ⟨s5, e5, z5, w5⟩ := o_end (L := L ++ chkS 1229209940 (packP (ab 1) (ab 2) (px (dfP ab))) ++ frS rg px (ab 5) (ab 4 - ab 5)) (ty := 1229278788) (body := []) w4 (by rw [List.append_nil]) (by show _ + 0 + 12 ≤ _; omega)
  refine ⟨s5, ?_, ((y2.trans z3).trans z4).trans z5, w5⟩
  unfold fX12_write_207
  rw [zAB h.1 (k := 1) (kk := 1) (by decide) rfl (hR.1 1 (by decide)), zAB h.1 (k := 2) (kk := 2) (by decide) rfl (hR.1 2 (by decide)), oA_eq h.k, oB_eq e1, oA_eq w1.k, oB_eq e2, zAB w2.1 (k := 5) (kk := 5) (by decide) rfl (hR2.1 5 (by decide)), oB_eq e3]
  dsimp only
  rw [oA_eq w3.k, oC_eq e4, oA_eq w4.k, oB_eq e5, oGI_eq w5.k w5.2.1]
  rfl
theorem o_w177 (h : MS σ B L) (hR : MR σ B ab rg px) (hw : WFr ab rg) (h0 : ab 0 = 1) (hf0 : ab 5 ≤ ab 4) (hl : L.length + 1063 + 1105 * (ab 4 - ab 5) + 12 ≤ 14000) : ∃ s, fX12_write_177 σ (B 0) (nI (ab 5)) = some (nI (L ++ idS ab px ++ frS rg px (ab 5) (ab 4 - ab 5) ++ chkS 1229278788 []).length, s) ∧ zsB B PMw FMw σ s ∧ MS s B (L ++ idS ab px ++ frS rg px (ab 5) (ab 4 - ab 5) ++ chkS 1229278788 []) := by
  obtain ⟨b0, b1, b2, b4, b5, -⟩ := hw.b
  obtain ⟨s1, e1, z1, w1⟩ := o_begin h (ty := 1229209940) (a := 73) (b := 68) (c := 65) (d := 84) (by decide) (by omega)
  have hR1 := hR.pmw h.1 z1
  obtain ⟨s2, e2, z2, w2⟩ := o_w207 w1 hR1 hw h0 hf0 hl
  refine ⟨s2, ?_, z1.trans z2, w2⟩
  unfold fX12_write_177
  rw [oA_eq h.k, oC_eq e1, zAB w1.1 (k := 5) (kk := 5) (by decide) rfl (hR1.1 5 (by decide))]
  rcases (show ab 5 = 0 ∨ ab 5 = 1 by omega) with q | q
  · have d : dfP ab = 8 := by unfold dfP; rw [if_neg (by omega)]
    rw [d, q] at e2
    rw [q, if_neg (by decide)]
    exact e2
  · have d : dfP ab = 0 := by unfold dfP; rw [if_pos q]
    rw [d, q] at e2
    rw [q, if_pos (by decide)]
    exact e2
def sgL : List Nat := [137, 80, 78, 71, 13, 10, 26, 10]
theorem m_mark {i : Nat} (hi : i < 8) : fX12_mark σ (nI i) = some (nI (sgL.getD i 0)) := by
  rcases (show i = 0 ∨ i = 1 ∨ i = 2 ∨ i = 3 ∨ i = 4 ∨ i = 5 ∨ i = 6 ∨ i = 7 by omega) with q | q | q | q | q | q | q | q <;> subst q <;> rfl
theorem sgL_step {i : Nat} (hi : i < 8) : sgL.take i ++ [(nI (sgL.getD i 0)).toBitVec.toNat % 256] = sgL.take (i + 1) := by
  rcases (show i = 0 ∨ i = 1 ∨ i = 2 ∨ i = 3 ∨ i = 4 ∨ i = 5 ∨ i = 6 ∨ i = 7 by omega) with q | q | q | q | q | q | q | q <;> subst q <;> decide
theorem o_sig (h : MS σ B []) : ∃ s, zloop zF (fun x => bX12_write_33 (B 0) x.1 x.2) (0, σ) = some s ∧ zsB B PMw FMw σ s ∧ MS s B sgL := by
  refine zloop_cnt (body := fun x => bX12_write_33 (B 0) x.1 x.2) (fun i x => x.1 = nI i ∧ zsB B PMw FMw σ x.2 ∧ MS x.2 B (sgL.take i)) 8 (fun s => zsB B PMw FMw σ s ∧ MS s B sgL) (fun i x hi hx => ?_) (fun x hx => ?_) zF (0, σ) ⟨rfl, zsB.rf, h⟩ (by unfold zF; decide)
  · obtain ⟨k, t⟩ := x
    obtain ⟨x1, x2, x3⟩ := hx
    dsimp only at x1 x2 x3
    subst x1
    have hl8 : (sgL.take i).length ≤ 8 := by rw [List.length_take]; exact Nat.min_le_right _ _
    obtain ⟨s', e', z', w'⟩ := o_put x3 (nI (sgL.getD i 0)) (by omega)
    rw [sgL_step hi] at w'
    refine Or.inl ⟨(nI (i + 1), s'), ?_, rfl, x2.trans z', w'⟩
    show bX12_write_33 (B 0) (nI i) t = _
    unfold bX12_write_33
    have c1 : ¬ (8 : Int32) ≤ nI i := fun z => by
      have := (nI_leI (a := 8) (b := i) (by decide) (by omega)).mp z
      omega
    rw [if_neg c1, oB_eq (m_mark hi), oA_eq x3.k, oB_eq e', oL_eq, nI_1]
  · obtain ⟨k, t⟩ := x
    obtain ⟨x1, x2, x3⟩ := hx
    dsimp only at x1 x2 x3
    subst x1
    refine ⟨t, ?_, x2, x3⟩
    show bX12_write_33 (B 0) (nI 8) t = _
    unfold bX12_write_33
    rw [if_pos (by decide)]
theorem m_write (h : zML σ B) (hR : MR σ B ab rg px) (hw : WFr ab rg) :
    ∃ s, ((ab 4 = 0 ∧ fX12_write σ (B 0) = some (-13, s) ∧ s = zuI σ (B 0) 0 0) ∨ (0 < ab 4 ∧ fX12_write σ (B 0) = some (nI (fileS ab rg px).length, s) ∧ zsB B PMw FMw σ s ∧ OUm s B (fileS ab rg px))) := by
  obtain ⟨b0, b1, b2, b4, b5, b6⟩ := hw.b
  have q4 : nI (ab 4) = 0 ↔ ab 4 = 0 := nI_eq (b := 0) (by omega) (by decide)
  have q0 : nI (ab 0) = 0 ↔ ab 0 = 0 := nI_eq (b := 0) (by omega) (by decide)
  have h' : zML (zuI σ (B 0) 0 0) B := h.u
  have hR' : MR (zuI σ (B 0) 0 0) B ab rg px := hR.u0 h
  have hz' : zsB B PMw FMw σ (zuI σ (B 0) 0 0) := zsB.rf.u0 (Or.inl rfl) (Or.inl rfl)
  unfold fX12_write
  rw [oPI_eq h.2.1]
  generalize hs' : zuI σ (B 0) 0 0 = σ' at h' hR' hz'
  rw [zAB h' (k := 0) (kk := 0) (by decide) rfl (hR'.1 0 (by decide))]
  by_cases d0 : ab 0 = 0
  · rw [if_pos (q0.mpr d0)]
    exact ⟨σ', Or.inl ⟨b6 d0, rfl, rfl⟩⟩
  · rw [if_neg (fun z => d0 (q0.mp z)), zAB h' (k := 4) (kk := 4) (by decide) rfl (hR'.1 4 (by decide))]
    by_cases d4 : ab 4 = 0
    · rw [if_pos (q4.mpr d4)]
      exact ⟨σ', Or.inl ⟨d4, rfl, rfl⟩⟩
    · rw [if_neg (fun z => d4 (q4.mp z)), oPI_eq h'.2.1]
      have h0 : ab 0 = 1 := by omega
      have w0 : MS (zuI σ' (B 0) 12 0) B [] := ⟨h'.u, by rw [zi_uI, if_pos ⟨rfl, rfl⟩]; rfl, by decide, fun j hj => absurd hj (Nat.not_lt_zero j)⟩
      have z0 : zsB B PMw FMw σ' (zuI σ' (B 0) 12 0) := zsB.rf.u0 (Or.inl rfl) (Or.inr rfl)
      generalize zuI σ' (B 0) 12 0 = s0 at w0 z0
      obtain ⟨s1, e1, z1, w1⟩ := o_sig w0
      obtain ⟨s2, e2, z2, w2⟩ := o_begin w1 (ty := 1229472850) (a := 73) (b := 72) (c := 68) (d := 82) (by decide) (by decide)
      have y2 := (z0.trans z1).trans z2
      have hR2 := hR'.pmw h' y2
      obtain ⟨s3, e3, z3, w3⟩ := o_num w2 (nI (ab 1)) (by decide)
      have y3 := y2.trans z3
      have hR3 := hR'.pmw h' y3
      obtain ⟨s4, e4, z4, w4⟩ := o_num w3 (nI (ab 2)) (by simp only [List.length_append, zb4_len]; decide)
      obtain ⟨s5, e5, z5, w5⟩ := o_put w4 8 (by simp only [List.length_append, zb4_len]; decide)
      obtain ⟨s6, e6, z6, w6⟩ := o_put w5 6 (by simp only [List.length_append, zb4_len, List.length_cons, List.length_nil]; decide)
      obtain ⟨s7, e7, z7, w7⟩ := o_put w6 0 (by simp only [List.length_append, zb4_len, List.length_cons, List.length_nil]; decide)
      obtain ⟨s8, e8, z8, w8⟩ := o_put w7 0 (by simp only [List.length_append, zb4_len, List.length_cons, List.length_nil]; decide)
      obtain ⟨s9, e9, z9, w9⟩ := o_put w8 0 (by simp only [List.length_append, zb4_len, List.length_cons, List.length_nil]; decide)
      have y9 := (((((y3.trans z4).trans z5).trans z6).trans z7).trans z8).trans z9
      obtain ⟨s10, e10, z10, w10⟩ := o_end (L := sgL) (ty := 1229472850) (body := zb4 (nI (ab 1)) ++ zb4 (nI (ab 2)) ++ [8, 6, 0, 0, 0]) w9 (by simp only [List.append_assoc]; rfl) (by simp only [List.length_append, zb4_len]; decide)
      have y10 := y9.trans z10
      have hl10 : (sgL ++ chkS 1229472850 (zb4 (nI (ab 1)) ++ zb4 (nI (ab 2)) ++ [8, 6, 0, 0, 0])).length = 33 := by
        rw [List.length_append, chkS_len]; rfl
      generalize hH : sgL ++ chkS 1229472850 (zb4 (nI (ab 1)) ++ zb4 (nI (ab 2)) ++ [8, 6, 0, 0, 0]) = H3 at w10 hl10
      obtain ⟨s11, e11, z11, w11⟩ := o_begin w10 (ty := 1633899596) (a := 97) (b := 99) (c := 84) (d := 76) (by decide) (by omega)
      have y11 := y10.trans z11
      have hR11 := hR'.pmw h' y11
      obtain ⟨s12, e12, z12, w12⟩ := o_num w11 (nI (ab 4)) (by simp only [List.length_append, zb4_len]; omega)
      have y12 := y11.trans z12
      have hR12 := hR'.pmw h' y12
      obtain ⟨s13, e13, z13, w13⟩ := o_num w12 (nI (ab 3)) (by simp only [List.length_append, zb4_len]; omega)
      obtain ⟨s14, e14, z14, w14⟩ := o_end (L := H3) (ty := 1633899596) (body := zb4 (nI (ab 4)) ++ zb4 (nI (ab 3))) w13 (by simp only [List.append_assoc]) (by simp only [List.length_append, zb4_len]; omega)
      have y14 := (y12.trans z13).trans z14
      have hR14 := hR'.pmw h' y14
      have hHS : H3 ++ chkS 1633899596 (zb4 (nI (ab 4)) ++ zb4 (nI (ab 3))) = hdS ab := by rw [← hH]; rfl
      rw [hHS] at w14
      have hdl := hdS_len ab
      have hone : nI (ab 5) = 1 ↔ ab 5 = 1 := nI_eq (b := 1) (by omega) (by decide)
      have e2' : fX12_beginChunk s1 (B 0) 73 72 68 82 = some (nI sgL.length, s2) := e2
      rw [oB_eq e1]
      dsimp only
      rw [oA_eq w1.k, oC_eq e2', zAB w2.1 (k := 1) (kk := 1) (by decide) rfl (hR2.1 1 (by decide)), oA_eq w2.k, oB_eq e3, zAB w3.1 (k := 2) (kk := 2) (by decide) rfl (hR3.1 2 (by decide)), oA_eq w3.k, oB_eq e4, oA_eq w4.k, oB_eq e5, oA_eq w5.k, oB_eq e6, oA_eq w6.k, oB_eq e7, oA_eq w7.k, oB_eq e8, oA_eq w8.k, oB_eq e9, oA_eq w9.k, oB_eq e10, oA_eq w10.k, oC_eq e11, zAB w11.1 (k := 4) (kk := 4) (by decide) rfl (hR11.1 4 (by decide)), oA_eq w11.k, oB_eq e12, zAB w12.1 (k := 3) (kk := 3) (by decide) rfl (hR12.1 3 (by decide)), oA_eq w12.k, oB_eq e13, oA_eq w13.k, oB_eq e14, zAB w14.1 (k := 5) (kk := 5) (by decide) rfl (hR14.1 5 (by decide))]
      unfold fileS
      rcases (show ab 5 = 0 ∨ ab 5 = 1 by omega) with q | q
      · obtain ⟨s15, e15, z15, w15⟩ := o_w177 w14 hR14 hw h0 (by omega) (by omega)
        rw [q] at e15 w15
        rw [if_neg (fun z => by have := hone.mp z; omega), if_pos q, q]
        exact ⟨s15, Or.inr ⟨by omega, e15, (hz'.trans y14).trans z15, w15.2⟩⟩
      · obtain ⟨s15, e15, z15, w15⟩ := o_ctl (f := 0) (n := 0) w14 hR14 (by omega) (by decide) (by omega)
        have hR15 := hR14.pmw w14.1 z15
        obtain ⟨s16, e16, z16, w16⟩ := o_w177 w15 hR15 hw h0 (by omega) (by rw [List.length_append, chkS_len, ctlB_len]; omega)
        rw [q] at e16 w16
        have e15' : fX12_putControl s14 (B 0) 0 0 = some s15 := e15
        have e16' : fX12_write_177 s15 (B 0) (0 + 1) = some (nI (hdS ab ++ chkS 1717785676 (ctlB 0 (rg 0)) ++ idS ab px ++ frS rg px 1 (ab 4 - 1) ++ chkS 1229278788 []).length, s16) := e16
        rw [if_pos (hone.mpr q), if_neg (by omega), q, oA_eq w14.k, oB_eq e15', oL_eq]
        exact ⟨s16, Or.inr ⟨by omega, e16', ((hz'.trans y14).trans z15).trans z16, w16.2⟩⟩
end PMWR2
