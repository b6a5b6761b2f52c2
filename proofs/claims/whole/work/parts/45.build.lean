/-! Codes -/
def CO (σ : zS) (q cA sA yA : Nat) : Prop := zk σ q = 3 ∧ zr σ q 0 = some cA ∧ zr σ q 1 = some sA ∧ zr σ q 2 = some yA ∧ zk σ cA = 21 ∧ zn σ cA = 16 ∧ zk σ sA = 21 ∧ zn σ sA = 17 ∧ zk σ yA = 21 ∧ zn σ yA = 288 ∧ cA ≠ sA ∧ cA ≠ yA ∧ sA ≠ yA
def COs (q cA sA yA : Nat) : Nat → Prop := fun a => a = q ∨ a = cA ∨ a = sA ∨ a = yA
/-- the codes are those of len, of M symbols -/
def CD (σ : zS) (q cA yA : Nat) (len : Nat → Nat) (M : Nat) : Prop := (∀ l, l < 16 → zi σ cA l = nI (cntS len M l)) ∧ zi σ q 3 = nI (M - cntS len M 0) ∧ ∀ s, s < M → len s ≠ 0 → zi σ yA (posS len M s) = nI s
section PBUILD
variable {σ : zS} {q cA sA yA : Nat}
theorem CO.of {σ' : zS} {S : Nat → Prop} (h : CO σ q cA sA yA) (hs : zsm S σ σ') : CO σ' q cA sA yA := by
  unfold CO
  rw [hs.k, hs.n, hs.r]
  exact h
theorem CO.ne (h : CO σ q cA sA yA) : q ≠ cA ∧ q ≠ sA ∧ q ≠ yA := by
  obtain ⟨h1, -, -, -, h2, -, h3, -, h4, -⟩ := h
  exact ⟨fun e => by rw [e, h2] at h1; exact absurd h1 (by decide), fun e => by rw [e, h3] at h1; exact absurd h1 (by decide), fun e => by rw [e, h4] at h1; exact absurd h1 (by decide)⟩
theorem CD.of {σ' : zS} {S : Nat → Prop} {len : Nat → Nat} {M : Nat} (h : CD σ q cA yA len M) (hs : zsm S σ σ') (h1 : ¬ S q) (h2 : ¬ S cA) (h3 : ¬ S yA) : CD σ' q cA yA len M := ⟨fun l hl => by rw [hs.i h2]; exact h.1 l hl, by rw [hs.i h1]; exact h.2.1, fun s hs1 hs2 => by rw [hs.i h3]; exact h.2.2 s hs1 hs2⟩
theorem s_build {la fr M : Nat} {len : Nat → Nat} (h : CO σ q cA sA yA) (hk : zk σ la = 21) (hn : fr + M ≤ zn σ la) (hz : zn σ la ≤ 20000) (hM : M ≤ 288) (hlen : ∀ j, j < M → len j ≤ 15 ∧ zi σ la (fr + j) = nI (len j)) (hla : ¬ COs q cA sA yA la) :
    ∃ r σ', fX2_build σ q la (nI fr) (nI M) = some (r, σ') ∧ zsm (COs q cA sA yA) σ σ' ∧ (∀ l, l < 16 → zi σ' cA l = nI (cntS len M l)) ∧ zi σ' q 3 = nI (M - cntS len M 0) ∧ ((leftS len M 15 < 0 ∧ r = -1) ∨ (0 ≤ leftS len M 15 ∧ r.toInt = leftS len M 15 ∧ CD σ' q cA yA len M)) := by
  have hne := h.ne
  obtain ⟨g1, g2, g3, g4, g5, g6, g7, g8, g9, g10, n1, n2, n3⟩ := id h
  have hlq : la ≠ q ∧ la ≠ cA ∧ la ≠ sA ∧ la ≠ yA := ⟨fun e => hla (Or.inl e), fun e => hla (Or.inr (Or.inl e)), fun e => hla (Or.inr (Or.inr (Or.inl e))), fun e => hla (Or.inr (Or.inr (Or.inr e)))⟩
  have hfr : (nI M).toInt = (M : Int) := zt_nI (by omega)
  -- counts are 0
  obtain ⟨σ1, e1, m1, f1⟩ := s_fill g5 (by omega) 0
  -- counting
  obtain ⟨σ2, e2, m2, f2⟩ := zloop_cnt (body := fun x => bX2_build_11 q la (nI fr) (nI M) x.1 x.2) (fun i x => x.1 = nI i ∧ zsm (fun a => a = cA) σ x.2 ∧ ∀ l, l < 16 → zi x.2 cA l = nI (cntS len i l)) M (fun s => zsm (fun a => a = cA) σ s ∧ ∀ l, l < 16 → zi s cA l = nI (cntS len M l))
    (fun i x hi hx => by
      obtain ⟨l4, s⟩ := x
      obtain ⟨x1, x2, x3⟩ := hx
      dsimp only at x1 x2 x3
      subst x1
      have t1 : (nI i).toInt = (i : Int) := zt_nI (by omega)
      have t2 : nI fr + nI i = nI (fr + i) := nI_add fr i
      have t3 : (nI (fr + i)).toInt = ((fr + i : Nat) : Int) := zt_nI (by omega)
      obtain ⟨u1, u2⟩ := hlen i hi
      have t4 : (nI (len i)).toInt = (len i : Int) := zt_nI (by omega)
      have v1 : zi s la (fr + i) = nI (len i) := by rw [x2.i hlq.2.1]; exact u2
      have v2 : zi s cA (len i) = nI (cntS len i (len i)) := x3 _ (by omega)
      refine Or.inl ⟨(nI (i + 1), zuI s cA (len i) (nI (cntS len i (len i) + 1))), ?_, rfl, x2.uI rfl, fun l hl => ?_⟩
      · unfold bX2_build_11
        simp only [oGR, oR, oLd, oSt, oL, x2.k, x2.n, x2.r, g1, g2, g5, g6, hk, zle, t1, hfr, t2, t3, zt0', znat, Int.toNat_natCast, v1, ↓reduceIte]
        rw [if_neg (by omega), if_pos ⟨trivial, by omega, by omega⟩, t4]
        simp only [Int.toNat_natCast]
        rw [if_pos ⟨trivial, by omega, by omega⟩, if_pos ⟨trivial, by omega, by omega⟩, v2, nI_1, nI_1]
      · rw [zi_uI, cntS]
        by_cases e : l = len i
        · rw [if_pos ⟨rfl, e⟩, if_pos e.symm, e]
        · rw [if_neg (fun z => e z.2), if_neg (fun z => e z.symm)]
          exact x3 l hl)
    (fun x hx => by
      obtain ⟨l4, s⟩ := x
      obtain ⟨x1, x2, x3⟩ := hx
      dsimp only at x1 x2 x3
      subst x1
      refine ⟨s, ?_, x2, x3⟩
      unfold bX2_build_11
      simp only [zle, Int.le_refl, ↓reduceIte]) zF (0, σ1) ⟨nI_0.symm, m1, fun l hl => by rw [f1 l (by omega)]; simp [cntS, nI_0]⟩ (by unfold zF; omega)
  have hc0 : cntS len M 0 ≤ M := cntS_le 0 M
  -- the place of starts[1], used
  have w3 : zi σ2 cA 0 = nI (cntS len M 0) := f2 0 (by omega)
  have hsub : nI M - nI (cntS len M 0) = nI (M - cntS len M 0) := pk_sub hc0
  generalize hσ5 : zuI (zuI σ2 q 3 (nI (M - cntS len M 0))) sA 1 0 = σ5
  have m5 : zsm (COs q cA sA yA) σ σ5 := by
    rw [← hσ5]
    exact zsm.uI (S := COs q cA sA yA) (zsm.uI (S := COs q cA sA yA) (m2.mono (fun a ha => (show COs q cA sA yA a from Or.inr (Or.inl ha)))) (Or.inl rfl)) (Or.inr (Or.inr (Or.inl rfl)))
  have c5 : ∀ l, l < 16 → zi σ5 cA l = nI (cntS len M l) := fun l hl => by
    rw [← hσ5, zi_uI, if_neg (fun z => n1 z.1), zi_uI, if_neg (fun z => hne.1 z.1.symm)]
    exact f2 l hl
  have u5 : zi σ5 q 3 = nI (M - cntS len M 0) := by
    rw [← hσ5, zi_uI, if_neg (fun z => hne.2.1 z.1), zi_uI, if_pos ⟨rfl, rfl⟩]
  have s5 : zi σ5 sA 1 = nI (stS len M 1) := by
    rw [← hσ5, zi_uI, if_pos ⟨rfl, rfl⟩]
    simp [stS, nI_0]
  -- left over, and where each length starts
  obtain ⟨b2, e4, p4⟩ := zloop_cnt (body := fun x => bX2_build_63 q la (nI fr) (nI M) x.1 x.2.1 x.2.2) (fun i x => 0 ≤ leftS len M i ∧ x.1.toInt = leftS len M i ∧ x.2.1 = nI (i + 1) ∧ zsm (fun a => a = sA) σ5 x.2.2 ∧ ∀ l, 1 ≤ l → l ≤ i + 1 → zi x.2.2 sA l = nI (stS len M l)) 15
    (fun b => match b with
      | .inl c => 0 ≤ leftS len M 15 ∧ c.1.toInt = leftS len M 15 ∧ zsm (fun a => a = sA) σ5 c.2 ∧ ∀ l, 1 ≤ l → l ≤ 16 → zi c.2 sA l = nI (stS len M l)
      | .inr r => leftS len M 15 < 0 ∧ r.1 = -1 ∧ zsm (fun a => a = sA) σ5 r.2)
    (fun i x hi hx => by
      obtain ⟨l4, l5, s⟩ := x
      obtain ⟨x0, x1, x2, x3, x4⟩ := hx
      dsimp only at x1 x2 x3 x4
      subst x2
      have t1 : (nI (i + 1)).toInt = ((i + 1 : Nat) : Int) := zt_nI (by omega)
      have t15 : (15 : Int32).toInt = 15 := by decide
      have t2' : (2 : Int32).toInt = 2 := by decide
      have m6 := m5.trans (x3.mono (fun a ha => (show COs q cA sA yA a from Or.inr (Or.inr (Or.inl ha)))))
      have v1 : zi s cA (i + 1) = nI (cntS len M (i + 1)) := by rw [x3.i n1]; exact c5 _ (by omega)
      have hcl : cntS len M (i + 1) ≤ M := cntS_le _ _
      have hle := leftS_le (len := len) (M := M) i
      have hpw : (2 : Int) ^ i ≤ 2 ^ 14 := by
        have : (2 : Nat) ^ i ≤ 2 ^ 14 := Nat.pow_le_pow_right (by decide) (by omega)
        exact_mod_cast this
      have t3 : (nI (cntS len M (i + 1))).toInt = (cntS len M (i + 1) : Int) := zt_nI (by omega)
      have t4 : (l4 * 2).toInt = leftS len M i * 2 := by rw [zt_mul (by rw [x1, t2']; omega) (by rw [x1, t2']; omega), x1, t2']
      have t5 : (l4 * 2 - nI (cntS len M (i + 1))).toInt = leftS len M (i + 1) := by
        rw [zt_sub (by rw [t4, t3]; omega) (by rw [t4, t3]; omega), t4, t3]; rfl
      by_cases hneg : leftS len M (i + 1) < 0
      · refine Or.inr ⟨.inr (-1, s), ?_, leftS_neg (by omega) hneg, rfl, x3⟩
        unfold bX2_build_63
        simp only [oGR, oR, oLd, oL, m6.k, m6.n, m6.r, g1, g2, g5, g6, zle, zlt, t1, t15, zt0', znat, Int.toNat_natCast, v1, t5, ↓reduceIte]
        rw [if_neg (by omega), if_pos ⟨trivial, by omega, by omega⟩, if_neg (by omega)]
      · have v2 : zi s sA (i + 1) = nI (stS len M (i + 1)) := x4 _ (by omega) (by omega)
        have a1 : nI (i + 1) + 1 = nI (i + 1 + 1) := nI_1 (i + 1)
        have t6 : (nI (i + 1 + 1)).toInt = ((i + 1 + 1 : Nat) : Int) := zt_nI (by omega)
        refine Or.inl ⟨(l4 * 2 - nI (cntS len M (i + 1)), nI (i + 1 + 1), zuI s sA (i + 1 + 1) (nI (stS len M (i + 1 + 1)))), ?_, by omega, t5, rfl, x3.uI rfl, fun l hl1 hl2 => ?_⟩
        · unfold bX2_build_63
          simp only [oGR, oR, oLd, oSt, oL, m6.k, m6.n, m6.r, g1, g2, g3, g5, g6, g7, g8, zle, zlt, t1, t15, zt0', znat, Int.toNat_natCast, v1, v2, t5, a1, t6, ↓reduceIte]
          rw [if_neg (by omega), if_pos ⟨trivial, by omega, by omega⟩, if_pos (by omega), if_pos ⟨trivial, by omega, by omega⟩, if_pos ⟨trivial, by omega, by omega⟩, if_pos ⟨trivial, by omega, by omega⟩, nI_add]
          rfl
        · rw [zi_uI]
          by_cases e : l = i + 1 + 1
          · rw [if_pos ⟨rfl, e⟩, e]
          · rw [if_neg (fun z => e z.2)]
            exact x4 l hl1 (by omega))
    (fun x hx => by
      obtain ⟨l4, l5, s⟩ := x
      obtain ⟨x0, x1, x2, x3, x4⟩ := hx
      dsimp only at x1 x2 x3 x4
      subst x2
      refine ⟨.inl (l4, s), ?_, x0, x1, x3, x4⟩
      unfold bX2_build_63
      have hd : (15 : Int32) < nI (15 + 1) := by decide
      exact if_pos hd) zF (1, 1, σ5) ⟨by simp [leftS], by simp [leftS], rfl, zsm.rf, fun l h1 h2 => by
        have : l = 1 := by omega
        subst this; exact s5⟩ (by unfold zF; omega)
  have pre : fX2_build σ q la (nI fr) (nI M) = oS b2 (fun c1 => (fun v4 σ7 => oB (zloop zF (fun x => bX2_build_124 q la (nI fr) (nI M) v4 x.1 x.2) (0, σ7)) (fun b3 => (fun σ10 => some (v4, σ10)) b3)) c1.1 c1.2) (fun r1 => some r1) := by
    unfold fX2_build
    simp only [oGR, oR, oB, oLd, oSt, oPI, e1, e2, m2.k, m2.n, m2.r, g1, g2, g3, g5, g6, g7, g8, zk_uI, zn_uI, zr_uI, ↓reduceIte]
    rw [if_pos ⟨trivial, by decide, by decide⟩]
    have w4 : zi σ2 cA (Int32.toNatClampNeg 0) = nI (cntS len M 0) := w3
    rw [w4, hsub, if_pos ⟨trivial, by decide, by decide⟩]
    have w5 : zuI (zuI σ2 q 3 (nI (M - cntS len M 0))) sA (Int32.toNatClampNeg 1) 0 = σ5 := hσ5
    rw [w5, e4]
  rw [pre]
  cases b2 with
  | inr r =>
    obtain ⟨r1, r2⟩ := r
    obtain ⟨p1, p2, p3⟩ := p4
    dsimp only at p2 p3
    have m6 := m5.trans (p3.mono (fun a ha => (show COs q cA sA yA a from Or.inr (Or.inr (Or.inl ha)))))
    refine ⟨r1, r2, rfl, m6, fun l hl => by rw [p3.i n1]; exact c5 l hl, by rw [p3.i hne.2.1]; exact u5, Or.inl ⟨p1, p2⟩⟩
  | inl c =>
    obtain ⟨v4, σ7⟩ := c
    obtain ⟨p1, p2, p3, p5⟩ := p4
    dsimp only at p2 p3 p5
    have m7 := m5.trans (p3.mono (fun a ha => (show COs q cA sA yA a from Or.inr (Or.inr (Or.inl ha)))))
    obtain ⟨σ10, e5, m10, f10, y10⟩ := zloop_cnt (body := fun x => bX2_build_124 q la (nI fr) (nI M) v4 x.1 x.2) (fun i x => x.1 = nI i ∧ zsm (fun a => a = sA ∨ a = yA) σ7 x.2 ∧ (∀ l, 1 ≤ l → l ≤ 15 → zi x.2 sA l = nI (stS len M l + cntS len i l)) ∧ ∀ s, s < i → len s ≠ 0 → zi x.2 yA (posS len M s) = nI s) M (fun s => zsm (fun a => a = sA ∨ a = yA) σ7 s ∧ True ∧ ∀ z, z < M → len z ≠ 0 → zi s yA (posS len M z) = nI z)
      (fun i x hi hx => by
        obtain ⟨l5, s⟩ := x
        obtain ⟨x1, x2, x3, x4⟩ := hx
        dsimp only at x1 x2 x3 x4
        subst x1
        have m8 := m7.trans (x2.mono (fun a ha => (show COs q cA sA yA a from Or.inr (Or.inr ha))))
        have t1 : (nI i).toInt = (i : Int) := zt_nI (by omega)
        have t2 : nI fr + nI i = nI (fr + i) := nI_add fr i
        have t3 : (nI (fr + i)).toInt = ((fr + i : Nat) : Int) := zt_nI (by omega)
        obtain ⟨u1, u2⟩ := hlen i hi
        have t4 : (nI (len i)).toInt = (len i : Int) := zt_nI (by omega)
        have v1 : zi s la (fr + i) = nI (len i) := by rw [m8.i hla]; exact u2
        by_cases h0 : len i = 0
        · refine Or.inl ⟨(nI (i + 1), s), ?_, rfl, x2, fun l hl1 hl2 => ?_, fun z hz hz0 => ?_⟩
          · unfold bX2_build_124 fX2_build_168
            simp only [oLd, oL, m8.k, m8.n, hk, zle, t1, hfr, t2, t3, zt0', znat, Int.toNat_natCast, v1, h0, nI_0, ↓reduceIte]
            rw [if_neg (by omega), if_pos ⟨trivial, by omega, by omega⟩, nI_1]
          · rw [cntS, if_neg (by omega)]; exact x3 l hl1 hl2
          · have hzi : z ≠ i := fun e => hz0 (by rw [e]; exact h0)
            exact x4 z (by omega) hz0
        · obtain ⟨w1, w2⟩ := posS_lt (M := M) hi h0 u1
          have hps : stS len M (len i) + cntS len i (len i) = posS len M i := rfl
          have v2 : zi s sA (len i) = nI (posS len M i) := x3 _ (by omega) u1
          have t5 : (nI (posS len M i)).toInt = (posS len M i : Int) := zt_nI (by omega)
          have hn0 : ¬ nI (len i) = 0 := nI_ne0 (by omega) (by omega)
          have v3 : zi (zuI s yA (posS len M i) (nI i)) sA (len i) = nI (posS len M i) := by rw [zi_uI, if_neg (fun z => n3 z.1), v2]
          refine Or.inl ⟨(nI (i + 1), zuI (zuI s yA (posS len M i) (nI i)) sA (len i) (nI (posS len M i + 1))), ?_, rfl, (x2.uI (Or.inr rfl)).uI (Or.inl rfl), fun l hl1 hl2 => ?_, fun z hz hz0 => ?_⟩
          · unfold bX2_build_124 fX2_build_168
            simp only [oGR, oR, oLd, oSt, oL, m8.k, m8.n, m8.r, zk_uI, zn_uI, zr_uI, g1, g3, g4, g7, g8, g9, g10, hk, zle, t1, hfr, t2, t3, zt0', znat, Int.toNat_natCast, v1, t4, v2, t5, v3, hn0, ↓reduceIte]
            rw [if_neg (by omega), if_pos ⟨trivial, by omega, by omega⟩, if_pos ⟨trivial, by omega, by omega⟩, if_pos ⟨trivial, by omega, by omega⟩, if_pos ⟨trivial, by omega, by omega⟩, if_pos ⟨trivial, by omega, by omega⟩, nI_1, nI_1]
          · rw [zi_uI, cntS]
            by_cases e : l = len i
            · rw [if_pos ⟨rfl, e⟩, if_pos e.symm, e]
              rfl
            · rw [if_neg (fun z => e z.2), if_neg (fun z => e z.symm), zi_uI, if_neg (fun z => n3 z.1)]
              exact x3 l hl1 hl2
          · rw [zi_uI, if_neg (fun w => n3 w.1.symm), zi_uI]
            by_cases e : z = i
            · rw [e, if_pos ⟨rfl, rfl⟩]
            · rw [if_neg (fun w => posS_inj (len := len) (M := M) (s := z) (k := i) (by omega) hi hz0 h0 w.2)]
              exact x4 z (by omega) hz0)
      (fun x hx => by
        obtain ⟨l5, s⟩ := x
        obtain ⟨x1, x2, x3, x4⟩ := hx
        dsimp only at x1 x2 x3 x4
        subst x1
        refine ⟨s, ?_, x2, trivial, x4⟩
        unfold bX2_build_124
        simp only [zle, Int.le_refl, ↓reduceIte]) zF (0, σ7) ⟨nI_0.symm, zsm.rf, fun l h1 h2 => by rw [cntS]; exact p5 l h1 (by omega), fun s hs => absurd hs (Nat.not_lt_zero s)⟩ (by unfold zF; omega)
    have m11 := m7.trans (m10.mono (fun a ha => (show COs q cA sA yA a from Or.inr (Or.inr ha))))
    have hc11 : ∀ l, l < 16 → zi σ10 cA l = nI (cntS len M l) := fun l hl => by
      rw [m10.i (fun z => z.elim (fun z => n1 z) (fun z => n2 z)), p3.i n1]; exact c5 l hl
    have hu11 : zi σ10 q 3 = nI (M - cntS len M 0) := by
      rw [m10.i (fun z => z.elim (fun z => hne.2.1 z) (fun z => hne.2.2 z)), p3.i hne.2.1]; exact u5
    refine ⟨v4, σ10, ?_, m11, hc11, hu11, Or.inr ⟨p1, p2, hc11, hu11, y10⟩⟩
    simp only [oS, oB, e5]
end PBUILD
