/-! the reference's reader: a chunk, the run -/
theorem clC_iff {bf ty : Int32} : clC bf ty ↔ (kd bf = 1 ∨ kd bf = 2) ∧ kd ty ≠ kd bf := by
  obtain ⟨b1, b2, -⟩ := kdv bf
  obtain ⟨t1, t2, -⟩ := kdv ty
  refine ⟨fun z => ⟨z.2, fun y => z.1 ?_⟩, fun z => ⟨fun y => z.2 (by rw [y]), z.1⟩⟩
  rcases z.2 with x | x
  · rw [b1.mp x]
    exact t1.mp (y.trans x)
  · rw [b2.mp x]
    exact t2.mp (y.trans x)
section PMRUN
variable {σ s t : zS} {B : Nat → Nat} {tp : List Nat} {ab : Nat → Nat} {rg px : Nat → Nat → Nat} {fn : Nat → Prop}
theorem NT.u {q ser tl hd : Nat} {bf : Int32} {pk : List Nat} {op : Int32} {ov : Nat} (hT : NT σ B fn op ov (q, bf, ser, tl, hd, ab, rg, px, pk)) (h : zML σ B) {v : Int32} : NT (zuI σ (B 0) 3 v) B fn op ov (q, bf, ser, tl, hd, ab, rg, px, pk) := by
  obtain ⟨⟨f23, f25, f26, f27, f28, f30, f31⟩, hz0, hRM, hpk⟩ := hT
  have i : ∀ j, j ≠ 3 → zi (zuI σ (B 0) 3 v) (B 0) j = zi σ (B 0) j := fun j hj => by rw [zi_uI, if_neg (fun z => hj z.2)]
  have ja : ∀ j, j < 12 → j ≠ 0 → ∀ k, zi (zuI σ (B 0) 3 v) (B j) k = zi σ (B j) k := fun j hj hn k => by rw [zi_uI, if_neg (fun z => hn (h.1 j 0 hj (by decide) z.1))]
  exact ⟨⟨(i 23 (by decide)).trans f23, (i 25 (by decide)).trans f25, (i 26 (by decide)).trans f26, (i 27 (by decide)).trans f27, (i 28 (by decide)).trans f28, (i 30 (by decide)).trans f30, (i 31 (by decide)).trans f31⟩, fun z => ⟨(i 24 (by decide)).trans (hz0 z).1, (i 29 (by decide)).trans (hz0 z).2⟩, fun z => ⟨(hRM z).1.of (fun _ y => y) (ja 2 (by decide) (by decide)) (ja 3 (by decide) (by decide)) (ja 4 (by decide) (by decide)), (i 24 (by decide)).trans (hRM z).2.1, (i 29 (by decide)).trans (hRM z).2.2⟩, fun z => (hpk z).u h (by decide)⟩
theorem n_crc (h : NB σ B tp) {q m : Nat} {l1 l2 : Int32} (hm : q + 12 + m ≤ tp.length) : zloop zF (fun x => bX12_readAll_160 σ (B 0) l1 l2 (nI m) (nI (q + 4)) x.1 x.2) ((-1 : Int32), nI (q + 4)) = some (crX (fun k => tp.getD (q + 4 + k) 0) (4 + m)) := by
  have htl := h.2.2.1
  have a4 : nI (q + 4) + 4 + nI m = nI (q + 4 + (4 + m)) := by
    have : nI (q + 4) + 4 = nI (q + 4 + 4) := nI_add _ 4
    rw [this, nI_add, Nat.add_assoc]
  refine zloop_seq (fun i => (crX (fun k => tp.getD (q + 4 + k) 0) i, nI (q + 4 + i))) (4 + m) (fun i hi => ?_) ?_ zF (by unfold zF; omega)
  · have c1 : ¬ nI (q + 4 + (4 + m)) ≤ nI (q + 4 + i) := by rw [nI_leI (by omega) (by omega)]; omega
    show bX12_readAll_160 σ (B 0) l1 l2 (nI m) (nI (q + 4)) (crX (fun k => tp.getD (q + 4 + k) 0) i) (nI (q + 4 + i)) = _
    unfold bX12_readAll_160
    rw [a4, if_neg c1, oA_eq h.k.1, oB_eq (n_byte h (by omega)), oB_eq (m_nextSum _ _), oL_eq, nI_1]
    rfl
  · show bX12_readAll_160 σ (B 0) l1 l2 (nI m) (nI (q + 4)) (crX (fun k => tp.getD (q + 4 + k) 0) (4 + m)) (nI (q + 4 + (4 + m))) = _
    unfold bX12_readAll_160
    rw [a4, if_pos (by rw [zle]; exact Int.le_refl _)]
theorem n_chunk {q ser tl hd : Nat} {bf : Int32} {pk : List Nat} (h : NB σ B tp) (hT : NTc σ B (q, bf, ser, tl, hd, ab, rg, px, pk)) (hW : WFk tp (kd bf) q ser tl hd ab rg pk) :
    (∃ f p s, stepS tp (q, bf, ser, tl, hd, ab, rg, px, pk) = .inl (f, p) ∧ bX12_readAll_91 (B 0) (nI q) 1 σ = some (.inr (.inr (f, s))) ∧ ¬ f ≤ 0 ∧ NF B σ s ∧ zi s (B 0) 3 = nI p) ∨ ∃ R' s, stepS tp (q, bf, ser, tl, hd, ab, rg, px, pk) = .inr R' ∧ bX12_readAll_91 (B 0) (nI q) 1 σ = some (.inl (nI R'.1, (if kd R'.2.1 = 6 then 0 else 1), s)) ∧ NF B σ s ∧ NTc s B R' ∧ WFS tp R' := by
  have htl := h.2.2.1
  have wq := hW.1.1
  have hx1 := h.2.1
  have t12 : (12 : Int32).toInt = 12 := by decide
  have tL : (nI tp.length).toInt = (tp.length : Int) := zt_nI (by omega)
  have tq : (nI q).toInt = (q : Int) := zt_nI (by omega)
  have t1 : (nI tp.length - nI q).toInt = (tp.length : Int) - q := by rw [zt_sub (by rw [tL, tq]; omega) (by rw [tL, tq]; omega), tL, tq]
  have tv : (nI tp.length - nI q - 12).toInt = (tp.length : Int) - q - 12 := by rw [zt_sub (by rw [t1, t12]; omega) (by rw [t1, t12]; omega), t1, t12]
  have nfL : NF B σ (zuI σ (B 0) 3 (nI tp.length)) := NF.rf.u0 h.1 (Or.inr (Or.inl rfl))
  have e132 : fX12_readAll_132 σ (B 0) = some (.inr (.inr (2, zuI σ (B 0) 3 (nI tp.length)))) := by
    unfold fX12_readAll_132
    rw [oGI_eq h.k.1 hx1, oPI_eq h.k.1]
  have i132 : zi (zuI σ (B 0) 3 (nI tp.length)) (B 0) 3 = nI tp.length := by rw [zi_uI, if_pos ⟨rfl, rfl⟩]
  have a4 : nI q + 4 = nI (q + 4) := nI_add q 4
  have hbad : tooS tp q → bX12_readAll_91 (B 0) (nI q) 1 σ = fX12_readAll_132 σ (B 0) → (∃ f p s, stepS tp (q, bf, ser, tl, hd, ab, rg, px, pk) = .inl (f, p) ∧ bX12_readAll_91 (B 0) (nI q) 1 σ = some (.inr (.inr (f, s))) ∧ ¬ f ≤ 0 ∧ NF B σ s ∧ zi s (B 0) 3 = nI p) ∨ ∃ R' s, stepS tp (q, bf, ser, tl, hd, ab, rg, px, pk) = .inr R' ∧ bX12_readAll_91 (B 0) (nI q) 1 σ = some (.inl (nI R'.1, (if kd R'.2.1 = 6 then 0 else 1), s)) ∧ NF B σ s ∧ NTc s B R' ∧ WFS tp R' := fun ht e => by
    refine Or.inl ⟨2, tp.length, zuI σ (B 0) 3 (nI tp.length), ?_, by rw [e, e132], by decide, nfL, i132⟩
    unfold stepS
    dsimp only
    rw [if_pos ht]
  have e91 : bX12_readAll_91 (B 0) (nI q) 1 σ = if nI tp.length < nI (q + 4) then fX12_readAll_114 σ (B 0) (nI q) 1 (-1 : Int32) else oA (zk σ (B 0) = 12) (oB (fX12_number σ (B 0) (nI q)) (fun x25 => fX12_readAll_114 σ (B 0) (nI q) 1 x25)) := by
    unfold bX12_readAll_91
    rw [if_neg (by decide), oGI_eq h.k.1 hx1, a4]
  have q4 : nI tp.length < nI (q + 4) ↔ tp.length < q + 4 := nI_ltI (by omega) (by omega)
  have e114n : ∀ n : Int32, n < 0 → fX12_readAll_114 σ (B 0) (nI q) 1 n = fX12_readAll_132 σ (B 0) := fun n hn => by
    unfold fX12_readAll_114
    rw [if_pos hn]
  have e114b : ∀ n : Int32, ¬ n < 0 → ¬ n ≤ nI tp.length - nI q - 12 → fX12_readAll_114 σ (B 0) (nI q) 1 n = fX12_readAll_132 σ (B 0) := fun n hn hn2 => by
    unfold fX12_readAll_114
    rw [if_neg hn, oGI_eq h.k.1 hx1, if_neg hn2]
  by_cases d4 : tp.length < q + 4
  · exact hbad (Or.inl (by omega)) (by rw [e91, if_pos (q4.mpr d4), e114n _ (by decide)])
  rw [if_neg (fun z => d4 (q4.mp z)), oA_eq h.k.1, oB_eq (n_num h (i := q) (by omega))] at e91
  have htoo : tooS tp q ↔ (tp.length < q + 12 ∨ (nmS tp q).toInt < 0 ∨ (tp.length : Int) < (q : Int) + 12 + (nmS tp q).toInt) := Iff.rfl
  have hln : lnS tp q = (nmS tp q).toInt.toNat := rfl
  generalize nmS tp q = n at htoo hln e91
  by_cases d1 : n < 0
  · exact hbad (htoo.mpr (Or.inr (Or.inl (by rw [zlt, zt0'] at d1; exact d1)))) (by rw [e91, e114n n d1])
  by_cases d2 : n ≤ nI tp.length - nI q - 12
  rotate_left
  · refine hbad (htoo.mpr (Or.inr (Or.inr ?_))) (by rw [e91, e114b n d1 d2])
    rw [zle, tv] at d2
    omega
  unfold fX12_readAll_114 at e91
  rw [if_neg d1, oGI_eq h.k.1 hx1, if_pos d2] at e91
  rw [zlt, zt0'] at d1
  rw [zle, tv] at d2
  have hnt : ¬ tooS tp q := fun z => by
    have := htoo.mp z
    omega
  obtain ⟨m, hm⟩ : ∃ m : Nat, n.toInt = (m : Int) := ⟨n.toInt.toNat, by omega⟩
  have en : n = nI m := znI_of hm
  have hlm : lnS tp q = m := by rw [hln, hm]; rfl
  subst en
  clear htoo hln d1 hbad e114n e114b
  have hmq : q + 12 + m ≤ tp.length := by omega
  clear d2 hm
  have nf3 : NF B σ (zuI σ (B 0) 3 (nI (q + 4))) := NF.rf.u0 h.1 (Or.inr (Or.inl rfl))
  have h3 := h.of nf3
  have hT3 := NT.u (q := q) (v := nI (q + 4)) hT h.1
  have i3 : zi (zuI σ (B 0) 3 (nI (q + 4))) (B 0) 3 = nI (q + 4) := by rw [zi_uI, if_pos ⟨rfl, rfl⟩]
  rw [a4, oL_eq, oPI_eq h.k.1] at e91
  generalize zuI σ (B 0) 3 (nI (q + 4)) = s3 at e91 nf3 h3 hT3 i3
  have a8 : nI (q + 4) + 4 + nI m = nI (q + 8 + m) := by
    have : nI (q + 4) + 4 = nI (q + 4 + 4) := nI_add _ 4
    rw [this, nI_add]
  rw [oB_eq (n_crc h3 hmq)] at e91
  dsimp only at e91
  rw [oA_eq h3.k.1, a8, oB_eq (n_num h3 (i := q + 8 + m) (by omega))] at e91
  by_cases d3 : crX (fun k => tp.getD (q + 4 + k) 0) (4 + m) ^^^ (-1) = nmS tp (q + 8 + m)
  rotate_left
  · rw [if_neg (fun z => d3 z.symm)] at e91
    refine Or.inl ⟨3, q + 4, s3, ?_, e91, by decide, nf3, i3⟩
    unfold stepS
    dsimp only
    rw [if_neg hnt, hlm, if_neg d3]
  rw [if_pos d3.symm] at e91
  have hst := step_eq (R := (q, bf, ser, tl, hd, ab, rg, px, pk)) (tp := tp) hnt hlm d3
  dsimp only at hst
  have ht0 : letS tp (q + 4) → kd (nmS tp (q + 4)) ≠ 0 := kd_let h.by
  obtain ⟨⟨ty1, tn1⟩, ⟨ty2, tn2⟩, -⟩ := n_ty h3 (i := q + 4) (by omega)
  obtain ⟨ty, hty⟩ : ∃ ty, ty = nmS tp (q + 4) := ⟨_, rfl⟩
  rw [← hty] at hst ht0 ty1 tn1 ty2 tn2
  clear d3 hlm hnt
  obtain ⟨w1, w7, w8, w9, w10, w11, w12, w13, w14⟩ := id hW
  obtain ⟨⟨f23, f25, f26, f27, f28, f30, f31⟩, hz0, hRM, hpk⟩ := id hT3
  have hccl : clC bf ty ↔ (kd bf = 1 ∨ kd bf = 2) ∧ kd ty ≠ kd bf := clC_iff
  have b48 : kd bf ≠ 0 → ab 4 ≤ 8 := fun z => (w8 z).1.b.2.2.2.1
  classical
  have hdec : bX12_readAll_91 (B 0) (nI q) 1 σ = if clC bf ty then oPZ s3 12 (B 0) 28 1 (fun σ16 => oA (zk σ16 (B 0) = 12) (oC (fX12_finishPicture σ16 (B 0)) (fun x21 σ17 => (if x21 ≤ 0 then fX12_readAll_306 σ17 (B 0) (nI q) 1 (nI m) (nI (q + 4)) else some (.inr (.inr (x21, σ17))))))) else fX12_readAll_306 s3 (B 0) (nI q) 1 (nI m) (nI (q + 4)) := by
    rw [e91, oGI_eq h3.k.1 f30]
    unfold fX12_readAll_235 fX12_readAll_272 fX12_readAll_268 fX12_readAll_273
    simp only [oGI_eq h3.k.1 f30, oA_eq h3.k.1]
    have s01 : ¬ ((1 : Int32) = 0) := by decide
    by_cases k1 : kd bf = 1
    · have ho : opS (kd bf) ab = 8 := by unfold opS; rw [if_pos k1]
      have n80 : ¬ ((8 : Int32) < 0) := by decide
      have n88 : (8 : Int32) ≤ 8 := by decide
      by_cases kt : kd ty = 1
      · simp only [ho, n80, n88, s01, oB_eq (ty1 kt), eq_self, ↓reduceIte]
        rw [if_neg (fun z => (hccl.mp z).2 (by omega))]
      · simp only [ho, n80, n88, s01, oB_eq (tn1 kt), eq_self, ↓reduceIte]
        rw [if_pos (hccl.mpr ⟨Or.inl k1, by omega⟩)]
    · by_cases k2 : kd bf = 2
      · have hb := b48 (by omega)
        have h54 := (w12 k2).2
        have ho : opS (kd bf) ab = nI (ab 4 - 1) := by unfold opS; rw [if_neg k1, if_pos k2]
        have n8 : ¬ nI (ab 4 - 1) = 8 := fun y => by
          have := (nI_eq (a := ab 4 - 1) (b := 8) (by omega) (by decide)).mp y
          omega
        have n0 : ¬ nI (ab 4 - 1) < 0 := nI_pos (by omega)
        have n88 : ¬ (8 : Int32) ≤ nI (ab 4 - 1) := fun y => by
          have := (nI_leI (a := 8) (b := ab 4 - 1) (by decide) (by omega)).mp y
          omega
        by_cases kt : kd ty = 2
        · simp only [ho, n8, n0, n88, s01, oB_eq (ty2 kt), eq_self, ↓reduceIte]
          rw [if_neg (fun z => (hccl.mp z).2 (by omega))]
        · simp only [ho, n8, n0, n88, s01, oB_eq (tn2 kt), eq_self, ↓reduceIte]
          rw [if_pos (hccl.mpr ⟨Or.inr k2, by omega⟩)]
      · have ho : opS (kd bf) ab = -1 := by unfold opS; rw [if_neg k1, if_neg k2]
        have n8 : ¬ ((-1 : Int32) = 8) := by decide
        have n0 : (-1 : Int32) < 0 := by decide
        simp only [ho, n8, n0, s01, eq_self, ↓reduceIte]
        rw [if_neg (fun z => (hccl.mp z).1.elim k1 k2)]
  clear e91
  by_cases hc : clC bf ty
  · rw [if_pos hc] at hdec
    obtain ⟨hk12, hktb⟩ := hccl.mp hc
    have k0 : kd bf ≠ 0 := by omega
    obtain ⟨v1, v2, v3, v4⟩ := w8 k0
    obtain ⟨hR3, f24, f29⟩ := hRM k0
    have hd1 : hd = 1 := by
      rcases hk12 with z | z
      · exact (w11 z).1
      · exact (w12 z).1
    have nf4 : NF B s3 (zuI s3 (B 0) 28 1) := NF.rf.u0 h3.1 (Or.inr (Or.inr (by decide)))
    have h4 := h3.of nf4
    have i4 : ∀ j, j ≠ 28 → zi (zuI s3 (B 0) 28 1) (B 0) j = zi s3 (B 0) j := fun j hj => by rw [zi_uI, if_neg (fun z => hj z.2)]
    have i428 : zi (zuI s3 (B 0) 28 1) (B 0) 28 = 1 := by rw [zi_uI, if_pos ⟨rfl, rfl⟩]
    have ja : ∀ j, j < 12 → j ≠ 0 → ∀ k, zi (zuI s3 (B 0) 28 1) (B j) k = zi s3 (B j) k := fun j hj hn k => by rw [zi_uI, if_neg (fun z => hn (h.1.1 j 0 hj (by decide) z.1))]
    have hp4 : PKm (zuI s3 (B 0) 28 1) B pk := (hpk hk12).u h3.1 (by decide)
    rw [oPZ_eq h3.k.1 (Or.inr rfl)] at hdec
    generalize zuI s3 (B 0) 28 1 = s4 at hdec nf4 h4 i4 i428 ja hp4
    have hR4 : RMw s4 B ab rg px (Fn (kd bf) hd ab) := hR3.of (fun _ y => y) (ja 2 (by decide) (by decide)) (ja 3 (by decide) (by decide)) (ja 4 (by decide) (by decide))
    obtain ⟨r, s5, e5, nf5, i5, i530, i58, hr⟩ := n_finish h4 hk12 ((i4 30 (by decide)).trans f30) hp4 hR4 v1 v2 (fun z => (w11 z).2) (fun z => (w12 z).2)
    rw [oA_eq h4.k.1, oC_eq e5] at hdec
    have nfA := (nf3.trans nf4).trans nf5
    have i53 : zi s5 (B 0) 3 = nI (q + 4) := (i5 3 (Or.inl (by decide))).trans ((i4 3 (by decide)).trans i3)
    have hcls : clsS ty (q, bf, ser, tl, hd, ab, rg, px, pk) = (match unpackS pk with
          | none => .inl 5
          | some o => match rowsS (clW (kd bf) ab rg) (clH (kd bf) ab rg) o with
            | none => .inl 6
            | some g => .inr (q, bf, ser, tl, hd, ab, rg, pxN px (gsR (kd bf) ab) (pxS (clW (kd bf) ab rg) g), pk)) := by
      unfold clsS
      dsimp only
      rw [if_pos hc]
      rfl
    rcases hr with ⟨u1, r5⟩ | ⟨o, u1, u2, r6⟩ | ⟨o, g, u1, u2, r0, hR5⟩
    · subst r5
      rw [u1] at hcls
      dsimp only at hcls
      rw [hcls] at hst
      exact Or.inl ⟨5, q + 4, s5, hst, by rw [hdec, if_neg (by decide)], by decide, nfA, i53⟩
    · subst r6
      rw [u1] at hcls
      dsimp only at hcls
      rw [u2] at hcls
      dsimp only at hcls
      rw [hcls] at hst
      exact Or.inl ⟨6, q + 4, s5, hst, by rw [hdec, if_neg (by decide)], by decide, nfA, i53⟩
    subst r0
    rw [u1] at hcls
    dsimp only at hcls
    rw [u2] at hcls
    dsimp only at hcls
    rw [hcls] at hst
    dsimp only at hst
    rw [if_pos (by decide)] at hdec
    have h5 := h4.of nf5
    have j5 : ∀ j, 20 ≤ j → j ≠ 28 → j ≠ 30 → zi s5 (B 0) j = zi s3 (B 0) j := fun j y1 y2 y3 => (i5 j (Or.inr ⟨y1, y3⟩)).trans (i4 j y2)
    have hT5 : NT s5 B (fun f => Fn (kd bf) hd ab f ∨ f = gsR (kd bf) ab) (-1) 1 (q, bf, ser, tl, hd, ab, rg, pxN px (gsR (kd bf) ab) (pxS (clW (kd bf) ab rg) g), pk) := ⟨⟨(j5 23 (by decide) (by decide) (by decide)).trans f23, (j5 25 (by decide) (by decide) (by decide)).trans f25, (j5 26 (by decide) (by decide) (by decide)).trans f26, (j5 27 (by decide) (by decide) (by decide)).trans f27, (i5 28 (Or.inr ⟨by decide, by decide⟩)).trans i428, i530, (j5 31 (by decide) (by decide) (by decide)).trans f31⟩, fun z => absurd z k0, fun _ => ⟨hR5, (j5 24 (by decide) (by decide) (by decide)).trans f24, (j5 29 (by decide) (by decide) (by decide)).trans f29⟩, fun _ => ⟨(i5 14 (Or.inl (by decide))).trans hp4.1, hp4.2.1, fun j hj => ⟨(i58 j).trans (hp4.2.2 j hj).1, (hp4.2.2 j hj).2⟩⟩⟩
    rcases n_306 (m := m) h5 hty hT5 hW hmq (by rw [if_neg (fun z => hktb z.symm)]) (by rw [if_pos ⟨hd1, fun z => hktb (by omega)⟩]) (fun f z => z.elim Or.inl (fun z => Or.inr z.2)) with ⟨y1, y2⟩ | ⟨R', s6, y1, y2, y3, y4, y5⟩
    · have y1' : takS tp ty m (q, bf, ser, tl, hd, ab, rg, pxN px (gsR (kd bf) ab) (pxS (clW (kd bf) ab rg) g), pk) = none := y1
      rw [y1'] at hst
      exact Or.inl ⟨4, q + 4, s5, hst, by rw [hdec, y2], by decide, nfA, i53⟩
    · have y1' : takS tp ty m (q, bf, ser, tl, hd, ab, rg, pxN px (gsR (kd bf) ab) (pxS (clW (kd bf) ab rg) g), pk) = some R' := y1
      rw [y1'] at hst
      obtain ⟨ser', tl', hd', ab', rg', pk', eR, hw', -⟩ := wfk_take (R' := R') (ty := ty) (cx := clC bf ty) hW hmq ht0 (fun z n1 n2 => ⟨fun y => by rw [y] at n1 n2; omega, z⟩) y1
      subst eR
      exact Or.inr ⟨_, s6, hst, by rw [hdec, y2], nfA.trans y3, y5, hw'⟩
  · rw [if_neg hc] at hdec
    have hcls : clsS ty (q, bf, ser, tl, hd, ab, rg, px, pk) = .inr (q, bf, ser, tl, hd, ab, rg, px, pk) := by
      unfold clsS
      dsimp only
      rw [if_neg hc]
    rw [hcls] at hst
    dsimp only at hst
    have hop : opS (kd bf) ab = if kd bf = kd ty then opS (kd bf) ab else -1 := by
      by_cases z : kd bf = kd ty
      · rw [if_pos z]
      · rw [if_neg z]
        unfold opS
        rw [if_neg (fun y => hc (hccl.mpr ⟨Or.inl y, fun x => z x.symm⟩)), if_neg (fun y => hc (hccl.mpr ⟨Or.inr y, fun x => z x.symm⟩))]
    have hov : ovS hd (kd bf) = if hd = 1 ∧ ¬ (kd bf = 1 ∧ kd ty = 1) then 1 else 0 := by
      unfold ovS
      by_cases y1 : hd = 1
      · by_cases y2 : kd bf = 1
        · have y3 : kd ty = 1 := by
            by_cases z : kd ty = 1
            · exact z
            · exact absurd (hccl.mpr ⟨Or.inl y2, by omega⟩) hc
          rw [if_neg (fun z => z.2 y2), if_neg (fun z => z.2 ⟨y2, y3⟩)]
        · rw [if_pos ⟨y1, y2⟩, if_pos ⟨y1, fun z => y2 z.1⟩]
      · rw [if_neg (fun z => y1 z.1), if_neg (fun z => y1 z.1)]
    rcases n_306 (m := m) h3 hty hT3 hW hmq hop hov (fun f z => z.elim id (fun z => absurd z.1 hc)) with ⟨y1, y2⟩ | ⟨R', s6, y1, y2, y3, y4, y5⟩
    · have y1' : takS tp ty m (q, bf, ser, tl, hd, ab, rg, px, pk) = none := y1
      rw [y1'] at hst
      exact Or.inl ⟨4, q + 4, s3, hst, by rw [hdec, y2], by decide, nf3, i3⟩
    · have y1' : takS tp ty m (q, bf, ser, tl, hd, ab, rg, px, pk) = some R' := y1
      rw [y1'] at hst
      obtain ⟨ser', tl', hd', ab', rg', pk', eR, hw', -⟩ := wfk_take (R' := R') (ty := ty) (cx := clC bf ty) hW hmq ht0 (fun z n1 n2 => ⟨fun y => by rw [y] at n1 n2; omega, z⟩) y1
      subst eR
      exact Or.inr ⟨_, s6, hst, by rw [hdec, y2], nf3.trans y3, y5, hw'⟩
end PMRUN
