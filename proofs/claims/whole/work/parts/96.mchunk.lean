/-! the reference's reader: the end of a picture, a whole chunk -/
theorem RMw_B {s : zS} {B : Nat → Nat} {rg px : Nat → Nat → Nat} {fn : Nat → Prop} {W H : Nat} {x y : Int32} (g6 : zi s (B 2) 6 = 1) (g7 : zi s (B 2) 7 = x) (g8 : zi s (B 2) 8 = y) (g9 : zi s (B 2) 9 = 0) (g10 : zi s (B 2) 10 = 0) (n1 : x = nI W) (n2 : y = nI H) (hf : ∀ f, ¬ fn f) : RMw s B (abB W H 0) rg px fn := by
  refine ⟨fun k hk => ?_, fun f hf => absurd hf (Nat.not_lt_zero f), fun f z => absurd z (hf f)⟩
  rcases (show k = 0 ∨ k = 1 ∨ k = 2 ∨ k = 3 ∨ k = 4 by omega) with z | z | z | z | z <;> subst z
  · exact g6
  · exact g7.trans n1
  · exact g8.trans n2
  · exact g9
  · exact g10
section PMCHUNK
variable {σ s t : zS} {B : Nat → Nat} {tp : List Nat} {ab : Nat → Nat} {rg px : Nat → Nat → Nat} {fn : Nat → Prop}
theorem n_306 {ty : Int32} {m q ser tl hd : Nat} {bf : Int32} {pk : List Nat} {op : Int32} {ov : Nat} (h : NB σ B tp) (hty : ty = nmS tp (q + 4)) (hT : NT σ B fn op ov (q, bf, ser, tl, hd, ab, rg, px, pk)) (hW : WFk tp (kd bf) q ser tl hd ab rg pk) (hm : q + 12 + m ≤ tp.length) (hop : op = if kd bf = kd ty then opS (kd bf) ab else -1) (hov : ov = if hd = 1 ∧ ¬ (kd bf = 1 ∧ kd ty = 1) then 1 else 0) (hfn : ∀ f, (Fn (kd bf) hd ab f ∨ (clC bf ty ∧ f = gsR (kd bf) ab)) → fn f) :
    (takK tp (kd bf) (kd ty) ty m q ser tl hd ab rg px pk = none ∧ fX12_readAll_306 σ (B 0) (nI q) 1 (nI m) (nI (q + 4)) = some (.inr (.inr (4, σ)))) ∨ ∃ R' s, takK tp (kd bf) (kd ty) ty m q ser tl hd ab rg px pk = some R' ∧ fX12_readAll_306 σ (B 0) (nI q) 1 (nI m) (nI (q + 4)) = some (.inl (nI (q + 12 + m), (if kd ty = 6 then 0 else 1), s)) ∧ NF B σ s ∧ zi s (B 0) 3 = zi σ (B 0) 3 ∧ NTc s B R' := by
  have htl := h.2.2.1
  obtain ⟨⟨w1, w2, w3, w4, w5, w6⟩, w7, w8, w9, w10, w11, w12, w13, w14⟩ := id hW
  have hm32 : m < 2147483648 := by omega
  have a8 : nI (q + 4) + 4 = nI (q + 8) := nI_add (q + 4) 4
  have aq : nI q + 12 + nI m = nI (q + 12 + m) := by
    have : nI q + 12 = nI (q + 12) := nI_add q 12
    rw [this, nI_add]
  have q8 : nI q = 8 ↔ q = 8 := nI_eq (b := 8) (by omega) (by decide)
  obtain ⟨-, -, -, ⟨ty4, tn4⟩, -, ⟨ty6, tn6⟩⟩ := n_ty h (i := q + 4) (by omega)
  rw [← hty] at ty4 tn4 ty6 tn6
  have e421 : ∀ (s : zS) (l2 : Int32), fX12_readAll_421 s (B 0) (nI q) l2 (nI m) = some (.inl (nI (q + 12 + m), l2, s)) := fun s l2 => by
    unfold fX12_readAll_421
    rw [oL_eq, aq]
  have e0 : ∀ x13 x14, fX12_isType σ (B 0) (nI (q + 4)) 73 72 68 82 = some x13 → fX12_isType σ (B 0) (nI (q + 4)) 73 69 78 68 = some x14 → fX12_readAll_306 σ (B 0) (nI q) 1 (nI m) (nI (q + 4)) = (if nI q = (8 : Int32) then (if x13 = 0 then some (.inr (.inr (4, σ))) else oA (zk σ (B 0) = 12) (oC (fX12_takeHead σ (B 0) (nI (q + 8)) (nI m)) (fun x20 σ15 => (if x20 = 0 then some (.inr (.inr (4, σ15))) else some (.inl (nI (q + 12 + m), 1, σ15)))))) else (if x14 = 0 then (if x13 = 0 then oA (zk σ (B 0) = 12) (oC (fX12_takeChunk σ (B 0) (nI (q + 4)) (nI m)) (fun x15 σ14 => (if x15 = 0 then some (.inr (.inr (4, σ14))) else some (.inl (nI (q + 12 + m), 1, σ14))))) else some (.inr (.inr (4, σ)))) else (if nI m = 0 then oGI σ 12 (B 0) 27 (fun x16 => (if x16 = 0 then some (.inr (.inr (4, σ))) else oGI σ 12 (B 0) 31 (fun x17 => (if x17 = 0 then oGI σ 12 (B 0) 24 (fun x18 => oGI σ 12 (B 0) 25 (fun x19 => (if x18 = x19 then some (.inl (nI (q + 12 + m), 0, σ)) else some (.inr (.inr (4, σ)))))) else some (.inr (.inr (4, σ))))))) else some (.inr (.inr (4, σ)))))) := fun x13 x14 e1 e2 => by
    unfold fX12_readAll_306
    simp only [e421]
    rw [oA_eq h.k.1, oB_eq e1, oA_eq h.k.1, oB_eq e2, a8]
  obtain ⟨⟨f23, f25, f26, f27, f28, f30, f31⟩, hz0, hRM, hpk⟩ := id hT
  have q27 : nI hd = 0 ↔ hd = 0 := nI_eq (b := 0) (by omega) (by decide)
  by_cases k0 : kd bf = 0
  · have hq8 := w6.mp k0
    obtain ⟨u1, u2, u3⟩ := w7 k0
    obtain ⟨f24, f29⟩ := hz0 k0
    by_cases t4 : kd ty = 4
    rotate_left
    · refine Or.inl ⟨by unfold takK; rw [if_pos k0, if_neg (fun z => t4 z.1)], ?_⟩
      by_cases t6 : kd ty = 6
      · rw [e0 0 1 (tn4 t4) (ty6 t6), if_pos (q8.mpr hq8), if_pos rfl]
      · rw [e0 0 0 (tn4 t4) (tn6 t6), if_pos (q8.mpr hq8), if_pos rfl]
    have e1 := e0 1 0 (ty4 t4) (tn6 (by omega))
    rw [if_pos (q8.mpr hq8), if_neg (by decide), oA_eq h.k.1] at e1
    obtain ⟨hy, hn⟩ := n_head h (f := q + 8) (m := m) hm32 (fun z => by omega)
    by_cases c : m = 13 ∧ okH tp (q + 8)
    rotate_left
    · refine Or.inl ⟨by unfold takK; rw [if_pos k0, if_neg (fun z => c z.2)], ?_⟩
      rw [e1, oC_eq (hn c), if_pos rfl]
    obtain ⟨s, es, nf, i0, g6, g7, g8, g9, g10⟩ := hy c
    have et : takK tp (kd bf) (kd ty) ty m q ser tl hd ab rg px pk = some (q + 12 + m, ty, ser, tl, hd, abB (nmS tp (q + 8)).toInt.toNat (nmS tp (q + 8 + 4)).toInt.toNat 0, rg, px, pk) := by
      unfold takK
      rw [if_pos k0, if_pos ⟨t4, c⟩]
    obtain ⟨n1, n2⟩ := okH_n c.2
    clear c
    rw [oC_eq es, if_neg (by decide)] at e1
    refine Or.inr ⟨_, s, et, by rw [e1, if_neg (by omega)], nf, i0 3, ⟨(i0 23).trans f23, (i0 25).trans f25, (i0 26).trans f26, (i0 27).trans f27, (i0 28).trans (f28.trans ?_), (i0 30).trans (f30.trans ?_), (i0 31).trans (f31.trans ?_)⟩, fun z => by omega, fun _ => ⟨RMw_B g6 g7 g8 g9 g10 n1 n2 (fun f hf => ?_), (i0 24).trans f24, (i0 29).trans f29⟩, fun z => by omega⟩
    · rw [hov]
      unfold ovS
      rw [if_neg (fun z => by omega), if_neg (fun z => by omega)]
    · rw [hop, if_neg (by omega)]
      unfold opS
      rw [if_neg (by omega), if_neg (by omega)]
    · rw [if_neg (by omega), if_neg (by omega)]
    · rcases hf with ⟨z, -⟩ | ⟨-, -, z, -⟩
      · exact absurd z (Nat.not_lt_zero f)
      · omega
  have nq8 : ¬ nI q = 8 := fun z => k0 (w6.mpr (q8.mp z))
  obtain ⟨hR, f24, f29⟩ := hRM k0
  obtain ⟨v1, v2, v3, v4⟩ := w8 k0
  obtain ⟨b0, b1, b2, b4, b5, -⟩ := v1.b
  by_cases t6 : kd ty = 6
  · have e1 := e0 0 1 (tn4 (by omega)) (ty6 t6)
    rw [if_neg nq8, if_neg (by decide)] at e1
    have q0 : nI m = 0 ↔ m = 0 := nI_eq (b := 0) hm32 (by decide)
    have q4 : nI (ab 4) = nI tl ↔ ab 4 = tl := nI_eq (by omega) (by omega)
    have q31 : nI (if kd bf = 3 then 1 else 0) = 0 ↔ ¬ kd bf = 3 := by
      by_cases c : kd bf = 3
      · rw [if_pos c]; exact ⟨fun z => absurd z (by decide), fun z => absurd c z⟩
      · rw [if_neg c]; exact ⟨fun _ => c, fun _ => rfl⟩
    rw [oGI_eq h.k.1 f27, oGI_eq h.k.1 f31, oGI_eq h.k.1 f24, oGI_eq h.k.1 f25] at e1
    have hno6 : ¬ (m = 0 ∧ hd = 1 ∧ kd bf ≠ 3 ∧ ab 4 = tl) → takK tp (kd bf) (kd ty) ty m q ser tl hd ab rg px pk = none := fun c => by
      unfold takK
      rw [if_neg k0, if_neg (by omega), if_pos t6, if_neg c]
    by_cases c1 : m = 0
    rotate_left
    · exact Or.inl ⟨hno6 (fun z => c1 z.1), by rw [e1, if_neg (fun z => c1 (q0.mp z))]⟩
    rw [if_pos (q0.mpr c1)] at e1
    by_cases c2 : hd = 0
    · exact Or.inl ⟨hno6 (fun z => by omega), by rw [e1, if_pos (q27.mpr c2)]⟩
    rw [if_neg (fun z => c2 (q27.mp z))] at e1
    by_cases c3 : kd bf = 3
    · exact Or.inl ⟨hno6 (fun z => z.2.2.1 c3), by rw [e1, if_neg (fun z => (q31.mp z) c3)]⟩
    rw [if_pos (q31.mpr c3)] at e1
    by_cases c4 : ab 4 = tl
    rotate_left
    · exact Or.inl ⟨hno6 (fun z => c4 z.2.2.2), by rw [e1, if_neg (fun z => c4 (q4.mp z))]⟩
    rw [if_pos (q4.mpr c4)] at e1
    have et : takK tp (kd bf) (kd ty) ty m q ser tl hd ab rg px pk = some (q + 12 + m, ty, ser, tl, hd, ab, rg, px, pk) := by
      unfold takK
      rw [if_neg k0, if_neg (by omega), if_pos t6, if_pos ⟨c1, by omega, c3, c4⟩]
    refine Or.inr ⟨_, σ, et, by rw [e1, if_pos t6], NF.rf, rfl, ⟨f23, f25, f26, f27, f28.trans ?_, f30.trans ?_, f31.trans ?_⟩, fun z => by omega, fun _ => ⟨hR.of (fun f hf => hfn f ?_) (fun _ => rfl) (fun _ => rfl) (fun _ => rfl), f24, f29⟩, fun z => by omega⟩
    · rw [hov]
      unfold ovS
      rw [if_pos ⟨by omega, fun z => by omega⟩, if_pos ⟨by omega, by omega⟩]
    · rw [hop]
      by_cases z : kd bf = kd ty
      · rw [if_pos z]
        unfold opS
        rw [if_neg (by omega), if_neg (by omega), if_neg (by omega), if_neg (by omega)]
      · rw [if_neg z]
        unfold opS
        rw [if_neg (by omega), if_neg (by omega)]
    · rw [if_neg c3, if_neg (by omega)]
    · obtain ⟨s', t', h', a', r', p', ew, -, hw2⟩ := wfk_take (ty := ty) (px := px) (cx := clC bf ty) hW hm (fun _ => by omega) (fun z n1 n2 => ⟨fun y => by rw [y] at n1 n2; omega, z⟩) et
      simp only [Prod.mk.injEq] at ew
      obtain ⟨-, -, -, -, eh, ea, -⟩ := ew
      subst eh
      subst ea
      exact (hw2 f hf).2
  by_cases t4 : kd ty = 4
  · refine Or.inl ⟨by unfold takK; rw [if_neg k0, if_neg (by omega), if_neg t6, if_pos t4], ?_⟩
    rw [e0 1 0 (ty4 t4) (tn6 t6), if_neg nq8, if_pos rfl, if_neg (by decide)]
  have e1 := e0 0 0 (tn4 t4) (tn6 t6)
  rw [if_neg nq8, if_pos rfl, if_pos rfl, oA_eq h.k.1] at e1
  rcases n_take h hty hT hW hm hop hov hfn k0 t6 t4 with ⟨y1, y2⟩ | ⟨R', s, y1, y2, y3, y4, y5⟩
  · exact Or.inl ⟨y1, by rw [e1, oC_eq y2, if_pos rfl]⟩
  · exact Or.inr ⟨R', s, y1, by rw [e1, oC_eq y2, if_neg (by decide), if_neg t6], y3, y4, y5⟩
theorem pdN_le {f : Nat} (hw : WFr ab rg) (hf : f < ab 4 ∨ f = 8) : pdN ab rg f ≤ 256 := by
  obtain ⟨b0, b1, b2, b4, b5, -⟩ := hw.b
  unfold pdN
  by_cases e : f = 8
  · rw [if_pos e]
    have : ab 1 * ab 2 ≤ 16 * 16 := Nat.mul_le_mul b1 b2
    omega
  · rw [if_neg e]
    exact ((hw.rgn (f := f) (by omega)).b b1 b2).2.2.2.2.2.2
theorem n_finish {kb hd : Nat} {pk : List Nat} (h : NB σ B tp) (hk : kb = 1 ∨ kb = 2) (h30 : zi σ (B 0) 30 = opS kb ab) (hp : PKm σ B pk) (hR : RMw σ B ab rg px (Fn kb hd ab)) (hw : WFr ab rg) (h0 : ab 0 = 1) (h1 : kb = 1 → ab 4 = ab 5) (h2 : kb = 2 → ab 5 < ab 4) :
    ∃ r s, fX12_finishPicture σ (B 0) = some (r, s) ∧ NF B σ s ∧ (∀ j, j < 16 ∨ (20 ≤ j ∧ j ≠ 30) → zi s (B 0) j = zi σ (B 0) j) ∧ zi s (B 0) 30 = -1 ∧ (∀ k, zi s (B 8) k = zi σ (B 8) k) ∧ ((unpackS pk = none ∧ r = 5) ∨ (∃ o, unpackS pk = some o ∧ rowsS (clW kb ab rg) (clH kb ab rg) o = none ∧ r = 6) ∨ ∃ o g, unpackS pk = some o ∧ rowsS (clW kb ab rg) (clH kb ab rg) o = some g ∧ r = 0 ∧ RMw s B ab rg (pxN px (gsR kb ab) (pxS (clW kb ab rg) g)) (fun f => Fn kb hd ab f ∨ f = gsR kb ab)) := by
  obtain ⟨d1, d2, d3, d4, d5⟩ := cl_dim hw h0 h1 h2 hk
  obtain ⟨b0, b1, b2, b4, b5, -⟩ := hw.b
  have nf1 : NF B σ (zuI σ (B 0) 30 (-1)) := NF.rf.u0 h.1 (Or.inr (Or.inr (by decide)))
  have g1 := h.of nf1
  have hp1 : PKm (zuI σ (B 0) 30 (-1)) B pk := hp.u h.1 (by decide)
  have i1 : ∀ j, j ≠ 30 → zi (zuI σ (B 0) 30 (-1)) (B 0) j = zi σ (B 0) j := fun j hj => by rw [zi_uI, if_neg (fun z => hj z.2)]
  have i30 : zi (zuI σ (B 0) 30 (-1)) (B 0) 30 = -1 := by rw [zi_uI, if_pos ⟨rfl, rfl⟩]
  have ja : ∀ j, j < 12 → j ≠ 0 → ∀ k, zi (zuI σ (B 0) 30 (-1)) (B j) k = zi σ (B j) k := fun j hj hn k => by rw [zi_uI, if_neg (fun z => hn (h.1.1 j 0 hj (by decide) z.1))]
  unfold fX12_finishPicture
  rw [oGI_eq h.k.1 h30, oPI_eq h.k.1]
  generalize zuI σ (B 0) 30 (-1) = s1 at nf1 g1 hp1 i1 i30 ja
  obtain ⟨r, s2, e2, zf2, hr⟩ := m_unpack (pk := pk) (σ := s1) (B := B) ⟨g1.1, hp1⟩
  have nf2 : NF B s1 s2 := by
    refine ⟨⟨zf2.1.mono (fun a z => ?_), fun j hj => zf2.2 j (fun z => hj (Or.inr (Or.inr (by omega)))) (fun z => hj (Or.inr (Or.inr (by omega)))) (fun z => hj (Or.inr (Or.inr (by omega)))) (fun z => hj (Or.inr (Or.inr (by omega))))⟩, fun k hk => ?_, fun k hk => ?_, fun k hk => ?_⟩
    · rcases z with z | z | z | z
      · exact ⟨0, by decide, Or.inl rfl, z⟩
      · exact ⟨9, by decide, Or.inr (Or.inr (Or.inr (Or.inr (by decide)))), z⟩
      · exact ⟨10, by decide, Or.inr (Or.inr (Or.inr (Or.inr (by decide)))), z⟩
      · exact ⟨11, by decide, Or.inr (Or.inr (Or.inr (Or.inr (by decide)))), z⟩
    all_goals exact zf2.1.i (fun z => by
      rcases z with z | z | z | z <;> (have := h.1.1 _ _ (by decide) (by decide) z; omega)) k
  have j2 : ∀ j, j = 2 ∨ j = 3 ∨ j = 4 ∨ j = 8 → ∀ k, zi s2 (B j) k = zi s1 (B j) k := fun j hj k => zf2.1.i (fun z => by
    rcases hj with y | y | y | y <;> subst y <;> (rcases z with z | z | z | z <;> (have := h.1.1 _ _ (by decide) (by decide) z; omega))) k
  have g2 := g1.of nf2
  have i2 : ∀ j, j < 16 ∨ (20 ≤ j ∧ j ≠ 30) → zi s2 (B 0) j = zi σ (B 0) j := fun j hj => (zf2.2 j (by omega) (by omega) (by omega) (by omega)).trans (i1 j (by omega))
  have i230 : zi s2 (B 0) 30 = -1 := (zf2.2 30 (by decide) (by decide) (by decide) (by decide)).trans i30
  rw [oA_eq g1.k.1, oC_eq e2]
  rcases hr with ⟨u1, r0⟩ | ⟨o, p, u1, r1, hQ⟩
  · subst r0
    exact ⟨5, s2, by rw [if_pos rfl], nf1.trans nf2, i2, i230, fun k => (j2 8 (Or.inr (Or.inr (Or.inr rfl))) k).trans (ja 8 (by decide) (by decide) k), Or.inl ⟨u1, rfl⟩⟩
  subst r1
  rw [if_neg (by decide)]
  have hr2 : ∀ k, k < 5 → zi s2 (B 2) (6 + k) = nI (ab k) := fun k hk => (j2 2 (Or.inl rfl) _).trans ((ja 2 (by decide) (by decide) _).trans (hR.1 k hk))
  have hsl : 2304 + 256 * slt ab (gsR kb ab) = 256 * (9 + (if kb = 1 then 8 else ab 4 - 1)) := by
    unfold slt gsR dfP
    rcases hk with z | z
    · rw [if_pos z, if_pos z]
      by_cases y : ab 5 = 1
      · rw [if_pos y, if_pos ⟨rfl, y⟩]
      · rw [if_neg y, if_neg (fun x => y x.2)]
    · have := h2 z
      have hz1 : ¬ kb = 1 := by omega
      simp only [if_neg hz1]
      rw [if_neg (show ¬ (ab 4 - 1 = 0 ∧ ab 5 = 1) by omega)]
      omega
  have hto : 256 * (9 + (if kb = 1 then 8 else ab 4 - 1)) + 256 ≤ 4608 := by
    split <;> omega
  have e256 : (256 : Int32) * ((9 : Int32) + nI (if kb = 1 then 8 else ab 4 - 1)) = nI (256 * (9 + (if kb = 1 then 8 else ab 4 - 1))) := by
    have a9 : (9 : Int32) + nI (if kb = 1 then 8 else ab 4 - 1) = nI (9 + (if kb = 1 then 8 else ab 4 - 1)) := nI_add 9 _
    have m256 : (256 : Int32) * nI (9 + (if kb = 1 then 8 else ab 4 - 1)) = nI (256 * (9 + (if kb = 1 then 8 else ab 4 - 1))) := pk_mul 256 _
    rw [a9, m256]
  obtain ⟨r3, s3, e3, m3, hr3⟩ := m_unfilter (o := o) (w := clW kb ab rg) (h := clH kb ab rg) (to := 256 * (9 + (if kb = 1 then 8 else ab 4 - 1))) g2.1.mb hQ.2.2.2.1 hQ.2.2.2.2.1 hQ.2.2.2.2.2 d2.1 d2.2 d3.1 d3.2 hto
  have e66 : fX12_finishPicture_66 s2 (B 0) (nI (if kb = 1 then 8 else ab 4 - 1)) (nI (clW kb ab rg)) (nI (clH kb ab rg)) = if r3 = 0 then some (6, s3) else some (0, s3) := by
    unfold fX12_finishPicture_66
    rw [oA_eq g2.k.1, e256, oC_eq e3]
  have emain : (if opS kb ab = (8 : Int32) then oGR s2 12 (B 0) 4 (fun a2 => oLd s2 21 a2 7 (fun x7 => fX12_finishPicture_42 s2 (B 0) (opS kb ab) x7)) else oA (zk s2 (B 0) = 12) (oB (fX12_region s2 (B 0) 1 (opS kb ab) 0) (fun x3 => fX12_finishPicture_42 s2 (B 0) (opS kb ab) x3))) = if r3 = 0 then some (6, s3) else some (0, s3) := by
    rw [← e66]
    unfold fX12_finishPicture_42 opS clW clH
    rcases hk with z | z
    · have g7 : zi s2 (B 2) 7 = nI (ab 1) := hr2 1 (by decide)
      have g8 : zi s2 (B 2) 8 = nI (ab 2) := hr2 2 (by decide)
      rw [if_pos z, if_pos z, if_pos z, if_pos z, if_pos rfl, zAB g2.1 (k := 7) (kk := 7) (by decide) rfl g7, if_pos rfl, zAB g2.1 (k := 8) (kk := 8) (by decide) rfl g8]
      rfl
    · have hz1 : ¬ kb = 1 := by omega
      have h2' := h2 z
      have n8 : ¬ nI (ab 4 - 1) = 8 := fun y => by
        have := (nI_eq (a := ab 4 - 1) (b := 8) (by omega) (by decide)).mp y
        omega
      have rr : ∀ k, k < 6 → zi s2 (B 3) (48 + 6 * (ab 4 - 1) + k) = nI (rg (ab 4 - 1) k) := fun k hk => (j2 3 (Or.inr (Or.inl rfl)) _).trans ((ja 3 (by decide) (by decide) _).trans (hR.2.1 (ab 4 - 1) (by omega) k hk))
      have r0 : fX12_region s2 (B 0) 1 (nI (ab 4 - 1)) 0 = some (nI (rg (ab 4 - 1) 0)) := by
        have := m_region g2.1 (r := 1) (f := ab 4 - 1) (k := 0) (by decide) (by omega) (by decide)
        rw [rr 0 (by decide)] at this
        exact this
      have r1 : fX12_region s2 (B 0) 1 (nI (ab 4 - 1)) 1 = some (nI (rg (ab 4 - 1) 1)) := by
        have := m_region g2.1 (r := 1) (f := ab 4 - 1) (k := 1) (by decide) (by omega) (by decide)
        rw [rr 1 (by decide)] at this
        exact this
      rw [if_neg hz1, if_pos z, if_neg hz1, if_neg hz1, if_neg hz1, if_neg n8, oA_eq g2.k.1, oB_eq r0, if_neg n8, oA_eq g2.k.1, oB_eq r1]
  have hm3 : ∀ j, j < 12 → j ≠ 9 → j ≠ 4 → ∀ k, zi s3 (B j) k = zi s2 (B j) k := fun j hj n9 n4 k => m3.i (fun z => z.elim (fun z => n9 (h.1.1 j 9 hj (by decide) z)) (fun z => n4 (h.1.1 j 4 hj (by decide) z))) k
  have hout : ∀ j, (j < 256 * (9 + (if kb = 1 then 8 else ab 4 - 1)) ∨ 256 * (9 + (if kb = 1 then 8 else ab 4 - 1)) + clW kb ab rg * clH kb ab rg ≤ j) → zi s3 (B 4) j = zi s2 (B 4) j := fun j hj => by
    rcases hr3 with ⟨-, -, y⟩ | ⟨g, -, -, -, y⟩
    · exact y j
    · exact y j hj
  have nf3 : NF B s2 s3 := ⟨⟨m3.mono (fun a z => z.elim (fun z => ⟨9, by decide, Or.inr (Or.inr (Or.inr (Or.inr (by decide)))), z⟩) (fun z => ⟨4, by decide, Or.inr (Or.inr (Or.inr (Or.inl rfl))), z⟩)), fun j _ => hm3 0 (by decide) (by decide) (by decide) j⟩, fun k _ => hm3 2 (by decide) (by decide) (by decide) k, fun k _ => hm3 3 (by decide) (by decide) (by decide) k, fun k hk => hout k (Or.inl (by omega))⟩
  have nf := (nf1.trans nf2).trans nf3
  have i3 : ∀ j, j < 16 ∨ (20 ≤ j ∧ j ≠ 30) → zi s3 (B 0) j = zi σ (B 0) j := fun j hj => (hm3 0 (by decide) (by decide) (by decide) j).trans (i2 j hj)
  have i330 : zi s3 (B 0) 30 = -1 := (hm3 0 (by decide) (by decide) (by decide) 30).trans i230
  rcases hr3 with ⟨u2, r0, -⟩ | ⟨g, u2, r1, hg, -⟩
  · subst r0
    refine ⟨6, s3, ?_, nf, i3, i330, fun k => (hm3 8 (by decide) (by decide) (by decide) k).trans ((j2 8 (Or.inr (Or.inr (Or.inr rfl))) k).trans (ja 8 (by decide) (by decide) k)), Or.inr (Or.inl ⟨o, u1, u2, rfl⟩)⟩
    refine Eq.trans emain ?_
    rw [if_pos rfl]
  · subst r1
    refine ⟨0, s3, ?_, nf, i3, i330, fun k => (hm3 8 (by decide) (by decide) (by decide) k).trans ((j2 8 (Or.inr (Or.inr (Or.inr rfl))) k).trans (ja 8 (by decide) (by decide) k)), Or.inr (Or.inr ⟨o, g, u1, u2, rfl, fun k hk => (hm3 2 (by decide) (by decide) (by decide) _).trans (hr2 k hk), fun f hf k hk => (hm3 3 (by decide) (by decide) (by decide) _).trans ((j2 3 (Or.inr (Or.inl rfl)) _).trans ((ja 3 (by decide) (by decide) _).trans (hR.2.1 f hf k hk))), fun f hf => ?_⟩)⟩
    · refine Eq.trans emain ?_
      rw [if_neg (by decide)]
    · unfold pxN
      by_cases e : f = gsR kb ab
      · subst e
        refine ⟨d1, fun i hi => ?_⟩
        rw [if_pos rfl, hsl]
        rw [d4] at hi
        exact hg i hi
      · have hf' : Fn kb hd ab f := hf.resolve_right e
        obtain ⟨q1, q2⟩ := hR.2.2 f hf'
        refine ⟨q1, fun i hi => ?_⟩
        rw [if_neg e]
        have hfr : f < ab 4 ∨ f = 8 := by
          rcases hf' with z | z
          · exact Or.inl z.1
          · exact Or.inr z.1
        have hi256 : i < 256 := Nat.lt_of_lt_of_le hi (pdN_le hw hfr)
        have hwh : clW kb ab rg * clH kb ab rg ≤ 256 := by
          have : clW kb ab rg * clH kb ab rg ≤ 16 * 16 := Nat.mul_le_mul d2.2 d3.2
          omega
        have hne : slt ab f ≠ slt ab (gsR kb ab) := by
          unfold Fn at hf'
          unfold gsR dfP at e
          unfold slt gsR dfP
          clear hi q2 hi256 hwh hout hm3 nf nf3 i3 i330 hg u2 u1 emain e66 e256 hto hsl hQ
          rcases hk with z | z
          · rw [if_pos z] at e ⊢
            by_cases y : ab 5 = 1
            · rw [if_pos y] at e ⊢
              rw [if_neg (fun x => e x.1), if_pos ⟨rfl, y⟩]
              omega
            · rw [if_neg y] at e ⊢
              rw [if_neg (fun x => y x.2), if_neg (fun x => y x.2)]
              exact e
          · have := h2 z
            have hz1 : ¬ kb = 1 := by omega
            simp only [if_neg hz1] at e ⊢
            rw [if_neg (show ¬ (ab 4 - 1 = 0 ∧ ab 5 = 1) by omega)]
            split <;> omega
        rw [hout _ (by rw [← hsl]; omega)]
        exact (j2 4 (Or.inr (Or.inr (Or.inl rfl))) _).trans ((ja 4 (by decide) (by decide) _).trans (q2 i hi))
end PMCHUNK
