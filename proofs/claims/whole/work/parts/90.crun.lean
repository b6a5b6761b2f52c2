/-! the class's reader: closing a picture, a whole chunk -/
section PCRUN
variable {σ s t : zS} {C : Nat → Nat} {b : Nat} {tp pk : List Nat} {ab : Nat → Nat} {rg px : Nat → Nat → Nat}
theorem k_147 (hb : isR b) {ty : Int32} {m q ser tl hd : Nat} {bf : Int32} (h : KB σ C b tp) (h6 : zi σ (C 5) 6 = nI q) (h7 : zi σ (C 5) 7 = bf) (hT : KT σ C b (Fn (kd bf) hd ab) (q, bf, ser, tl, hd, ab, rg, px, pk)) (hW : WFk tp (kd bf) q ser tl hd ab rg pk) (hm : q + 12 + m ≤ tp.length) (ht0 : letS tp (q + 4) → kd ty ≠ 0) (hc : clC bf ty) :
    ∃ r s, fX4_chunkFault_147 σ (C 5) (nI m) (nI (q + 8 + m)) ty = some (r, s) ∧ zsq C (PRd b) σ s ∧ ((clsS ty (q, bf, ser, tl, hd, ab, rg, px, pk) = .inl r ∧ (r = 5 ∨ r = 6) ∧ zi s (C 5) 5 = zi σ (C 5) 5) ∨ ∃ px', clsS ty (q, bf, ser, tl, hd, ab, rg, px, pk) = .inr (q, bf, ser, tl, hd, ab, rg, px', pk) ∧ ((takK tp (kd bf) (kd ty) ty m q ser tl hd ab rg px' pk = none ∧ r = 4 ∧ zi s (C 5) 5 = zi σ (C 5) 5) ∨ ∃ R', takK tp (kd bf) (kd ty) ty m q ser tl hd ab rg px' pk = some R' ∧ r = 0 ∧ KC s C b tp R')) := by
  obtain ⟨w1, w7, w8, w9, w10, w11, w12, w13, w14⟩ := id hW
  obtain ⟨⟨f8, f9, f10⟩, hRC, hpic⟩ := id hT
  have hlt := hb.lt
  have h25 : 25 ≤ b := by rcases hb with z | z <;> omega
  have hk := hc.2
  have k0 : kd bf ≠ 0 := by omega
  obtain ⟨v1, v2, v3, v4⟩ := w8 k0
  obtain ⟨b0, b1, b2, b4, b5, -⟩ := v1.b
  obtain ⟨hR, hpl⟩ := hRC k0
  obtain ⟨p1, p2⟩ := hpic hk
  obtain ⟨d1, d2, d3, d4, d5⟩ := cl_dim v1 v2 (fun z => (w11 z).2) (fun z => (w12 z).2) hk
  obtain ⟨r, s1, e1, m1, hr⟩ := u_unpackW (A := fun i => C (6 + i)) h.1.ul p2 h.1.2.2.2.2.2.2.2.1
  have e1' : fX9_unpack σ (C 6) = some (r, s1) := e1
  have z1 : zsq C (PRd b) σ s1 := zsq.ofC (m1.mono (fun a ⟨i, hi, e⟩ => ⟨6 + i, by omega, Or.inr (Or.inl (by omega)), e⟩))
  have n1 : ∀ j, j < 71 → (j < 6 ∨ 25 ≤ j) → ∀ k, zi s1 (C j) k = zi σ (C j) k := fun j hj h6 k => m1.i (fun ⟨i, hi, e⟩ => by
    have := h.1.1 j (6 + i) hj (by omega) e
    omega) k
  have h1 := h.of hb z1
  unfold fX4_chunkFault_147
  rw [oGR_eq h.k5.1 h.un.1, oA_eq h.un.2.1, oC_eq e1']
  have hcls : clsS ty (q, bf, ser, tl, hd, ab, rg, px, pk) = (match unpackS pk with
        | none => .inl 5
        | some o => match rowsS (clW (kd bf) ab rg) (clH (kd bf) ab rg) o with
          | none => .inl 6
          | some g => .inr (q, bf, ser, tl, hd, ab, rg, pxN px (gsR (kd bf) ab) (pxS (clW (kd bf) ab rg) g), pk)) := by
    unfold clsS
    dsimp only
    rw [if_pos hc]
    rfl
  rcases hr with ⟨u1, r0⟩ | ⟨o, p', u1, r1, hS⟩
  · subst r0
    rw [u1] at hcls
    exact ⟨5, s1, by rw [if_pos rfl], z1, Or.inl ⟨hcls, Or.inl rfl, n1 5 (by decide) (by decide) 5⟩⟩
  subst r1
  rw [if_neg (by decide)]
  have r4 : zr s1 (C 5) 4 = some (C (b + (2 + 2 * gsR (kd bf) ab))) := by rw [m1.r]; exact p1
  have r61 : zr s1 (C 6) 1 = some (C 9) := h1.1.ul.2.2.2.1
  have hB9 : BL s1 (C 9) (C 10) 1100 o := hS.2.2.1
  have hP : PCL s1 (C (b + (2 + 2 * gsR (kd bf) ab))) (C (b + (3 + 2 * gsR (kd bf) ab))) := (h1.rl hb).2.2.2.2.2.2 _ d1
  have hwh : zi s1 (C (b + (2 + 2 * gsR (kd bf) ab))) 1 = nI (clW (kd bf) ab rg) ∧ zi s1 (C (b + (2 + 2 * gsR (kd bf) ab))) 2 = nI (clH (kd bf) ab rg) := by
    rcases d5 with ⟨y1, y2, y3⟩ | ⟨y1, y2, y3⟩
    · rw [y2, y3, y1]
      exact ⟨(n1 (b + 18) (by omega) (by omega) 1).trans hR.2.1.1, (n1 (b + 18) (by omega) (by omega) 2).trans hR.2.1.2⟩
    · rw [y2, y3]
      exact ⟨(n1 (b + (2 + 2 * gsR (kd bf) ab)) (by omega) (by omega) 1).trans (hR.2.2.1 _ y1 0 (by decide)), (n1 (b + (2 + 2 * gsR (kd bf) ab)) (by omega) (by omega) 2).trans (hR.2.2.1 _ y1 1 (by decide))⟩
  obtain ⟨r2, s2, e2, m2, -, hr2⟩ := s_rows hB9 hP hwh.1 hwh.2 d2.1 d2.2 d3.1 d3.2
  rw [oGR_eq h1.k5.1 r4, oGR_eq h1.k5.1 h1.un.1, oGR_eq h1.un.2.1 r61, oC_eq e2]
  have z2 : zsq C (PRd b) s1 s2 := zsq.ofC (m2.mono (fun a z => z.elim (fun z => ⟨10, by decide, Or.inr (Or.inl (by decide)), z⟩) (fun z => ⟨b + (3 + 2 * gsR (kd bf) ab), by omega, Or.inr (Or.inr (by omega)), z⟩)))
  have n2 : ∀ j, j < 71 → j ≠ 10 → j ≠ b + (3 + 2 * gsR (kd bf) ab) → ∀ k, zi s2 (C j) k = zi s1 (C j) k := fun j hj j1 j2 k => m2.i (fun z => z.elim (fun z => j1 (h.1.1 j 10 hj (by decide) z)) (fun z => j2 (h.1.1 j _ hj (by omega) z))) k
  have z12 := z1.trans z2
  have i5 : ∀ k, zi s2 (C 5) k = zi σ (C 5) k := fun k => (n2 5 (by decide) (by decide) (by omega) k).trans (n1 5 (by decide) (by decide) k)
  rw [u1] at hcls
  dsimp only at hcls
  rcases hr2 with ⟨g1, r0⟩ | ⟨g, g1, r1, hg⟩
  · subst r0
    rw [g1] at hcls
    exact ⟨6, s2, by rw [if_pos rfl], z12, Or.inl ⟨hcls, Or.inr rfl, i5 5⟩⟩
  subst r1
  rw [if_neg (by decide)]
  rw [g1] at hcls
  dsimp only at hcls
  have h2 := h1.of hb z2
  obtain ⟨⟨g1', g2, g3, g4, g6⟩, ⟨g7, g8⟩, g9, g10⟩ := id hR
  have nb : ∀ j, j < 20 → j ≠ 3 + 2 * gsR (kd bf) ab → ∀ k, zi s2 (C (b + j)) k = zi σ (C (b + j)) k := fun j hj hne k => (n2 (b + j) (by omega) (by omega) (by omega) k).trans (n1 (b + j) (by omega) (by omega) k)
  have hT2 : KT s2 C b (fun f => Fn (kd bf) hd ab f ∨ (clC bf ty ∧ f = gsR (kd bf) ab)) (q, bf, ser, tl, hd, ab, rg, pxN px (gsR (kd bf) ab) (pxS (clW (kd bf) ab rg) g), pk) := by
    refine ⟨⟨(i5 8).trans f8, (i5 9).trans f9, (i5 10).trans f10⟩, fun _ => ⟨⟨⟨(nb 0 (by decide) (by omega) 2).trans g1', (nb 0 (by decide) (by omega) 3).trans g2, (nb 0 (by decide) (by omega) 4).trans g3, (nb 0 (by decide) (by omega) 5).trans g4, (nb 0 (by decide) (by omega) 7).trans g6⟩, ⟨(nb 18 (by decide) (by omega) 1).trans g7, (nb 18 (by decide) (by omega) 2).trans g8⟩, fun f hf k hk => (nb (2 + 2 * f) (by omega) (by omega) _).trans (g9 f hf k hk), fun f hf => ?_⟩, fun z => (nb 0 (by decide) (by omega) 6).trans (hpl z)⟩, fun _ => ⟨by rw [m2.r]; exact r4, ?_⟩⟩
    · unfold pxN
      by_cases e : f = gsR (kd bf) ab
      · subst e
        refine ⟨d1, fun i hi => ?_⟩
        rw [if_pos rfl]
        rw [d4] at hi
        exact hg i hi
      · have hf' : Fn (kd bf) hd ab f := hf.resolve_right (fun z => e z.2)
        refine ⟨(g10 f hf').1, fun i hi => ?_⟩
        rw [if_neg e]
        have := (g10 f hf').1
        exact (nb (3 + 2 * f) (by omega) (by omega) _).trans ((g10 f hf').2 i hi)
    · have hB7 : BL s1 (C 7) (C 8) 8000 pk := hS.2.1
      exact hB7.of m2 (fun z => z.elim (h.1.ne 7 10) (fun z => by have := h.1.1 7 _ (by decide) (by omega) z; omega)) (fun z => z.elim (h.1.ne 8 10) (fun z => by have := h.1.1 8 _ (by decide) (by omega) z; omega))
  obtain ⟨r, s3, e3, z3, hr3⟩ := k_179 hb h2 ((i5 6).trans h6) ((i5 7).trans h7) hT2 hW hm ht0 (fun f z => z)
  refine ⟨r, s3, e3, z12.trans z3, Or.inr ⟨_, hcls, ?_⟩⟩
  rcases hr3 with ⟨y1, y2, y3⟩ | y
  · exact Or.inl ⟨y1, y2, y3.trans (i5 5)⟩
  · exact Or.inr y
theorem step_eq {R : zRS} {m : Nat} (h1 : ¬ tooS tp R.1) (hm : lnS tp R.1 = m) (hcr : crX (fun k => tp.getD (R.1 + 4 + k) 0) (4 + m) ^^^ (-1) = nmS tp (R.1 + 8 + m)) : stepS tp R = (match clsS (nmS tp (R.1 + 4)) R with
      | .inl f => .inl (f, R.1 + 4)
      | .inr R1 => match takS tp (nmS tp (R.1 + 4)) m R1 with
        | none => .inl (4, R.1 + 4)
        | some R2 => .inr R2) := by
  unfold stepS
  rw [if_neg h1, hm, if_pos hcr]
  rfl
theorem k_chunk (hb : isR b) {q ser tl hd : Nat} {bf : Int32} (hK : KC σ C b tp (q, bf, ser, tl, hd, ab, rg, px, pk)) : ∃ r s, fX4_chunkFault σ (C 5) = some (r, s) ∧ zsq C (PRd b) σ s ∧ ((∃ p, stepS tp (q, bf, ser, tl, hd, ab, rg, px, pk) = .inl (r, p) ∧ r ≠ 0 ∧ zi s (C 5) 5 = nI p) ∨ ∃ R', stepS tp (q, bf, ser, tl, hd, ab, rg, px, pk) = .inr R' ∧ r = 0 ∧ KC s C b tp R') := by
  obtain ⟨h, h6, h7, hT, hW⟩ := hK
  have hlen := h.len
  have wq := hW.1.1
  have hx1 : zi σ (C 3) 1 = nI tp.length := h.2.2.1.1.2.2.2.2.1
  have t12 : (12 : Int32).toInt = 12 := by decide
  have tL : (nI tp.length).toInt = (tp.length : Int) := zt_nI (by omega)
  have tq : (nI q).toInt = (q : Int) := zt_nI (by omega)
  have t1 : (nI tp.length - nI q).toInt = (tp.length : Int) - q := by rw [zt_sub (by rw [tL, tq]; omega) (by rw [tL, tq]; omega), tL, tq]
  have tv : (nI tp.length - nI q - 12).toInt = (tp.length : Int) - q - 12 := by rw [zt_sub (by rw [t1, t12]; omega) (by rw [t1, t12]; omega), t1, t12]
  have z1 : zsq C (PRd b) σ (zuI σ (C 5) 5 (nI tp.length)) := zsq.rf.uI (by decide) (Or.inl rfl)
  have e41 : fX4_chunkFault_41 σ (C 5) = some (2, zuI σ (C 5) 5 (nI tp.length)) := by
    unfold fX4_chunkFault_41
    rw [oGR_eq h.k5.1 h.k5.2.1, oGI_eq h.k5.2.2 hx1, oPI_eq h.k5.1]
  have i41 : zi (zuI σ (C 5) 5 (nI tp.length)) (C 5) 5 = nI tp.length := by rw [zi_uI, if_pos ⟨rfl, rfl⟩]
  unfold fX4_chunkFault
  rw [oGR_eq h.k5.1 h.k5.2.1, oGI_eq h.k5.2.2 hx1, oGI_eq h.k5.1 h6, oL_eq, oGR_eq h.k5.1 h.k5.2.1, oGI_eq h.k5.1 h6, oA_eq h.k5.2.2]
  by_cases d0 : tp.length < q + 12
  · obtain ⟨x4, e4⟩ : ∃ x4, fX1_number σ (C 3) (nI q) = some x4 := by
      by_cases y : q + 4 ≤ tp.length
      · exact ⟨_, k_num h y⟩
      · exact ⟨_, s_numberN h.2.2.1.1 (Or.inr (by rw [tq]; omega))⟩
    have hv : nI tp.length - nI q - 12 < 0 := by rw [zlt, tv, zt0']; omega
    rw [oB_eq e4, if_pos hv, e41]
    refine ⟨2, _, rfl, z1, Or.inl ⟨tp.length, ?_, by decide, i41⟩⟩
    unfold stepS
    dsimp only
    rw [if_pos (show tooS tp q from Or.inl d0)]
  have hv : ¬ nI tp.length - nI q - 12 < 0 := by rw [zlt, tv, zt0']; omega
  rw [oB_eq (k_num h (i := q) (by omega)), if_neg hv]
  have htoo : tooS tp q ↔ (tp.length < q + 12 ∨ (nmS tp q).toInt < 0 ∨ (tp.length : Int) < (q : Int) + 12 + (nmS tp q).toInt) := Iff.rfl
  have hln : lnS tp q = (nmS tp q).toInt.toNat := rfl
  have hk0 : ∀ m, 4 + m = m + 4 := fun m => Nat.add_comm 4 m
  generalize nmS tp q = n at htoo hln ⊢
  by_cases d1 : n < 0
  · rw [if_pos d1, e41]
    refine ⟨2, _, rfl, z1, Or.inl ⟨tp.length, ?_, by decide, i41⟩⟩
    unfold stepS
    dsimp only
    rw [if_pos (htoo.mpr (Or.inr (Or.inl (by rw [zlt, zt0'] at d1; exact d1))))]
  rw [if_neg d1]
  rw [zlt, zt0'] at d1
  by_cases d2 : n ≤ nI tp.length - nI q - 12
  rotate_left
  · rw [if_neg d2, e41]
    refine ⟨2, _, rfl, z1, Or.inl ⟨tp.length, ?_, by decide, i41⟩⟩
    unfold stepS
    dsimp only
    rw [if_pos (htoo.mpr (Or.inr (Or.inr (by rw [zle, tv] at d2; omega))))]
  rw [if_pos d2]
  rw [zle, tv] at d2
  have hnt : ¬ tooS tp q := fun z => by
    have := htoo.mp z
    omega
  obtain ⟨m, hm⟩ : ∃ m : Nat, n.toInt = (m : Int) := ⟨n.toInt.toNat, by omega⟩
  have en : n = nI m := znI_of hm
  have hlm : lnS tp q = m := by rw [hln, hm]; rfl
  subst en
  clear htoo hln d1
  have hmq : q + 12 + m ≤ tp.length := by omega
  clear d2 hm
  have a4 : nI q + 4 = nI (q + 4) := nI_add q 4
  have a8 : nI q + 8 = nI (q + 8) := nI_add q 8
  have z2 : zsq C (PRd b) σ (zuI σ (C 5) 5 (nI (q + 4))) := zsq.rf.uI (by decide) (Or.inl rfl)
  have h4 : kd bf ≠ 0 → ab 4 ≤ 8 := fun k0 => (hW.2.2.1 k0).1.b.2.2.2.1
  have hT2 := KT.u (k := 5) (v := nI (q + 4)) hT h.1 hb h4 (by decide)
  have i6 : zi (zuI σ (C 5) 5 (nI (q + 4))) (C 5) 6 = nI q := by rw [zi_uI, if_neg (by omega)]; exact h6
  have i7 : zi (zuI σ (C 5) 5 (nI (q + 4))) (C 5) 7 = bf := by rw [zi_uI, if_neg (by omega)]; exact h7
  have i5 : zi (zuI σ (C 5) 5 (nI (q + 4))) (C 5) 5 = nI (q + 4) := by rw [zi_uI, if_pos ⟨rfl, rfl⟩]
  rw [oGI_eq h.k5.1 h6, oPI_eq h.k5.1, a4]
  generalize zuI σ (C 5) 5 (nI (q + 4)) = s2 at z2 hT2 i6 i7 i5 ⊢
  have h2 := h.of hb z2
  have hch := s_ofChunk (q := C 1) (ta := C 2) h2.1.sm h2.2.2.2 h2.2.2.1.1 (f := fun j => tp.getD j 0) (fun j hj => h2.2.2.1.2 j hj) (fr := q + 4) (m := 4 + m) (by omega)
  have e8 : q + 4 + (4 + m) = q + 8 + m := by omega
  rw [e8] at hch
  have r1 : zr s2 (C 5) 1 = some (C 1) := h2.1.2.2.2.2.1.2.2.1
  rw [oGI_eq h2.k5.1 i6, oL_eq, a8, nI_add, oGR_eq h2.k5.1 r1, oGR_eq h2.k5.1 h2.k5.2.1, oGI_eq h2.k5.1 i6, oA_eq h2.1.sm.1, a4, oB_eq hch, oGR_eq h2.k5.1 h2.k5.2.1, oA_eq h2.k5.2.2, oB_eq (k_num h2 (i := q + 8 + m) (by omega))]
  by_cases d3 : crX (fun k => tp.getD (q + 4 + k) 0) (4 + m) ^^^ (-1) = nmS tp (q + 8 + m)
  rotate_left
  · rw [if_neg d3]
    refine ⟨3, s2, rfl, z2, Or.inl ⟨q + 4, ?_, by decide, i5⟩⟩
    unfold stepS
    dsimp only
    rw [if_neg hnt, hlm, if_neg d3]
  rw [if_pos d3, oGR_eq h2.k5.1 h2.k5.2.1, oGI_eq h2.k5.1 i6, oA_eq h2.k5.2.2, a4, oB_eq (k_num h2 (i := q + 4) (by omega)), oGI_eq h2.k5.1 i7, oGI_eq h2.k5.1 i7, oGI_eq h2.k5.1 i7]
  have hst := step_eq (R := (q, bf, ser, tl, hd, ab, rg, px, pk)) (tp := tp) hnt hlm d3
  dsimp only at hst
  have ht0 : letS tp (q + 4) → kd (nmS tp (q + 4)) ≠ 0 := kd_let h.by
  generalize nmS tp (q + 4) = ty at hst ht0 ⊢
  clear d3 hch hlm hnt
  have kvb := kdv bf
  by_cases hc : clC bf ty
  · have hif : (if ty = bf then fX4_chunkFault_179 s2 (C 5) (nI m) (nI (q + 8 + m)) ty else if bf = (1229209940 : Int32) then fX4_chunkFault_147 s2 (C 5) (nI m) (nI (q + 8 + m)) ty else if bf = (1717846356 : Int32) then fX4_chunkFault_147 s2 (C 5) (nI m) (nI (q + 8 + m)) ty else fX4_chunkFault_179 s2 (C 5) (nI m) (nI (q + 8 + m)) ty) = fX4_chunkFault_147 s2 (C 5) (nI m) (nI (q + 8 + m)) ty := by
      rw [if_neg hc.1]
      rcases hc.2 with y | y
      · rw [if_pos (kvb.1.mp y)]
      · by_cases y1 : bf = 1229209940
        · rw [if_pos y1]
        · rw [if_neg y1, if_pos (kvb.2.1.mp y)]
    rw [hif]
    obtain ⟨r, s, e, z, hr⟩ := k_147 hb h2 i6 i7 hT2 hW hmq ht0 hc
    refine ⟨r, s, e, z2.trans z, ?_⟩
    rcases hr with ⟨y1, y2, y3⟩ | ⟨px', y1, y2⟩
    · rw [y1] at hst
      exact Or.inl ⟨q + 4, hst, by rcases y2 with y | y <;> (rw [y]; decide), y3.trans i5⟩
    · rw [y1] at hst
      dsimp only at hst
      rcases y2 with ⟨x1, x2, x3⟩ | ⟨R', x1, x2, x3⟩
      · have x1' : takS tp ty m (q, bf, ser, tl, hd, ab, rg, px', pk) = none := x1
        rw [x1'] at hst
        subst x2
        exact Or.inl ⟨q + 4, hst, by decide, x3.trans i5⟩
      · have x1' : takS tp ty m (q, bf, ser, tl, hd, ab, rg, px', pk) = some R' := x1
        rw [x1'] at hst
        exact Or.inr ⟨R', hst, x2, x3⟩
  · have hif : (if ty = bf then fX4_chunkFault_179 s2 (C 5) (nI m) (nI (q + 8 + m)) ty else if bf = (1229209940 : Int32) then fX4_chunkFault_147 s2 (C 5) (nI m) (nI (q + 8 + m)) ty else if bf = (1717846356 : Int32) then fX4_chunkFault_147 s2 (C 5) (nI m) (nI (q + 8 + m)) ty else fX4_chunkFault_179 s2 (C 5) (nI m) (nI (q + 8 + m)) ty) = fX4_chunkFault_179 s2 (C 5) (nI m) (nI (q + 8 + m)) ty := by
      by_cases y : ty = bf
      · rw [if_pos y]
      · rw [if_neg y, if_neg (fun z => hc ⟨y, Or.inl (kvb.1.mpr z)⟩), if_neg (fun z => hc ⟨y, Or.inr (kvb.2.1.mpr z)⟩)]
    rw [hif]
    have hcls : clsS ty (q, bf, ser, tl, hd, ab, rg, px, pk) = .inr (q, bf, ser, tl, hd, ab, rg, px, pk) := by
      unfold clsS
      dsimp only
      rw [if_neg hc]
    rw [hcls] at hst
    dsimp only at hst
    obtain ⟨r, s, e, z, hr⟩ := k_179 hb h2 i6 i7 hT2 hW hmq ht0 (fun f z => z.elim id (fun z => absurd z.1 hc))
    refine ⟨r, s, e, z2.trans z, ?_⟩
    rcases hr with ⟨x1, x2, x3⟩ | ⟨R', x1, x2, x3⟩
    · have x1' : takS tp ty m (q, bf, ser, tl, hd, ab, rg, px, pk) = none := x1
      rw [x1'] at hst
      subst x2
      exact Or.inl ⟨q + 4, hst, by decide, x3.trans i5⟩
    · have x1' : takS tp ty m (q, bf, ser, tl, hd, ab, rg, px, pk) = some R' := x1
      rw [x1'] at hst
      exact Or.inr ⟨R', hst, x2, x3⟩
end PCRUN
