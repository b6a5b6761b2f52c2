/-! the reference's read -/
section PMREAD
variable {σ s t : zS} {B : Nat → Nat} {tp : List Nat} {ab : Nat → Nat} {rg px : Nat → Nat → Nat}
theorem zcopy {f : Int32 → zS → Option ((Int32 × zS) ⊕ zS)} {j n off : Nat} (h : zML σ B) (hj : j < 12) (hj0 : j ≠ 0) (hn : n < 3000) (hoff : n ≤ off) (hs : ∀ i t, i < n → zML t B → (∀ k, zi t (B 0) k = zi σ (B 0) k) → f (nI i) t = some (.inl (nI (i + 1), zuI t (B j) i (zi t (B j) (off + i))))) (he : ∀ t, zML t B → f (nI n) t = some (.inr t)) : ∃ s, zloop zF (fun x => f x.1 x.2) (0, σ) = some s ∧ zsm (fun a => a = B j) σ s ∧ (∀ i, i < n → zi s (B j) i = zi σ (B j) (off + i)) ∧ ∀ k, n ≤ k → zi s (B j) k = zi σ (B j) k := by
  refine zloop_cnt (body := fun x => f x.1 x.2) (fun i x => x.1 = nI i ∧ zsm (fun a => a = B j) σ x.2 ∧ (∀ k, k < i → zi x.2 (B j) k = zi σ (B j) (off + k)) ∧ ∀ k, i ≤ k → zi x.2 (B j) k = zi σ (B j) k) n (fun s => zsm (fun a => a = B j) σ s ∧ (∀ i, i < n → zi s (B j) i = zi σ (B j) (off + i)) ∧ ∀ k, n ≤ k → zi s (B j) k = zi σ (B j) k) (fun i x hi hx => ?_) (fun x hx => ?_) zF (0, σ) ⟨rfl, zsm.rf, fun k hk => absurd hk (Nat.not_lt_zero k), fun _ _ => rfl⟩ (by unfold zF; omega)
  · obtain ⟨a, t⟩ := x
    obtain ⟨x1, x2, x3, x4⟩ := hx
    dsimp only at x1 x2 x3 x4
    subst x1
    have hz0 : ∀ k, zi t (B 0) k = zi σ (B 0) k := fun k => x2.i (fun z => hj0 (h.1 0 j (by decide) hj z).symm) k
    refine Or.inl ⟨(nI (i + 1), zuI t (B j) i (zi t (B j) (off + i))), hs i t hi (h.of x2) hz0, rfl, x2.uI rfl, fun k hk => ?_, fun k hk => ?_⟩
    · rw [zi_uI]
      by_cases e : k = i
      · rw [if_pos ⟨rfl, e⟩, e]
        exact x4 (off + i) (by omega)
      · rw [if_neg (fun z => e z.2)]
        exact x3 k (by omega)
    · rw [zi_uI, if_neg (fun z => by omega)]
      exact x4 k (by omega)
  · obtain ⟨a, t⟩ := x
    obtain ⟨x1, x2, x3, x4⟩ := hx
    dsimp only at x1 x2 x3 x4
    subst x1
    exact ⟨t, he t (h.of x2), x2, x3, x4⟩
theorem m_r40 {fi : Nat} (h : zML σ B) (hfi : fi ≤ 1) (h29 : zi σ (B 0) 29 = nI fi) :
    ∃ s, fX12_read_40 σ (B 0) (nI fi) 11 (B 2) = some (zi σ (B 2) 10, s) ∧ zsm (fun a => a = B 0 ∨ a = B 2 ∨ a = B 3 ∨ a = B 4) σ s ∧ (∀ j, j ≠ 7 → zi s (B 0) j = zi σ (B 0) j) ∧ zi s (B 0) 7 = 0 ∧ (∀ k, k < 5 → zi s (B 2) k = zi σ (B 2) (6 + k)) ∧ zi s (B 2) 5 = nI fi ∧ (∀ k, k < 48 → zi s (B 3) k = zi σ (B 3) (48 + k)) ∧ ∀ k, k < 2304 → zi s (B 4) k = if fi = 1 ∧ k < 256 then zi σ (B 4) (4352 + k) else zi σ (B 4) (2304 + k) := by
  have l11 : ∀ f : zS → Option (Int32 × zS), oSt σ 21 (B 2) 11 (nI fi) f = f (zuI σ (B 2) 11 (nI fi)) := fun f => zSt2 h (k := 11) (kk := 11) (by decide) rfl
  have m0 : zsm (fun a => a = B 2) σ (zuI σ (B 2) 11 (nI fi)) := zsm1
  have h1 := h.of m0
  have i0 : ∀ k, k ≠ 11 → zi (zuI σ (B 2) 11 (nI fi)) (B 2) k = zi σ (B 2) k := fun k hk => by rw [zi_uI, if_neg (fun z => hk z.2)]
  have i011 : zi (zuI σ (B 2) 11 (nI fi)) (B 2) 11 = nI fi := by rw [zi_uI, if_pos ⟨rfl, rfl⟩]
  unfold fX12_read_40
  rw [l11]
  generalize zuI σ (B 2) 11 (nI fi) = s0 at m0 h1 i0 i011
  obtain ⟨s1, e1, m1, c1, -⟩ := zcopy (σ := s0) (B := B) (f := fun l2 t => bX12_read_43 (B 0) l2 t) (j := 2) (n := 6) (off := 6) h1 (by decide) (by decide) (by decide) (by decide) (fun i t hi ht _ => by
    obtain ⟨k0, r4, k2, n2⟩ := ht.r4
    have a6 : (6 : Int32) + nI i = nI (6 + i) := nI_add 6 i
    have c6 : ¬ (6 : Int32) ≤ nI i := fun z => by
      have := (nI_leI (a := 6) (b := i) (by decide) (by omega)).mp z
      omega
    show bX12_read_43 (B 0) (nI i) t = _
    unfold bX12_read_43
    rw [if_neg c6, oGR_eq k0 r4, oGR_eq k0 r4, a6, oLd_eq k2 (by rw [n2]; omega) (by omega) rfl, oSt_eq k2 (by rw [n2]; omega) (by omega), oL_eq, nI_1]) (fun t ht => by
    show bX12_read_43 (B 0) (nI 6) t = _
    unfold bX12_read_43
    rw [if_pos (by decide)])
  have h2 := h1.of m1
  obtain ⟨s2, e2, m2, c2, -⟩ := zcopy (σ := s1) (B := B) (f := fun l2 t => bX12_read_72 (B 0) l2 t) (j := 3) (n := 48) (off := 48) h2 (by decide) (by decide) (by decide) (by decide) (fun i t hi ht _ => by
    obtain ⟨k0, r5, k3, n3⟩ := ht.r5
    have a6 : (48 : Int32) + nI i = nI (48 + i) := nI_add 48 i
    have c6 : ¬ (48 : Int32) ≤ nI i := fun z => by
      have := (nI_leI (a := 48) (b := i) (by decide) (by omega)).mp z
      omega
    show bX12_read_72 (B 0) (nI i) t = _
    unfold bX12_read_72
    rw [if_neg c6, oGR_eq k0 r5, oGR_eq k0 r5, a6, oLd_eq k3 (by rw [n3]; omega) (by omega) rfl, oSt_eq k3 (by rw [n3]; omega) (by omega), oL_eq, nI_1]) (fun t ht => by
    show bX12_read_72 (B 0) (nI 48) t = _
    unfold bX12_read_72
    rw [if_pos (by decide)])
  have h3 := h2.of m2
  obtain ⟨s3, e3, m3, c3, d3⟩ := zcopy (σ := s2) (B := B) (f := fun l2 t => bX12_read_101 (B 0) l2 t) (j := 4) (n := 2304) (off := 2304) h3 (by decide) (by decide) (by decide) (by decide) (fun i t hi ht _ => by
    obtain ⟨k0, r6, k4, n4⟩ := ht.r6
    have a6 : (2304 : Int32) + nI i = nI (2304 + i) := nI_add 2304 i
    have c6 : ¬ (2304 : Int32) ≤ nI i := fun z => by
      have := (nI_leI (a := 2304) (b := i) (by decide) (by omega)).mp z
      omega
    show bX12_read_101 (B 0) (nI i) t = _
    unfold bX12_read_101
    rw [if_neg c6, oGR_eq k0 r6, oGR_eq k0 r6, a6, oLd_eq k4 (by rw [n4]; omega) (by omega) rfl, oSt_eq k4 (by rw [n4]; omega) (by omega), oL_eq, nI_1]) (fun t ht => by
    show bX12_read_101 (B 0) (nI 2304) t = _
    unfold bX12_read_101
    rw [if_pos (by decide)])
  have h4 := h3.of m3
  have z30 : ∀ k, zi s3 (B 0) k = zi σ (B 0) k := fun k => by
    rw [m3.i (h.ne 0 4), m2.i (h.ne 0 3), m1.i (h.ne 0 2), m0.i (h.ne 0 2)]
  have s329 : zi s3 (B 0) 29 = nI fi := (z30 29).trans h29
  obtain ⟨s4, e4, m4, c4⟩ : ∃ s4, zloop zF (fun x => bX12_read_132 (B 0) x.1 x.2) (0, s3) = some s4 ∧ zsm (fun a => a = B 4) s3 s4 ∧ ∀ k, k < 2304 → zi s4 (B 4) k = if fi = 1 ∧ k < 256 then zi s3 (B 4) (4352 + k) else zi s3 (B 4) k := by
    by_cases q : fi = 1
    · obtain ⟨s4, e4, m4, c4, d4⟩ := zcopy (σ := s3) (B := B) (f := fun l2 t => bX12_read_132 (B 0) l2 t) (j := 4) (n := 256) (off := 4352) h4 (by decide) (by decide) (by decide) (by decide) (fun i t hi ht hz => by
        obtain ⟨k0, r6, k4, n4⟩ := ht.r6
        have a6 : (4352 : Int32) + nI i = nI (4352 + i) := nI_add 4352 i
        have c6 : ¬ (256 : Int32) ≤ nI i := fun z => by
          have := (nI_leI (a := 256) (b := i) (by decide) (by omega)).mp z
          omega
        have t29 : zi t (B 0) 29 = nI 1 := by rw [hz, s329, q]
        show bX12_read_132 (B 0) (nI i) t = _
        unfold bX12_read_132
        rw [if_neg c6, oGI_eq k0 t29, if_neg (by decide), oGR_eq k0 r6, oGR_eq k0 r6, a6, oLd_eq k4 (by rw [n4]; omega) (by omega) rfl, oSt_eq k4 (by rw [n4]; omega) (by omega), oL_eq, nI_1]) (fun t ht => by
        show bX12_read_132 (B 0) (nI 256) t = _
        unfold bX12_read_132
        rw [if_pos (by decide)])
      refine ⟨s4, e4, m4, fun k hk => ?_⟩
      by_cases y : k < 256
      · rw [if_pos ⟨q, y⟩]
        exact c4 k y
      · rw [if_neg (fun z => y z.2)]
        exact d4 k (by omega)
    · have q0 : fi = 0 := by omega
      refine ⟨s3, zloop_one (body := fun x => bX12_read_132 (B 0) x.1 x.2) ?_, zsm.rf, fun k hk => by rw [if_neg (fun z => q z.1)]⟩
      show bX12_read_132 (B 0) 0 s3 = _
      have t29 : zi s3 (B 0) 29 = nI 0 := by rw [s329, q0]
      unfold bX12_read_132
      rw [if_neg (by decide), oGI_eq h4.2.1 t29, if_pos (by decide)]
  have h5 := h4.of m4
  have k5 : zk s4 (B 0) = 12 := h5.2.1
  have z42 : ∀ k, zi s4 (B 2) k = zi s1 (B 2) k := fun k => by
    rw [m4.i (h.ne 2 4), m3.i (h.ne 2 4), m2.i (h.ne 2 3)]
  have v4 : zi (zuI s4 (B 0) 7 0) (B 2) 4 = zi σ (B 2) 10 := by
    rw [zi_uI, if_neg (fun z => absurd z.1 (h.ne 2 0)), z42, c1 4 (by decide), i0 10 (by decide)]
  have mall : zsm (fun a => a = B 0 ∨ a = B 2 ∨ a = B 3 ∨ a = B 4) σ s4 := ((((m0.mono (fun a z => Or.inr (Or.inl z))).trans (m1.mono (fun a z => Or.inr (Or.inl z)))).trans (m2.mono (fun a z => Or.inr (Or.inr (Or.inl z))))).trans (m3.mono (fun a z => Or.inr (Or.inr (Or.inr z))))).trans (m4.mono (fun a z => Or.inr (Or.inr (Or.inr z))))
  refine ⟨zuI s4 (B 0) 7 0, ?_, mall.uI (Or.inl rfl), fun j hj => ?_, by rw [zi_uI, if_pos ⟨rfl, rfl⟩], fun k hk => ?_, ?_, fun k hk => ?_, fun k hk => ?_⟩
  · rw [oB_eq e1]
    dsimp only
    rw [oB_eq e2, oB_eq e3, oB_eq e4, oPZ_eq k5 (Or.inl rfl), zAB h5.u (k := 4) (kk := 4) (by decide) rfl v4]
  · rw [zi_uI, if_neg (fun z => hj z.2), m4.i (h.ne 0 4), z30]
  · rw [zi_uI, if_neg (fun z => absurd z.1 (h.ne 2 0)), z42, c1 k (by omega), i0 (6 + k) (by omega)]
  · rw [zi_uI, if_neg (fun z => absurd z.1 (h.ne 2 0)), z42, c1 5 (by decide)]
    exact i011
  · rw [zi_uI, if_neg (fun z => absurd z.1 (h.ne 3 0)), m4.i (h.ne 3 4), m3.i (h.ne 3 4), c2 k hk, m1.i (h.ne 3 2), m0.i (h.ne 3 2)]
  · have z4 : ∀ j, zi s2 (B 4) j = zi σ (B 4) j := fun j => by rw [m2.i (h.ne 4 3), m1.i (h.ne 4 2), m0.i (h.ne 4 2)]
    rw [zi_uI, if_neg (fun z => absurd z.1 (h.ne 4 0)), c4 k hk]
    by_cases y : fi = 1 ∧ k < 256
    · rw [if_pos y, if_pos y, d3 _ (by omega), z4]
    · rw [if_neg y, if_neg y, c3 k hk, z4]
theorem m_read (h : NB σ B tp) :
    ∃ s, zsm (fun a => ∃ i, i < 12 ∧ a = B i) σ s ∧ TPm s B [] ∧ (∀ k, zi s (B 7) k = zi σ (B 7) k) ∧ (∀ k, zi s (B 5) k = zi σ (B 5) k) ∧ zi s (B 0) 12 = zi σ (B 0) 12 ∧ ((∃ r p, readS tp = .inl (r, p) ∧ fX12_read σ (B 0) = some (-r, s) ∧ zi s (B 0) 3 = nI p ∧ (zi s (B 0) 7 = zi σ (B 0) 7 ∧ zi s (B 0) 8 = zi σ (B 0) 8 ∧ zi s (B 0) 9 = zi σ (B 0) 9) ∧ (∀ k, k < 6 → zi s (B 2) k = zi σ (B 2) k) ∧ (∀ k, k < 48 → zi s (B 3) k = zi σ (B 3) k) ∧ ∀ k, k < 2304 → zi s (B 4) k = zi σ (B 4) k) ∨ (∃ q bf ser tl hd ab rg px pk, readS tp = .inr (q, bf, ser, tl, hd, ab, rg, px, pk) ∧ fX12_read σ (B 0) = some (nI (ab 4), s) ∧ zi s (B 0) 3 = -1 ∧ zi s (B 0) 7 = 0 ∧ MR s B ab rg px)) := by
  have nf0 : NF B σ (zuI σ (B 0) 0 0) := NF.rf.u0 h.1 (Or.inl rfl)
  have h0 := h.of nf0
  unfold fX12_read
  rw [oPI_eq h.k.1]
  generalize zuI σ (B 0) 0 0 = s0 at nf0 h0
  obtain ⟨r, s1, e1, nf1, hr⟩ := n_run h0
  have nf01 := nf0.trans nf1
  have h1 := h.of nf01
  rw [oA_eq h0.k.1, oC_eq e1, oPI_eq h1.k.1]
  have m2 : zsm (fun a => a = B 0) s1 (zuI s1 (B 0) 1 0) := zsm1
  have i2 : ∀ j, j ≠ 1 → zi (zuI s1 (B 0) 1 0) (B 0) j = zi s1 (B 0) j := fun j hj => by rw [zi_uI, if_neg (fun z => hj z.2)]
  have i21 : zi (zuI s1 (B 0) 1 0) (B 0) 1 = 0 := by rw [zi_uI, if_pos ⟨rfl, rfl⟩]
  have ja : ∀ j, j < 12 → j ≠ 0 → ∀ k, zi (zuI s1 (B 0) 1 0) (B j) k = zi s1 (B j) k := fun j hj hn k => by rw [zi_uI, if_neg (fun z => hn (h.1.1 j 0 hj (by decide) z.1))]
  have g2 : zML (zuI s1 (B 0) 1 0) B := h1.1.u
  have f0 : ∀ j, 4 ≤ j → j < 14 → zi s1 (B 0) j = zi σ (B 0) j := fun j y1 y2 => nf01.f (fun z => by unfold FMr at z; omega)
  have k5 : ∀ k, zi s1 (B 5) k = zi σ (B 5) k := fun k => nf01.i h.1 (by decide) (fun z => by unfold PMr at z; omega) k
  have k7 : ∀ k, zi s1 (B 7) k = zi σ (B 7) k := fun k => nf01.i h.1 (by decide) (fun z => by unfold PMr at z; omega) k
  have mall : zsm (fun a => ∃ i, i < 12 ∧ a = B i) σ (zuI s1 (B 0) 1 0) := (nf01.1.1.mono (fun a ⟨i, hi, _, e⟩ => ⟨i, hi, e⟩)).trans (m2.mono (fun a z => ⟨0, by decide, z⟩))
  generalize zuI s1 (B 0) 1 0 = s2 at m2 i2 i21 ja g2 mall
  rcases hr with ⟨p, y1, y2, y3⟩ | ⟨R, y1, y2, y3, y4, y5, y6, y7⟩
  · refine ⟨s2, mall, ⟨i21, by decide, fun j hj => absurd hj (Nat.not_lt_zero j)⟩, fun k => (ja 7 (by decide) (by decide) k).trans (k7 k), fun k => (ja 5 (by decide) (by decide) k).trans (k5 k), (i2 12 (by decide)).trans (f0 12 (by decide) (by decide)), Or.inl ⟨r, p, y1, by rw [if_neg y2], (i2 3 (by decide)).trans y3, ⟨(i2 7 (by decide)).trans (f0 7 (by decide) (by decide)), (i2 8 (by decide)).trans (f0 8 (by decide) (by decide)), (i2 9 (by decide)).trans (f0 9 (by decide) (by decide))⟩, fun k hk => (ja 2 (by decide) (by decide) k).trans (nf01.2.1 k hk), fun k hk => (ja 3 (by decide) (by decide) k).trans (nf01.2.2.1 k hk), fun k hk => (ja 4 (by decide) (by decide) k).trans (nf01.2.2.2 k hk)⟩⟩
  · obtain ⟨q, bf, ser, tl, hd, ab, rg, px, pk⟩ := R
    dsimp only at y6 y7
    subst y2
    have k0 : kd bf ≠ 0 := by omega
    obtain ⟨hR, f24, f29⟩ := y4.2.2.1 k0
    obtain ⟨v1, v2, v3, v4⟩ := y5.2.2.1 k0
    obtain ⟨b0, b1, b2, b4, b5, -⟩ := v1.b
    have q29 : nI (ab 5) = 0 ↔ ab 5 = 0 := nI_eq (b := 0) (by omega) (by decide)
    obtain ⟨s3, e3, m3, c0, c7, c2, c25, c3, c4⟩ := m_r40 (fi := ab 5) g2 b5 ((i2 29 (by decide)).trans f29)
    have e4 : (if (0 : Int32) ≤ 0 then oGR s2 12 (B 0) 4 (fun a1 => oGI s2 12 (B 0) 29 (fun x2 => (if x2 = 0 then fX12_read_40 s2 (B 0) 0 11 a1 else fX12_read_40 s2 (B 0) 1 11 a1))) else some ((-0 : Int32), s2)) = some (zi s2 (B 2) 10, s3) := by
      rw [if_pos (by decide), oGR_eq g2.2.1 g2.r4.2.1, oGI_eq g2.2.1 ((i2 29 (by decide)).trans f29)]
      by_cases z : ab 5 = 0
      · rw [z] at e3 ⊢
        rw [if_pos (by decide)]
        exact e3
      · have z1 : ab 5 = 1 := by omega
        rw [z1] at e3 ⊢
        rw [if_neg (by decide)]
        exact e3
    have v10 : zi s2 (B 2) 10 = nI (ab 4) := (ja 2 (by decide) (by decide) 10).trans (hR.1 4 (by decide))
    rw [v10] at e4
    refine ⟨s3, mall.trans (m3.mono (fun a z => ?_)), ⟨(c0 1 (by decide)).trans i21, by decide, fun j hj => absurd hj (Nat.not_lt_zero j)⟩, fun k => ?_, fun k => ?_, (c0 12 (by decide)).trans ((i2 12 (by decide)).trans (f0 12 (by decide) (by decide))), Or.inr ⟨q, bf, ser, tl, hd, ab, rg, px, pk, y1, e4, (c0 3 (by decide)).trans ((i2 3 (by decide)).trans y3), c7, fun k hk => ?_, fun f hf k hk => ?_, fun f hf i hi => ?_, fun h5 i hi => ?_⟩⟩
    · rcases z with z | z | z | z
      · exact ⟨0, by decide, z⟩
      · exact ⟨2, by decide, z⟩
      · exact ⟨3, by decide, z⟩
      · exact ⟨4, by decide, z⟩
    · rw [m3.i (fun z => by rcases z with z | z | z | z <;> (have := h.1.1 _ _ (by decide) (by decide) z; omega)), ja 7 (by decide) (by decide), k7]
    · rw [m3.i (fun z => by rcases z with z | z | z | z <;> (have := h.1.1 _ _ (by decide) (by decide) z; omega)), ja 5 (by decide) (by decide), k5]
    · by_cases z : k = 5
      · rw [z]; exact c25
      · rw [c2 k (by omega), ja 2 (by decide) (by decide)]
        exact hR.1 k (by omega)
    · rw [c3 _ (by omega), ja 3 (by decide) (by decide), ← Nat.add_assoc]
      exact hR.2.1 f hf k hk
    · have hf8 : f < 8 := by omega
      have hFn : Fn (kd bf) hd ab f := Or.inl ⟨hf, by omega, by omega⟩
      obtain ⟨q1, q2⟩ := hR.2.2 f hFn
      have hpd : pdN ab rg f = rg f 0 * rg f 1 := by unfold pdN; rw [if_neg (by omega)]
      have hi256 : i < 256 := Nat.lt_of_lt_of_le (by rw [hpd]; exact hi) (pdN_le v1 (Or.inl hf))
      have q3 := q2 i (by rw [hpd]; exact hi)
      rw [c4 _ (by omega)]
      by_cases z : f = 0 ∧ ab 5 = 1
      · have hs : slt ab f = 8 := by unfold slt; rw [if_pos z]
        rw [hs] at q3
        rw [if_pos ⟨z.2, by omega⟩, ja 4 (by decide) (by decide)]
        rw [show 4352 + (256 * f + i) = 2304 + 256 * 8 + i by omega]
        exact q3
      · have hs : slt ab f = f := by unfold slt; rw [if_neg z]
        rw [hs] at q3
        rw [if_neg (fun y => z (by omega)), ja 4 (by decide) (by decide), ← Nat.add_assoc]
        exact q3
    · have hFn : Fn (kd bf) hd ab 8 := Or.inr ⟨rfl, h5, y7, by omega⟩
      obtain ⟨q1, q2⟩ := hR.2.2 8 hFn
      have hpd : pdN ab rg 8 = ab 1 * ab 2 := by unfold pdN; rw [if_pos rfl]
      have hi256 : i < 256 := Nat.lt_of_lt_of_le (by rw [hpd]; exact hi) (pdN_le v1 (Or.inr rfl))
      have q3 := q2 i (by rw [hpd]; exact hi)
      have hs : slt ab 8 = 8 := by unfold slt; rw [if_neg (fun z => by omega)]
      rw [hs] at q3
      rw [c4 _ (by omega), if_neg (fun y => by omega), ja 4 (by decide) (by decide)]
      rw [show 2304 + (2048 + i) = 2304 + 256 * 8 + i by omega]
      exact q3
end PMREAD
