/-! paint, first, about, place, out: the reference's -/
section PMCALLS2
variable {σ s t : zS} {B : Nat → Nat} {ab : Nat → Nat} {rg px : Nat → Nat → Nat}
theorem m_pt145 (h : zML σ B) (hR : MR σ B ab rg px) (hw : WFr ab rg) {g : Nat} (hg : g < ab 4 ∨ (g = 8 ∧ ab 5 = 0 ∧ ab 0 = 1)) {x y c : Int32} (hx : 0 ≤ x.toInt ∧ x.toInt < (pdW ab rg g : Int)) (hy : 0 ≤ y.toInt ∧ y.toInt < (pdH ab rg g : Int)) {gg : Int32} (egg : gg = nI g) :
    ∃ s, fX12_paint_145 σ (B 0) x y c (nI (pdW ab rg g)) gg 256 (B 4) = some (1, s) ∧ zsB B PM FM σ s ∧ MR s B ab rg (pxP px g (pdW ab rg g * y.toInt.toNat + x.toInt.toNat) c.toBitVec.toNat) ∧ SCm s B 0 0 (fun _ => 0) := by
  subst egg
  have hbb := hw.b
  obtain ⟨hW, hH⟩ := pd_le hw hg
  obtain ⟨w0, w1, w2, w3⟩ := h.r6
  have ex : x = nI x.toInt.toNat := znI (by omega)
  have ey : y = nI y.toInt.toNat := znI (by omega)
  have hix : pdW ab rg g * y.toInt.toNat + x.toInt.toNat < pdW ab rg g * pdH ab rg g := by
    have q1 : pdW ab rg g * (y.toInt.toNat + 1) ≤ pdW ab rg g * pdH ab rg g := Nat.mul_le_mul_left _ (by omega)
    rw [Nat.mul_succ] at q1
    omega
  have hpd : pdW ab rg g * pdH ab rg g ≤ 16 * 16 := Nat.mul_le_mul hW hH
  have eidx : ((256 : Int32) * nI g + nI (pdW ab rg g) * y) + x = nI (256 * g + (pdW ab rg g * y.toInt.toNat + x.toInt.toNat)) := by
    conv => lhs; rw [ex, ey]
    have : (256 : Int32) * nI g = nI (256 * g) := pk_mul 256 g
    rw [this, pk_mul, nI_add, nI_add, Nat.add_assoc]
  generalize hii : pdW ab rg g * y.toInt.toNat + x.toInt.toNat = ii at *
  have h1 : zML (zuI σ (B 4) (256 * g + ii) c) B := h.u
  refine ⟨zuI (zuI σ (B 4) (256 * g + ii) c) (B 0) 7 0, ?_, (zsB.rf.uI h (by decide) (Or.inr (Or.inr (Or.inr rfl))) (by decide)).u0 (Or.inl rfl) (Or.inr rfl), ?_, SCm.forget⟩
  · unfold fX12_paint_145
    rw [eidx, oSt_eq w2 (by rw [w3]; omega) (by omega), oPZ_eq h1.2.1 (Or.inl rfl)]
  · have n4 : ∀ k, zi (zuI (zuI σ (B 4) (256 * g + ii) c) (B 0) 7 0) (B 4) k = if k = 256 * g + ii then c else zi σ (B 4) k := fun k => by
      rw [zi_uI, if_neg (fun z => absurd z.1 (h.ne 4 0)), zi_uI]
      by_cases q : k = 256 * g + ii
      · rw [if_pos ⟨rfl, q⟩, if_pos q]
      · rw [if_neg (fun z => q z.2), if_neg q]
    have n2 : ∀ k, zi (zuI (zuI σ (B 4) (256 * g + ii) c) (B 0) 7 0) (B 2) k = zi σ (B 2) k := fun k => by
      rw [zi_uI, if_neg (fun z => absurd z.1 (h.ne 2 0)), zi_uI, if_neg (fun z => absurd z.1 (h.ne 2 4))]
    have n3 : ∀ k, zi (zuI (zuI σ (B 4) (256 * g + ii) c) (B 0) 7 0) (B 3) k = zi σ (B 3) k := fun k => by
      rw [zi_uI, if_neg (fun z => absurd z.1 (h.ne 3 0)), zi_uI, if_neg (fun z => absurd z.1 (h.ne 3 4))]
    refine ⟨fun k hk => (n2 k).trans (hR.1 k hk), fun f hf k hk => (n3 _).trans (hR.2.1 f hf k hk), fun f hf i hi => ?_, fun h5 i hi => ?_⟩
    · have hb256 := ((hw.rgn hf).b (by omega) (by omega)).2.2.2.2.2.2
      rw [n4]
      unfold pxP
      by_cases q : f = g ∧ i = ii
      · rw [if_pos (by rw [q.1, q.2]), if_pos q]; exact zof c
      · rw [if_neg q, if_neg (by omega)]
        exact hR.2.2.1 f hf i hi
    · have : ab 1 * ab 2 ≤ 16 * 16 := Nat.mul_le_mul (by omega) (by omega)
      rw [n4]
      unfold pxP
      by_cases q : 8 = g ∧ i = ii
      · rw [if_pos (by rw [← q.1, q.2]), if_pos q]; exact zof c
      · rw [if_neg q, if_neg (by omega)]
        exact hR.2.2.2 h5 i hi
theorem m_paint (h : zML σ B) (hR : MR σ B ab rg px) (hw : WFr ab rg) (f x y c : Int32) :
    ∃ s, (pnt ab f = none ∧ fX12_paint σ (B 0) f x y c = some (-11, s) ∧ s = zuI σ (B 0) 0 0) ∨ (∃ g, pnt ab f = some g ∧ ((¬ (0 ≤ x.toInt ∧ x.toInt < (pdW ab rg g : Int) ∧ 0 ≤ y.toInt ∧ y.toInt < (pdH ab rg g : Int)) ∧ fX12_paint σ (B 0) f x y c = some (-12, s) ∧ s = zuI σ (B 0) 0 0) ∨
      ((0 ≤ x.toInt ∧ x.toInt < (pdW ab rg g : Int) ∧ 0 ≤ y.toInt ∧ y.toInt < (pdH ab rg g : Int)) ∧ fX12_paint σ (B 0) f x y c = some (1, s) ∧ zsB B PM FM σ s ∧ MR s B ab rg (pxP px g (pdW ab rg g * y.toInt.toNat + x.toInt.toNat) c.toBitVec.toNat) ∧ SCm s B 0 0 (fun _ => 0)))) := by
  have hbb := hw.b
  have hR1 := hR.u0 h (k := 0) (v := 0)
  have h1 : zML (zuI σ (B 0) 0 0) B := h.u
  have z1 : zsB B PM FM σ (zuI σ (B 0) 0 0) := zsB.rf.u0 (Or.inl rfl) (Or.inl rfl)
  unfold fX12_paint
  rw [oPI_eq h.2.1]
  generalize zuI σ (B 0) 0 0 = s1 at *
  have e0 : nI (ab 0) = 1 ↔ ab 0 = 1 := nI_eq (b := 1) (by omega) (by decide)
  have e5 : nI (ab 5) = 0 ↔ ab 5 = 0 := nI_eq (b := 0) (by omega) (by decide)
  have em : f = -1 ↔ f.toInt = -1 := by rw [zeq]; rfl
  have t4 : (nI (ab 4)).toInt = (ab 4 : Int) := zt_nI (by omega)
  have r6 : zr s1 (B 0) 6 = some (B 4) := h1.r6.2.1
  -- the bounds
  have h102 : ∀ (g : Nat) (own gg hh0 : Int32), (g < ab 4 ∨ (g = 8 ∧ ab 5 = 0 ∧ ab 0 = 1)) → ((own = 0 ∧ f = nI g) ∨ (own = 1 ∧ g = 8)) → hh0 = nI (pdH ab rg g) → ∃ s, (¬ (0 ≤ x.toInt ∧ x.toInt < (pdW ab rg g : Int) ∧ 0 ≤ y.toInt ∧ y.toInt < (pdH ab rg g : Int)) ∧ fX12_paint_102 s1 (B 0) f x y c own (nI (pdW ab rg g)) hh0 = some (-12, s) ∧ s = s1) ∨ ((0 ≤ x.toInt ∧ x.toInt < (pdW ab rg g : Int) ∧ 0 ≤ y.toInt ∧ y.toInt < (pdH ab rg g : Int)) ∧ fX12_paint_102 s1 (B 0) f x y c own (nI (pdW ab rg g)) hh0 = some (1, s) ∧ zsB B PM FM σ s ∧ MR s B ab rg (pxP px g (pdW ab rg g * y.toInt.toNat + x.toInt.toNat) c.toBitVec.toNat) ∧ SCm s B 0 0 (fun _ => 0)) := fun g own gg hh0 hg ho ehh => by
    subst ehh
    obtain ⟨hW, hH⟩ := pd_le hw hg
    have tW : (nI (pdW ab rg g)).toInt = (pdW ab rg g : Int) := zt_nI (by omega)
    have tH : (nI (pdH ab rg g)).toInt = (pdH ab rg g : Int) := zt_nI (by omega)
    unfold fX12_paint_102
    by_cases d1 : x < 0
    · exact ⟨s1, Or.inl ⟨by rw [zlt, zt0'] at d1; omega, by rw [if_pos d1], rfl⟩⟩
    · rw [if_neg d1]
      rw [zlt, zt0'] at d1
      by_cases d2 : nI (pdW ab rg g) ≤ x
      · exact ⟨s1, Or.inl ⟨by rw [zle, tW] at d2; omega, by rw [if_pos d2], rfl⟩⟩
      · rw [if_neg d2]
        rw [zle, tW] at d2
        by_cases d3 : y < 0
        · exact ⟨s1, Or.inl ⟨by rw [zlt, zt0'] at d3; omega, by rw [if_pos d3], rfl⟩⟩
        · rw [if_neg d3]
          rw [zlt, zt0'] at d3
          by_cases d4 : y < nI (pdH ab rg g)
          · rw [if_pos d4, oGR_eq h1.2.1 r6]
            rw [zlt, tH] at d4
            rcases ho with ⟨o1, o2⟩ | ⟨o1, o2⟩
            · rw [if_pos o1]
              obtain ⟨s, e, p1, p2, p3⟩ := m_pt145 (x := x) (y := y) (c := c) h1 hR1 hw hg (by omega) (by omega) o2
              exact ⟨s, Or.inr ⟨by omega, e, z1.trans p1, p2, p3⟩⟩
            · rw [if_neg (by rw [o1]; decide)]
              obtain ⟨s, e, p1, p2, p3⟩ := m_pt145 (x := x) (y := y) (c := c) (gg := 8) h1 hR1 hw hg (by omega) (by omega) (by rw [o2]; rfl)
              exact ⟨s, Or.inr ⟨by omega, e, z1.trans p1, p2, p3⟩⟩
          · exact ⟨s1, Or.inl ⟨by rw [zlt, tH] at d4; omega, by rw [if_neg d4], rfl⟩⟩
  have h33 : (¬ (f.toInt = -1 ∧ ab 0 = 1 ∧ ab 5 = 0)) → ∃ s, (pnt ab f = none ∧ fX12_paint_33 s1 (B 0) f x y c = some (-11, s) ∧ s = s1) ∨ (∃ g, pnt ab f = some g ∧ ((¬ (0 ≤ x.toInt ∧ x.toInt < (pdW ab rg g : Int) ∧ 0 ≤ y.toInt ∧ y.toInt < (pdH ab rg g : Int)) ∧ fX12_paint_33 s1 (B 0) f x y c = some (-12, s) ∧ s = s1) ∨ ((0 ≤ x.toInt ∧ x.toInt < (pdW ab rg g : Int) ∧ 0 ≤ y.toInt ∧ y.toInt < (pdH ab rg g : Int)) ∧ fX12_paint_33 s1 (B 0) f x y c = some (1, s) ∧ zsB B PM FM σ s ∧ MR s B ab rg (pxP px g (pdW ab rg g * y.toInt.toNat + x.toInt.toNat) c.toBitVec.toNat) ∧ SCm s B 0 0 (fun _ => 0)))) := fun hno => by
    unfold fX12_paint_33 fX12_paint_34
    rw [if_pos rfl]
    by_cases d1 : f < 0
    · rw [if_pos d1]
      rw [zlt, zt0'] at d1
      exact ⟨s1, Or.inl ⟨by unfold pnt; rw [if_neg (by omega), if_neg hno], rfl, rfl⟩⟩
    · rw [if_neg d1, zAB h1 (kk := 4) (k := 4) (by decide) rfl (hR1.1 4 (by decide))]
      rw [zlt, zt0'] at d1
      by_cases d2 : f < nI (ab 4)
      · rw [if_pos d2]
        rw [zlt, t4] at d2
        have hf : f = nI f.toInt.toNat := znI (by omega)
        have hfl : f.toInt.toNat < ab 4 := by omega
        have hp : pnt ab f = some f.toInt.toNat := by unfold pnt; rw [if_pos (by omega)]
        have q0 := m_reg0 (k := 0) h1 hR1 hfl (by omega) (by decide)
        have q1 := m_reg0 (k := 1) h1 hR1 hfl (by omega) (by decide)
        rw [← hf] at q0 q1
        have eW : pdW ab rg f.toInt.toNat = rg f.toInt.toNat 0 := by unfold pdW; rw [if_neg (by omega)]
        have eH : pdH ab rg f.toInt.toNat = rg f.toInt.toNat 1 := by unfold pdH; rw [if_neg (by omega)]
        rw [← eW] at q0
        rw [← eH] at q1
        have q0' : fX12_region s1 (B 0) 0 f 0 = some (nI (pdW ab rg f.toInt.toNat)) := q0
        have q1' : fX12_region s1 (B 0) 0 f 1 = some (nI (pdH ab rg f.toInt.toNat)) := q1
        obtain ⟨s, hs⟩ := h102 f.toInt.toNat 0 0 _ (Or.inl hfl) (Or.inl ⟨rfl, hf⟩) rfl
        refine ⟨s, Or.inr ⟨f.toInt.toNat, hp, ?_⟩⟩
        unfold fX12_paint_58 fX12_paint_79
        rw [if_pos rfl, oA_eq h1.2.1, oB_eq q0', if_pos rfl, oA_eq h1.2.1, oB_eq q1']
        exact hs
      · rw [if_neg d2]
        rw [zlt, t4] at d2
        exact ⟨s1, Or.inl ⟨by unfold pnt; rw [if_neg (by omega), if_neg hno], rfl, rfl⟩⟩
  by_cases d0 : f.toInt = -1
  · rw [if_pos (em.mpr d0), zAB h1 (kk := 0) (k := 0) (by decide) rfl (hR1.1 0 (by decide))]
    by_cases d1 : ab 0 = 1
    · rw [if_pos (e0.mpr d1), zAB h1 (kk := 5) (k := 5) (by decide) rfl (hR1.1 5 (by decide))]
      by_cases d2 : ab 5 = 0
      · rw [if_pos (e5.mpr d2)]
        have hp : pnt ab f = some 8 := by unfold pnt; rw [if_neg (by omega), if_pos ⟨d0, d1, d2⟩]
        obtain ⟨s, hs⟩ := h102 8 1 0 _ (Or.inr ⟨rfl, d2, d1⟩) (Or.inr ⟨rfl, rfl⟩) rfl
        refine ⟨s, Or.inr ⟨8, hp, ?_⟩⟩
        have eW : pdW ab rg 8 = ab 1 := rfl
        have eH : pdH ab rg 8 = ab 2 := rfl
        unfold fX12_paint_34 fX12_paint_58 fX12_paint_79
        rw [if_neg (by decide), if_neg (by decide), zAB h1 (kk := 1) (k := 1) (by decide) rfl (hR1.1 1 (by decide)), if_neg (by decide), zAB h1 (kk := 2) (k := 2) (by decide) rfl (hR1.1 2 (by decide))]
        exact hs
      · rw [if_neg (fun z => d2 (e5.mp z))]
        exact h33 (fun z => d2 z.2.2)
    · rw [if_neg (fun z => d1 (e0.mp z))]
      exact h33 (fun z => d1 z.2.1)
  · rw [if_neg (fun z => d0 (em.mp z))]
    exact h33 (fun z => d0 z.1)
theorem m_first (h : zML σ B) (hR : MR σ B ab rg px) (hw : WFr ab rg) {v : Nat} (hv : v ≤ 1) :
    ∃ s, ((ab 0 = 0 ∨ (v = 1 ∧ ¬ fcan ab rg)) ∧ fX12_first σ (B 0) (nI v) = some (-13, s) ∧ s = zuI σ (B 0) 0 0) ∨ (¬ (ab 0 = 0 ∨ (v = 1 ∧ ¬ fcan ab rg)) ∧ ab 5 = v ∧ fX12_first σ (B 0) (nI v) = some (0, s) ∧ s = zuI σ (B 0) 0 0) ∨
      (¬ (ab 0 = 0 ∨ (v = 1 ∧ ¬ fcan ab rg)) ∧ ab 5 ≠ v ∧ fX12_first σ (B 0) (nI v) = some (1, s) ∧ zsB B PM FM σ s ∧ MR s B (abU ab v) rg (pxW px 8) ∧ SCm s B 0 0 (fun _ => 0)) := by
  have hbb := hw.b
  have hR1 := hR.u0 h (k := 0) (v := 0)
  have h1 : zML (zuI σ (B 0) 0 0) B := h.u
  have z1 : zsB B PM FM σ (zuI σ (B 0) 0 0) := zsB.rf.u0 (Or.inl rfl) (Or.inl rfl)
  unfold fX12_first
  rw [oPI_eq h.2.1]
  generalize zuI σ (B 0) 0 0 = s1 at *
  have e0 : nI (ab 0) = 0 ↔ ab 0 = 0 := nI_eq (b := 0) (by omega) (by decide)
  have ev : nI v = 0 ↔ v = 0 := nI_eq (b := 0) (by omega) (by decide)
  have e51 : nI (ab 5) = 1 ↔ ab 5 = 1 := nI_eq (b := 1) (by omega) (by decide)
  have h62 : (¬ (ab 0 = 0 ∨ (v = 1 ∧ ¬ fcan ab rg))) → ∃ s, (¬ (ab 0 = 0 ∨ (v = 1 ∧ ¬ fcan ab rg)) ∧ ab 5 = v ∧ fX12_first_62 s1 (B 0) (nI v) = some (0, s) ∧ s = s1) ∨
      (¬ (ab 0 = 0 ∨ (v = 1 ∧ ¬ fcan ab rg)) ∧ ab 5 ≠ v ∧ fX12_first_62 s1 (B 0) (nI v) = some (1, s) ∧ zsB B PM FM σ s ∧ MR s B (abU ab v) rg (pxW px 8) ∧ SCm s B 0 0 (fun _ => 0)) := fun hok => by
    have h77 : fX12_first_62 s1 (B 0) (nI v) = fX12_first_77 s1 (B 0) (nI v) (nI (ab 5)) := by
      unfold fX12_first_62
      rw [zAB h1 (kk := 5) (k := 5) (by decide) rfl (hR1.1 5 (by decide))]
      by_cases q : ab 5 = 1
      · rw [if_pos (e51.mpr q), q]; rfl
      · rw [if_neg (fun z => q (e51.mp z)), show ab 5 = 0 by omega]; rfl
    rw [h77]
    unfold fX12_first_77
    have e5v : nI (ab 5) = nI v ↔ ab 5 = v := nI_eq (by omega) (by omega)
    by_cases d1 : ab 5 = v
    · rw [if_pos (e5v.mpr d1)]
      exact ⟨s1, Or.inl ⟨hok, d1, rfl, rfl⟩⟩
    · rw [if_neg (fun z => d1 (e5v.mp z))]
      obtain ⟨w0, w1, w2, w3⟩ := h1.r4
      have l2 : ∀ (u : Int32) (f : zS → Option (Int32 × zS)), oSt s1 21 (B 2) 5 u f = f (zuI s1 (B 2) 5 u) := fun u f => oSt_eq (n := 5) w2 (by rw [w3]; decide) (by decide)
      have h97 : ∀ u : Int32, u = nI v → ∃ s, fX12_first_97 s1 (B 0) u 5 (B 2) = some (1, s) ∧ zsB B PM FM σ s ∧ MR s B (abU ab v) rg (pxW px 8) ∧ SCm s B 0 0 (fun _ => 0) := fun u hu => by
        subst hu
        have h2 : zML (zuI s1 (B 2) 5 (nI v)) B := h1.u
        obtain ⟨s3, e3, m3, q3, r3⟩ := m_wipe h2 (g := 8) (by decide)
        have e3' : fX12_wipe (zuI s1 (B 2) 5 (nI v)) (B 0) 8 = some s3 := e3
        have h3 := h2.of m3
        have z3 : zsB B PM FM (zuI s1 (B 2) 5 (nI v)) s3 := zsB.of1 h2 (by decide) (Or.inr (Or.inr (Or.inr rfl))) (by decide) m3
        have z2 : zsB B PM FM s1 (zuI s1 (B 2) 5 (nI v)) := zsB.rf.uI h1 (by decide) (Or.inr (Or.inl rfl)) (by decide)
        refine ⟨zuI s3 (B 0) 7 0, ?_, ((z1.trans z2).trans z3).u0 (Or.inl rfl) (Or.inr rfl), ?_, SCm.forget⟩
        · unfold fX12_first_97
          rw [l2, oA_eq h2.2.1, oB_eq e3', oPZ_eq h3.2.1 (Or.inl rfl)]
        · have n2 : ∀ k, zi (zuI s3 (B 0) 7 0) (B 2) k = if k = 5 then nI v else zi s1 (B 2) k := fun k => by
            rw [zi_uI, if_neg (fun z => absurd z.1 (h.ne 2 0)), m3.i (h.ne 2 4), zi_uI]
            by_cases q : k = 5
            · rw [if_pos ⟨rfl, q⟩, if_pos q]
            · rw [if_neg (fun z => q z.2), if_neg q]
          have n3 : ∀ k, zi (zuI s3 (B 0) 7 0) (B 3) k = zi s1 (B 3) k := fun k => by
            rw [zi_uI, if_neg (fun z => absurd z.1 (h.ne 3 0)), m3.i (h.ne 3 4), zi_uI, if_neg (fun z => absurd z.1 (h.ne 3 2))]
          have n4 : ∀ k, zi (zuI s3 (B 0) 7 0) (B 4) k = zi s3 (B 4) k := fun k => by rw [zi_uI, if_neg (fun z => absurd z.1 (h.ne 4 0))]
          have n4' : ∀ k, zi (zuI s1 (B 2) 5 (nI v)) (B 4) k = zi s1 (B 4) k := fun k => by rw [zi_uI, if_neg (fun z => absurd z.1 (h.ne 4 2))]
          have en : ∀ k, k ≠ 5 → abU ab v k = ab k := fun k hk => by unfold abU; rw [if_neg hk]
          refine ⟨fun k hk => ?_, fun f hf k hk => (n3 _).trans (hR1.2.1 f hf k hk), fun f hf i hi => ?_, fun h5 i hi => ?_⟩
          · rw [n2]
            by_cases q : k = 5
            · rw [if_pos q, q]; rfl
            · rw [if_neg q, en k q]; exact hR1.1 k hk
          · have hf' : f < ab 4 := hf
            have hb256 := ((hw.rgn hf').b (by omega) (by omega)).2.2.2.2.2.2
            unfold pxW
            rw [n4, if_neg (by omega), r3 _ (by omega), n4']
            exact hR1.2.2.1 f hf i hi
          · have hi' : i < ab 1 * ab 2 := hi
            have : ab 1 * ab 2 ≤ 16 * 16 := Nat.mul_le_mul (by omega) (by omega)
            unfold pxW
            rw [n4, if_pos rfl]
            exact q3 i (by omega)
      rw [oGR_eq w0 w1]
      by_cases d2 : v = 0
      · rw [if_pos (ev.mpr d2)]
        obtain ⟨s, e, p⟩ := h97 0 (by rw [d2]; rfl)
        exact ⟨s, Or.inr ⟨hok, d1, e, p⟩⟩
      · rw [if_neg (fun z => d2 (ev.mp z))]
        obtain ⟨s, e, p⟩ := h97 1 (by rw [show v = 1 by omega]; rfl)
        exact ⟨s, Or.inr ⟨hok, d1, e, p⟩⟩
  rw [zAB h1 (kk := 0) (k := 0) (by decide) rfl (hR1.1 0 (by decide))]
  by_cases d0 : ab 0 = 0
  · rw [if_pos (e0.mpr d0)]
    exact ⟨s1, Or.inl ⟨Or.inl d0, rfl, rfl⟩⟩
  · rw [if_neg (fun z => d0 (e0.mp z))]
    by_cases d1 : v = 0
    · rw [if_pos (ev.mpr d1)]
      obtain ⟨s, hs⟩ := h62 (by omega)
      exact ⟨s, Or.inr hs⟩
    · have e4 : nI (ab 4) = 0 ↔ ab 4 = 0 := nI_eq (b := 0) (by omega) (by decide)
      rw [if_neg (fun z => d1 (ev.mp z)), zAB h1 (kk := 4) (k := 4) (by decide) rfl (hR1.1 4 (by decide))]
      by_cases d2 : ab 4 = 0
      · rw [if_pos (e4.mpr d2)]
        exact ⟨s1, Or.inl ⟨Or.inr ⟨by omega, fun z => by have := z.1; omega⟩, rfl, rfl⟩⟩
      · obtain ⟨w16, h16⟩ := hw.g0 (by omega)
        have q0 : fX12_region s1 (B 0) 0 0 0 = some (nI (rg 0 0)) := m_reg0 (f := 0) (k := 0) h1 hR1 (by omega) (by decide) (by decide)
        have q1 : fX12_region s1 (B 0) 0 0 1 = some (nI (rg 0 1)) := m_reg0 (f := 0) (k := 1) h1 hR1 (by omega) (by decide) (by decide)
        have c1 : nI (rg 0 0) = nI (ab 1) ↔ rg 0 0 = ab 1 := nI_eq (by omega) (by omega)
        have c2 : nI (rg 0 1) = nI (ab 2) ↔ rg 0 1 = ab 2 := nI_eq (by omega) (by omega)
        rw [if_neg (fun z => d2 (e4.mp z)), oA_eq h1.2.1, oB_eq q0, zAB h1 (kk := 1) (k := 1) (by decide) rfl (hR1.1 1 (by decide))]
        by_cases d3 : rg 0 0 = ab 1
        · rw [if_pos (c1.mpr d3), oA_eq h1.2.1, oB_eq q1, zAB h1 (kk := 2) (k := 2) (by decide) rfl (hR1.1 2 (by decide))]
          by_cases d4 : rg 0 1 = ab 2
          · rw [if_pos (c2.mpr d4)]
            obtain ⟨s, hs⟩ := h62 (fun z => z.elim d0 (fun z => z.2 ⟨by omega, d3, d4⟩))
            exact ⟨s, Or.inr hs⟩
          · rw [if_neg (fun z => d4 (c2.mp z))]
            exact ⟨s1, Or.inl ⟨Or.inr ⟨by omega, fun z => d4 z.2.2⟩, rfl, rfl⟩⟩
        · rw [if_neg (fun z => d3 (c1.mp z))]
          exact ⟨s1, Or.inl ⟨Or.inr ⟨by omega, fun z => d3 z.2.1⟩, rfl, rfl⟩⟩
theorem m_about (h : zML σ B) (hR : MR σ B ab rg px) (hw : WFr ab rg) (p i : Int32) : fX12_about σ (B 0) p i = some (aboutS ab rg p i, zuI σ (B 0) 0 0) := by
  have hbb := hw.b
  have hR1 := hR.u0 h (k := 0) (v := 0)
  have h1 : zML (zuI σ (B 0) 0 0) B := h.u
  unfold fX12_about fX12_about_111 aboutS
  rw [oPI_eq h.2.1]
  generalize zuI σ (B 0) 0 0 = s1 at *
  have e0 : nI (ab 0) = 0 ↔ ab 0 = 0 := nI_eq (b := 0) (by omega) (by decide)
  have t10 : (10 : Int32).toInt = 10 := by decide
  have t5 : (5 : Int32).toInt = 5 := by decide
  have t4 : (nI (ab 4)).toInt = (ab 4 : Int) := zt_nI (by omega)
  rw [zAB h1 (kk := 0) (k := 0) (by decide) rfl (hR1.1 0 (by decide))]
  by_cases d0 : ab 0 = 0
  · rw [if_pos (e0.mpr d0), if_pos d0]
  · rw [if_neg (fun z => d0 (e0.mp z)), if_neg d0]
    by_cases d1 : p < 0
    · rw [if_pos d1, if_pos (by rw [zlt, zt0'] at d1; omega)]
    · rw [if_neg d1]
      rw [zlt, zt0'] at d1
      by_cases d2 : p ≤ 10
      · rw [if_pos d2]
        rw [zle, t10] at d2
        rw [if_neg (show ¬ (p.toInt < 0 ∨ 10 < p.toInt) by omega)]
        have epk : ∀ k : Nat, k < 1000 → (p = nI k ↔ p.toInt = (k : Int)) := fun k hk => by
          rw [zeq, zt_nI (by omega)]
        by_cases d3 : 5 ≤ p
        · rw [if_pos d3]
          rw [zle, t5] at d3
          rw [if_neg (show ¬ p.toInt ≤ 4 by omega)]
          by_cases d4 : i < 0
          · rw [if_pos d4, if_neg (by rw [zlt, zt0'] at d4; omega)]
          · rw [if_neg d4, zAB h1 (kk := 4) (k := 4) (by decide) rfl (hR1.1 4 (by decide))]
            rw [zlt, zt0'] at d4
            by_cases d5 : i < nI (ab 4)
            · rw [if_pos d5]
              rw [zlt, t4] at d5
              rw [if_pos (by omega), oA_eq h1.2.1]
              have hf : i = nI i.toInt.toNat := znI (by omega)
              have hp : p = nI p.toInt.toNat := znI (by omega)
              have hp5 : p - 5 = nI (p.toInt.toNat - 5) := by
                conv => lhs; rw [hp]
                exact pk_sub (b := 5) (by omega)
              have q := m_reg0 (f := i.toInt.toNat) (k := p.toInt.toNat - 5) h1 hR1 (by omega) (by omega) (by omega)
              rw [← hf, ← hp5] at q
              rw [oB_eq q]
            · rw [if_neg d5]
              rw [zlt, t4] at d5
              rw [if_neg (by omega)]
        · rw [if_neg d3]
          rw [zle, t5] at d3
          rw [if_pos (show p.toInt ≤ 4 by omega), zAB h1 (kk := 1) (k := 1) (by decide) rfl (hR1.1 1 (by decide)), zAB h1 (kk := 2) (k := 2) (by decide) rfl (hR1.1 2 (by decide)), zAB h1 (kk := 4) (k := 4) (by decide) rfl (hR1.1 4 (by decide)), zAB h1 (kk := 3) (k := 3) (by decide) rfl (hR1.1 3 (by decide)), zAB h1 (kk := 5) (k := 5) (by decide) rfl (hR1.1 5 (by decide))]
          have q0 : p = 0 ↔ p.toInt = 0 := epk 0 (by decide)
          have q1 : p = 1 ↔ p.toInt = 1 := epk 1 (by decide)
          have q2 : p = 2 ↔ p.toInt = 2 := epk 2 (by decide)
          have q3 : p = 3 ↔ p.toInt = 3 := epk 3 (by decide)
          simp only [q0, q1, q2, q3]
          rcases (show p.toInt = 0 ∨ p.toInt = 1 ∨ p.toInt = 2 ∨ p.toInt = 3 ∨ p.toInt = 4 by omega) with z | z | z | z | z <;> rw [z] <;> rfl
      · rw [if_neg d2, if_pos (by rw [zle, t10] at d2; omega)]
/-- what was written -/
def OUm (σ : zS) (B : Nat → Nat) (o : List Nat) : Prop := zi σ (B 0) 12 = nI o.length ∧ o.length ≤ 14000 ∧ ∀ j, j < o.length → zby σ (B 7) j = o.getD j 0
theorem m_out {o : List Nat} (h : zML σ B) (ho : OUm σ B o) (i : Int32) : fX12_out σ (B 0) i = some (outS o i, zuI σ (B 0) 0 0) := by
  obtain ⟨l0, l1, -, -, -, -, -, -, l8, -, -, -, -, -, -, -, -, -, -, ⟨k7, n7⟩, -⟩ := id h
  have hl := ho.2.1
  have i12 : zi (zuI σ (B 0) 0 0) (B 0) 12 = nI o.length := by rw [zi_uI, if_neg (by omega)]; exact ho.1
  have t : (nI o.length).toInt = (o.length : Int) := zt_nI (by omega)
  unfold fX12_out fX12_out_17 outS
  rw [oPI_eq l1]
  by_cases d1 : i < 0
  · rw [if_pos d1, if_neg (by rw [zlt, zt0'] at d1; omega)]
  · rw [if_neg d1, oGI_eq (by exact l1) i12]
    rw [zlt, zt0'] at d1
    by_cases d2 : i < nI o.length
    · rw [if_pos d2]
      rw [zlt, t] at d2
      have hf : i = nI i.toInt.toNat := znI (by omega)
      have ld : ∀ f : Int32 → Option (Int32 × zS), oLd (zuI σ (B 0) 0 0) 20 (B 7) i f = f (zi σ (B 7) i.toInt.toNat) := fun f => by
        conv => lhs; rw [hf]
        exact oLd_eq (by exact k7) (by rw [zn_uI, n7]; omega) (by omega) (by rw [zi_uI, if_neg (fun z => absurd z.1 (h.ne 7 0))])
      rw [oGR_eq (by exact l1) (by exact l8), ld, zby_and, ho.2.2 _ (by omega), if_pos (by omega)]
    · rw [if_neg d2]
      rw [zlt, t] at d2
      rw [if_neg (by omega)]
end PMCALLS2
