/-! the reference's dispose, show and pixel -/
section PMSHOW
variable {σ s t : zS} {B : Nat → Nat} {ab : Nat → Nat} {rg px : Nat → Nat → Nat}
/-- a region of the canvas made 0, or as it was before -/
theorem m_disL (h : zML σ B) (hR : MR σ B ab rg px) (hw : WFr ab rg) (h8 : zi σ (B 0) 8 = nI (ab 1)) {g how : Nat} (hg : g < ab 4) (hh : 1 ≤ how ∧ how ≤ 2) {cv bf : Nat → Nat} (hcv : zCV σ (B 5) cv) (hbf : zCV σ (B 6) bf) : ∃ s, zloop zF (fun x => bX12_dispose_47 (B 0) (nI g) (nI (rg g 0)) (nI (rg g 1)) (nI how) x.1 x.2) (0, σ) = some s ∧ zsm (fun a => a = B 5) σ s ∧ zCV s (B 5) (if how = 1 then zrS (ab 1) (rg g) cv (rg g 0 * rg g 1) else rsS (ab 1) (rg g) bf cv (rg g 0 * rg g 1)) := by
  have hbb := hw.b
  have hr := hw.rgn hg
  have hb := hr.b (by omega) (by omega)
  obtain ⟨s, e, p1, p2⟩ := zloop_cnt (body := fun x => bX12_dispose_47 (B 0) (nI g) (nI (rg g 0)) (nI (rg g 1)) (nI how) x.1 x.2) (fun i x => x.1 = nI i ∧ zsm (fun a => a = B 5) σ x.2 ∧ zCV x.2 (B 5) (if how = 1 then zrS (ab 1) (rg g) cv i else rsS (ab 1) (rg g) bf cv i)) (rg g 0 * rg g 1) (fun s => zsm (fun a => a = B 5) σ s ∧ zCV s (B 5) (if how = 1 then zrS (ab 1) (rg g) cv (rg g 0 * rg g 1) else rsS (ab 1) (rg g) bf cv (rg g 0 * rg g 1)))
    (fun i x hi hx => by
      obtain ⟨k, s⟩ := x
      obtain ⟨x1, x2, x3⟩ := hx
      dsimp only at x1 x2 x3
      subst x1
      have hs := h.of x2
      have hRs := hR.of (s := s) (fun k => x2.i (h.ne 2 5) k) (fun k => x2.i (h.ne 3 5) k) (fun k => x2.i (h.ne 4 5) k)
      have h8s : zi s (B 0) 8 = nI (ab 1) := (x2.i (h.ne 0 5) 8).trans h8
      obtain ⟨eto, hlt, hne⟩ := m_to hs hRs hw hg hi
      have c1 : ¬ nI (rg g 0 * rg g 1) ≤ nI i := by rw [nI_leI (by omega) (by omega)]; omega
      have c2 : ¬ nI how ≤ 0 := fun z => by
        have := (nI_leI (a := how) (b := 0) (by omega) (by decide)).mp z
        omega
      have r2 : fX12_region s (B 0) 0 (nI g) 2 = some (nI (rg g 2)) := m_reg0 (k := 2) hs hRs hg (by omega) (by decide)
      have r3 : fX12_region s (B 0) 0 (nI g) 3 = some (nI (rg g 3)) := m_reg0 (k := 3) hs hRs hg (by omega) (by decide)
      obtain ⟨cr, br, ⟨k5, n5⟩, ⟨k6, n6⟩⟩ := hs.cv
      have hbt : zi s (B 6) (toS (ab 1) (rg g) i) = nI (bf (toS (ab 1) (rg g) i)) := (x2.i (h.ne 6 5) _).trans (hbf _ hlt)
      have e1 : nI how = 1 ↔ how = 1 := nI_eq (b := 1) (by omega) (by decide)
      have hpre : bX12_dispose_47 (B 0) (nI g) (nI (rg g 0)) (nI (rg g 1)) (nI how) (nI i) s = (if nI how = 1 then fX12_dispose_115 s (B 0) (nI g) (nI (rg g 0)) (nI (rg g 1)) (nI how) (nI i) 0 (nI (toS (ab 1) (rg g) i)) (B 5) else fX12_dispose_115 s (B 0) (nI g) (nI (rg g 0)) (nI (rg g 1)) (nI how) (nI i) (nI (bf (toS (ab 1) (rg g) i))) (nI (toS (ab 1) (rg g) i)) (B 5)) := by
        unfold bX12_dispose_47
        rw [pk_mul, if_neg c1, if_neg c2, oGI_eq hs.2.1 h8s, oA_eq hs.2.1, oB_eq r3, oA_eq hne, oA_eq hs.2.1, oB_eq r2, oA_eq hne, oL_eq, eto, oGR_eq hs.2.1 cr, oGR_eq hs.2.1 br, oLd_eq k6 (by rw [n6]; exact hlt) (by omega) hbt]
      have h115 : ∀ v : Int32, fX12_dispose_115 s (B 0) (nI g) (nI (rg g 0)) (nI (rg g 1)) (nI how) (nI i) v (nI (toS (ab 1) (rg g) i)) (B 5) = some (.inl (nI (i + 1), zuI s (B 5) (toS (ab 1) (rg g) i) v)) := fun v => by
        unfold fX12_dispose_115
        rw [oSt_eq k5 (by rw [n5]; exact hlt) (by omega), oL_eq, nI_1]
      by_cases d : how = 1
      · rw [if_pos d] at x3
        rw [if_pos (e1.mpr d), h115] at hpre
        refine Or.inl ⟨_, hpre, rfl, x2.uI rfl, fun t ht => ?_⟩
        show zi (zuI s (B 5) _ _) (B 5) t = _
        rw [if_pos d, zi_uI, zrS]
        unfold va_up
        by_cases q : t = toS (ab 1) (rg g) i
        · rw [if_pos ⟨rfl, q⟩, if_pos q]; rfl
        · rw [if_neg (fun z => q z.2), if_neg q]; exact x3 t ht
      · rw [if_neg d] at x3
        rw [if_neg (fun z => d (e1.mp z)), h115] at hpre
        refine Or.inl ⟨_, hpre, rfl, x2.uI rfl, fun t ht => ?_⟩
        show zi (zuI s (B 5) _ _) (B 5) t = _
        rw [if_neg d, zi_uI, rsS]
        unfold va_up
        by_cases q : t = toS (ab 1) (rg g) i
        · rw [if_pos ⟨rfl, q⟩, if_pos q]
        · rw [if_neg (fun z => q z.2), if_neg q]; exact x3 t ht)
    (fun x hx => by
      obtain ⟨k, s⟩ := x
      obtain ⟨x1, x2, x3⟩ := hx
      dsimp only at x1 x2 x3
      subst x1
      refine ⟨s, ?_, x2, x3⟩
      show bX12_dispose_47 (B 0) (nI g) (nI (rg g 0)) (nI (rg g 1)) (nI how) (nI (rg g 0 * rg g 1)) s = _
      unfold bX12_dispose_47
      rw [pk_mul, if_pos (by rw [zle]; exact Int.le_refl _)]) zF (0, σ) ⟨nI_0.symm, zsm.rf, by by_cases d : how = 1 <;> simp only [d, ↓reduceIte] <;> exact hcv⟩ (by unfold zF; omega)
  exact ⟨s, e, p1, p2⟩
theorem m_dispose (h : zML σ B) (hR : MR σ B ab rg px) (hw : WFr ab rg) (h8 : zi σ (B 0) 8 = nI (ab 1)) {g : Nat} (hg : g < ab 4) {bf : Nat → Nat} (hcv : zCV σ (B 5) (dr (ab 1) (rg g) (px g) bf (rg g 0 * rg g 1))) (hbf : zCV σ (B 6) bf) (h0 : g = 0 → bf = fun _ => 0) : ∃ s, fX12_dispose σ (B 0) (nI g) = some s ∧ zsm (fun a => a = B 5) σ s ∧ zCV s (B 5) (if rg g 4 = 2 then bf else if rg g 4 = 1 then zrS (ab 1) (rg g) (dr (ab 1) (rg g) (px g) bf (rg g 0 * rg g 1)) (rg g 0 * rg g 1) else dr (ab 1) (rg g) (px g) bf (rg g 0 * rg g 1)) := by
  have hbb := hw.b
  have hr := hw.rgn hg
  have hb := hr.b (by omega) (by omega)
  have q0 : fX12_region σ (B 0) 0 (nI g) 0 = some (nI (rg g 0)) := m_reg0 (k := 0) h hR hg (by omega) (by decide)
  have q1 : fX12_region σ (B 0) 0 (nI g) 1 = some (nI (rg g 1)) := m_reg0 (k := 1) h hR hg (by omega) (by decide)
  have q4 : fX12_region σ (B 0) 0 (nI g) 4 = some (nI (rg g 4)) := m_reg0 (k := 4) h hR hg (by omega) (by decide)
  have e0 : nI g = 0 ↔ g = 0 := nI_eq (b := 0) (by omega) (by decide)
  have e2 : nI (rg g 4) = 2 ↔ rg g 4 = 2 := nI_eq (b := 2) (by omega) (by decide)
  have key : fX12_dispose σ (B 0) (nI g) = fX12_dispose_42 σ (B 0) (nI g) (nI (rg g 0)) (nI (rg g 1)) (nI (if g = 0 ∧ rg g 4 = 2 then 1 else rg g 4)) := by
    unfold fX12_dispose fX12_dispose_35
    rw [oA_eq h.2.1, oB_eq q0, oA_eq h.2.1, oB_eq q1, oA_eq h.2.1, oB_eq q4, oA_eq h.2.1, oB_eq q4]
    by_cases d0 : g = 0
    · rw [if_pos (e0.mpr d0)]
      by_cases d2 : rg g 4 = 2
      · rw [if_pos (e2.mpr d2), if_pos ⟨d0, d2⟩]; rfl
      · rw [if_neg (fun z => d2 (e2.mp z)), if_neg (fun z => d2 z.2)]
    · rw [if_neg (fun z => d0 (e0.mp z)), if_neg (fun z => d0 z.1)]
  rw [key]
  unfold fX12_dispose_42
  by_cases d0 : g = 0 ∧ rg g 4 = 2
  · rw [if_pos d0, if_pos d0.2]
    obtain ⟨s, e, p1, p2⟩ := m_disL (how := 1) h hR hw h8 hg (by decide) hcv hbf
    rw [if_pos rfl] at p2
    refine ⟨s, by rw [oB_eq e], p1, fun t ht => ?_⟩
    have hz := h0 d0.1
    subst hz
    have q := p2 t ht
    rw [zr_dr t _ (Nat.le_refl _) (fun i h1 h2 => by omega)] at q
    exact q
  · rw [if_neg d0]
    by_cases d2 : rg g 4 = 2
    · rw [if_pos d2, d2]
      obtain ⟨s, e, p1, p2⟩ := m_disL (how := 2) h hR hw h8 hg (by decide) hcv hbf
      rw [if_neg (by decide)] at p2
      refine ⟨s, by rw [oB_eq e], p1, fun t ht => ?_⟩
      have q := p2 t ht
      rw [rs_dr t _ (Nat.le_refl _) (fun i h1 h2 => by omega)] at q
      exact q
    · rw [if_neg d2]
      by_cases d1 : rg g 4 = 1
      · rw [if_pos d1, d1]
        obtain ⟨s, e, p1, p2⟩ := m_disL (how := 1) h hR hw h8 hg (by decide) hcv hbf
        rw [if_pos rfl] at p2
        exact ⟨s, by rw [oB_eq e], p1, p2⟩
      · rw [if_neg d1, show rg g 4 = 0 by omega]
        have e1 : bX12_dispose_47 (B 0) (nI g) (nI (rg g 0)) (nI (rg g 1)) (nI 0) 0 σ = some (.inr σ) := by
          unfold bX12_dispose_47
          by_cases q : nI (rg g 0) * nI (rg g 1) ≤ 0
          · rw [if_pos q]
          · rw [if_neg q, if_pos (by decide)]
        exact ⟨σ, by rw [oB_eq (zloop_one (body := fun x => bX12_dispose_47 (B 0) (nI g) (nI (rg g 0)) (nI (rg g 1)) (nI 0) x.1 x.2) (x := (0, σ)) e1)], zsm.rf, hcv⟩
/-- the canvas kept -/
theorem m_before (h : zML σ B) {l1 l2 : Int32} {cv : Nat → Nat} (hcv : zCV σ (B 5) cv) : ∃ s, zloop zF (fun x => bX12_show_123 (B 0) l1 l2 x.1 x.2) (0, σ) = some s ∧ zsm (fun a => a = B 6) σ s ∧ zCV s (B 6) cv := by
  obtain ⟨cr, br, ⟨k5, n5⟩, ⟨k6, n6⟩⟩ := h.cv
  obtain ⟨s, e, p1, p2⟩ := zloop_cnt (body := fun x => bX12_show_123 (B 0) l1 l2 x.1 x.2) (fun i x => x.1 = nI i ∧ zsm (fun a => a = B 6) σ x.2 ∧ ∀ t, t < i → zi x.2 (B 6) t = nI (cv t)) 256 (fun s => zsm (fun a => a = B 6) σ s ∧ zCV s (B 6) cv)
    (fun i x hi hx => by
      obtain ⟨k, s⟩ := x
      obtain ⟨x1, x2, x3⟩ := hx
      dsimp only at x1 x2 x3
      subst x1
      have c1 : ¬ (256 : Int32) ≤ nI i := fun z => by
        have := (nI_leI (a := 256) (b := i) (by decide) (by omega)).mp z
        omega
      have ks : zk s (B 0) = 12 := by rw [x2.k]; exact h.2.1
      have hv : zi s (B 5) i = nI (cv i) := (x2.i (h.ne 5 6) i).trans (hcv i hi)
      refine Or.inl ⟨(nI (i + 1), zuI s (B 6) i (nI (cv i))), ?_, rfl, x2.uI rfl, fun t ht => ?_⟩
      · show bX12_show_123 (B 0) l1 l2 (nI i) s = _
        unfold bX12_show_123
        rw [if_neg c1, oGR_eq ks (by rw [x2.r]; exact br), oGR_eq ks (by rw [x2.r]; exact cr), oLd_eq (by rw [x2.k]; exact k5) (by rw [x2.n, n5]; exact hi) (by omega) hv, oSt_eq (by rw [x2.k]; exact k6) (by rw [x2.n, n6]; exact hi) (by omega), oL_eq, nI_1]
      · show zi (zuI s (B 6) _ _) (B 6) t = _
        rw [zi_uI]
        by_cases q : t = i
        · rw [if_pos ⟨rfl, q⟩, q]
        · rw [if_neg (fun z => q z.2)]; exact x3 t (by omega))
    (fun x hx => by
      obtain ⟨k, s⟩ := x
      obtain ⟨x1, x2, x3⟩ := hx
      dsimp only at x1 x2 x3
      subst x1
      refine ⟨s, ?_, x2, x3⟩
      show bX12_show_123 (B 0) l1 l2 (nI 256) s = _
      unfold bX12_show_123
      have hd : (256 : Int32) ≤ nI 256 := by decide
      exact if_pos hd) zF (0, σ) ⟨nI_0.symm, zsm.rf, fun t ht => absurd ht (Nat.not_lt_zero t)⟩ (by unfold zF; omega)
  exact ⟨s, e, p1, p2⟩
/-- the canvas at first -/
theorem m_canvas (h : zML σ B) (hR : MR σ B ab rg px) (hw : WFr ab rg) {f : Int32} : ∃ s, zloop zF (fun x => bX12_show_59 (B 0) f x.1 x.2) (0, σ) = some s ∧ zsm (fun a => a = B 5) σ s ∧ (f = -1 → ∀ t, t < 256 → zi s (B 5) t = zi σ (B 4) (256 * dfP ab + t)) ∧ (f ≠ -1 → zCV s (B 5) (fun _ => 0)) := by
  have hbb := hw.b
  obtain ⟨cr, br, ⟨k5, n5⟩, ⟨k6, n6⟩⟩ := h.cv
  obtain ⟨w0, w1, w2, w3⟩ := h.r6
  have hd9 : dfP ab < 9 := by unfold dfP; split <;> omega
  obtain ⟨s, e, p1, p2⟩ := zloop_cnt (body := fun x => bX12_show_59 (B 0) f x.1 x.2) (fun i x => x.1 = nI i ∧ zsm (fun a => a = B 5) σ x.2 ∧ ∀ t, t < i → zi x.2 (B 5) t = (if f = -1 then zi σ (B 4) (256 * dfP ab + t) else 0)) 256 (fun s => zsm (fun a => a = B 5) σ s ∧ ∀ t, t < 256 → zi s (B 5) t = (if f = -1 then zi σ (B 4) (256 * dfP ab + t) else 0))
    (fun i x hi hx => by
      obtain ⟨k, s⟩ := x
      obtain ⟨x1, x2, x3⟩ := hx
      dsimp only at x1 x2 x3
      subst x1
      have c1 : ¬ (256 : Int32) ≤ nI i := fun z => by
        have := (nI_leI (a := 256) (b := i) (by decide) (by omega)).mp z
        omega
      have hs := h.of x2
      have ks : zk s (B 0) = 12 := hs.2.1
      have h107 : ∀ v : Int32, fX12_show_107 s (B 0) f (nI i) v (nI i) (B 5) = some (.inl (nI (i + 1), zuI s (B 5) i v)) := fun v => by
        unfold fX12_show_107
        rw [oSt_eq (by rw [x2.k]; exact k5) (by rw [x2.n, n5]; exact hi) (by omega), oL_eq, nI_1]
      have hfin : bX12_show_59 (B 0) f (nI i) s = some (.inl (nI (i + 1), zuI s (B 5) i (if f = -1 then zi σ (B 4) (256 * dfP ab + i) else 0))) := by
        unfold bX12_show_59
        rw [if_neg c1, oGR_eq ks (by rw [x2.r]; exact cr)]
        by_cases d : f = -1
        · have g5 : zi s (B 2) 5 = nI (ab 5) := (x2.i (h.ne 2 5) 5).trans (hR.1 5 (by decide))
          have e5 : nI (ab 5) = 1 ↔ ab 5 = 1 := nI_eq (b := 1) (by omega) (by decide)
          have h99 : ∀ gg : Int32, gg = nI (dfP ab) → fX12_show_99 s (B 0) f (nI i) gg 256 (B 4) (nI i) (B 5) = some (.inl (nI (i + 1), zuI s (B 5) i (zi σ (B 4) (256 * dfP ab + i)))) := fun gg hgg => by
            subst hgg
            have e256 : (256 : Int32) * nI (dfP ab) + nI i = nI (256 * dfP ab + i) := by
              have : (256 : Int32) * nI (dfP ab) = nI (256 * dfP ab) := pk_mul 256 _
              rw [this, nI_add]
            unfold fX12_show_99
            rw [e256, oLd_eq (v := zi σ (B 4) (256 * dfP ab + i)) (by rw [x2.k]; exact w2) (by rw [x2.n, w3]; omega) (by omega) (x2.i (h.ne 4 5) _), h107]
          rw [if_pos d, if_pos d, oGR_eq ks (by rw [x2.r]; exact w1), zAB hs (kk := 5) (k := 5) (by decide) rfl g5]
          by_cases q : ab 5 = 1
          · rw [if_pos (e5.mpr q), h99 0 (by unfold dfP; rw [if_pos q]; rfl)]
          · rw [if_neg (fun z => q (e5.mp z)), h99 8 (by unfold dfP; rw [if_neg q]; rfl)]
        · rw [if_neg d, if_neg d, h107]
      refine Or.inl ⟨_, hfin, rfl, x2.uI rfl, fun t ht => ?_⟩
      show zi (zuI s (B 5) _ _) (B 5) t = _
      rw [zi_uI]
      by_cases q : t = i
      · rw [if_pos ⟨rfl, q⟩, q]
      · rw [if_neg (fun z => q z.2)]; exact x3 t (by omega))
    (fun x hx => by
      obtain ⟨k, s⟩ := x
      obtain ⟨x1, x2, x3⟩ := hx
      dsimp only at x1 x2 x3
      subst x1
      refine ⟨s, ?_, x2, x3⟩
      show bX12_show_59 (B 0) f (nI 256) s = _
      unfold bX12_show_59
      have hd : (256 : Int32) ≤ nI 256 := by decide
      exact if_pos hd) zF (0, σ) ⟨nI_0.symm, zsm.rf, fun t ht => absurd ht (Nat.not_lt_zero t)⟩ (by unfold zF; omega)
  refine ⟨s, e, p1, fun hf t ht => ?_, fun hf t ht => ?_⟩
  · rw [p2 t ht, if_pos hf]
  · rw [p2 t ht, if_neg hf]; rfl
theorem m_show (h : zML σ B) (hR : MR σ B ab rg px) (hw : WFr ab rg) (f : Int32) :
    ∃ s, (shwS ab rg px f = none ∧ fX12_show σ (B 0) f = some (-11, s) ∧ s = zuI σ (B 0) 0 0) ∨ ∃ cv, shwS ab rg px f = some cv ∧ ab 0 = 1 ∧ fX12_show σ (B 0) f = some (1, s) ∧ zsB B PMs FMs σ s ∧ SCm s B (ab 1) (ab 2) cv := by
  have hbb := hw.b
  have hR1 := hR.u0 h (k := 0) (v := 0)
  have h1 : zML (zuI σ (B 0) 0 0) B := h.u
  have z1 : zsB B PMs FMs σ (zuI σ (B 0) 0 0) := zsB.rf.u0 (Or.inl rfl) (Or.inl rfl)
  unfold fX12_show
  rw [oPI_eq h.2.1]
  generalize zuI σ (B 0) 0 0 = s1 at *
  have e0 : nI (ab 0) = 0 ↔ ab 0 = 0 := nI_eq (b := 0) (by omega) (by decide)
  have em : f = -1 ↔ f.toInt = -1 := by rw [zeq]; rfl
  have tm : (-1 : Int32).toInt = -1 := by decide
  have t4 : (nI (ab 4)).toInt = (ab 4 : Int) := zt_nI (by omega)
  rw [zAB h1 (kk := 0) (k := 0) (by decide) rfl (hR1.1 0 (by decide))]
  by_cases d0 : ab 0 = 0
  · have h40 := hbb.2.2.2.2.2 d0
    rw [if_pos (e0.mpr d0)]
    exact ⟨s1, Or.inl ⟨by unfold shwS; rw [if_neg (by omega), if_neg (by omega)], rfl, rfl⟩⟩
  · rw [if_neg (fun z => d0 (e0.mp z))]
    by_cases d1 : f < -1
    · rw [if_pos d1]
      rw [zlt, tm] at d1
      exact ⟨s1, Or.inl ⟨by unfold shwS; rw [if_neg (by omega), if_neg (by omega)], rfl, rfl⟩⟩
    · rw [if_neg d1, zAB h1 (kk := 4) (k := 4) (by decide) rfl (hR1.1 4 (by decide))]
      rw [zlt, tm] at d1
      by_cases d2 : f < nI (ab 4)
      · rw [if_pos d2]
        rw [zlt, t4] at d2
        have d3 : ab 0 = 1 := by omega
        have hwf : (1 ≤ ab 1 ∧ ab 1 ≤ 16) ∧ (1 ≤ ab 2 ∧ ab 2 ≤ 16) := by
          rcases hw with ⟨q, -⟩ | ⟨-, q1, q2, -⟩
          · omega
          · exact ⟨q1, q2⟩
        have h2 : zML (zuI s1 (B 0) 7 1) B := h1.u
        have hR2 := hR1.u0 h1 (k := 7) (v := 1)
        have h3 : zML (zuI (zuI s1 (B 0) 7 1) (B 0) 8 (nI (ab 1))) B := h2.u
        have hR3 := hR2.u0 h2 (k := 8) (v := nI (ab 1))
        have h4 : zML (zuI (zuI (zuI s1 (B 0) 7 1) (B 0) 8 (nI (ab 1))) (B 0) 9 (nI (ab 2))) B := h3.u
        have hR4 := hR3.u0 h3 (k := 9) (v := nI (ab 2))
        have z4 : zsB B PMs FMs σ (zuI (zuI (zuI s1 (B 0) 7 1) (B 0) 8 (nI (ab 1))) (B 0) 9 (nI (ab 2))) := ((z1.u0 (Or.inl rfl) (Or.inr (Or.inl rfl))).u0 (Or.inl rfl) (Or.inr (Or.inr (Or.inl rfl)))).u0 (Or.inl rfl) (Or.inr (Or.inr (Or.inr rfl)))
        have i7 : zi (zuI (zuI (zuI s1 (B 0) 7 1) (B 0) 8 (nI (ab 1))) (B 0) 9 (nI (ab 2))) (B 0) 7 = 1 := by simp only [zi_uI, true_and, ↓reduceIte, Nat.reduceEqDiff]
        have i8 : zi (zuI (zuI (zuI s1 (B 0) 7 1) (B 0) 8 (nI (ab 1))) (B 0) 9 (nI (ab 2))) (B 0) 8 = nI (ab 1) := by simp only [zi_uI, true_and, ↓reduceIte, Nat.reduceEqDiff]
        have i9 : zi (zuI (zuI (zuI s1 (B 0) 7 1) (B 0) 8 (nI (ab 1))) (B 0) 9 (nI (ab 2))) (B 0) 9 = nI (ab 2) := by simp only [zi_uI, true_and, ↓reduceIte, Nat.reduceEqDiff]
        rw [oPZ_eq h1.2.1 (Or.inr rfl), zAB h2 (kk := 1) (k := 1) (by decide) rfl (hR2.1 1 (by decide)), oPI_eq h2.2.1, zAB h3 (kk := 2) (k := 2) (by decide) rfl (hR3.1 2 (by decide)), oPI_eq h3.2.1]
        generalize zuI (zuI (zuI s1 (B 0) 7 1) (B 0) 8 (nI (ab 1))) (B 0) 9 (nI (ab 2)) = s4 at *
        obtain ⟨s5, e5, m5, c5, c5'⟩ := m_canvas (f := f) h4 hR4 hw
        have h5 := h4.of m5
        have z5 : zsB B PMs FMs σ s5 := z4.trans (zsB.of1 (i := 5) h4 (by decide) (Or.inr (Or.inl rfl)) (by decide) m5)
        have n05 : ∀ k, zi s5 (B 0) k = zi s4 (B 0) k := fun k => m5.i (h.ne 0 5) k
        have hwh : ab 1 * ab 2 ≤ 16 * 16 := Nat.mul_le_mul hwf.1.2 hwf.2.2
        rw [oB_eq e5]
        dsimp only
        by_cases d4 : f.toInt = -1
        · have ef := em.mpr d4
          have ex : bX12_show_116 (B 0) f 0 s5 = some (.inr s5) := by
            unfold bX12_show_116
            rw [if_pos (by rw [ef]; decide)]
          rw [oB_eq (zloop_one (body := fun x => bX12_show_116 (B 0) f x.1 x.2) (x := (0, s5)) ex)]
          refine ⟨s5, Or.inr ⟨px (dfP ab), by unfold shwS; rw [if_neg (by omega), if_pos ⟨d4, d3⟩], d3, rfl, z5, Or.inr ⟨(n05 7).trans i7, ⟨hwf.1.1, hwf.1.2, hwf.2.1, hwf.2.2⟩, (n05 8).trans i8, (n05 9).trans i9, fun i hi => ?_⟩⟩⟩
          rw [c5 ef i (by omega)]
          unfold dfP
          by_cases q : ab 5 = 1
          · rw [if_pos q]
            have hf : 0 < ab 4 ∧ rg 0 0 = ab 1 ∧ rg 0 1 = ab 2 := by
              rcases hw with ⟨w, -⟩ | ⟨-, -, -, -, -, -, w⟩
              · omega
              · exact w q
            exact hR4.2.2.1 0 hf.1 i (by rw [hf.2.1, hf.2.2]; exact hi)
          · rw [if_neg q]
            exact hR4.2.2.2 (by omega) i hi
        · obtain ⟨fn, hfn⟩ : ∃ n : Nat, f.toInt = (n : Int) := ⟨f.toInt.toNat, by omega⟩
          have ef : f = nI fn := znI_of hfn
          have hfn4 : fn < ab 4 := by omega
          subst ef
          have hcv5 := c5' (fun z => d4 (em.mp z))
          obtain ⟨s6, e6, p1, p2⟩ := zloop_cnt (body := fun x => bX12_show_116 (B 0) (nI fn) x.1 x.2) (fun k x => x.1 = nI k ∧ zsm (fun a => a = B 5 ∨ a = B 6) s5 x.2 ∧ zCV x.2 (B 5) (if k = fn + 1 then shS (ab 1) rg px fn else cvS (ab 1) rg px k)) (fn + 1) (fun s => zsm (fun a => a = B 5 ∨ a = B 6) s5 s ∧ zCV s (B 5) (shS (ab 1) rg px fn))
            (fun k x hk hx => by
              obtain ⟨y, s⟩ := x
              obtain ⟨x1, x2, x3⟩ := hx
              dsimp only at x1 x2 x3
              subst x1
              rw [if_neg (by omega)] at x3
              have n0 : ∀ j, j ≠ 5 → j ≠ 6 → j < 12 → ¬ (B j = B 5 ∨ B j = B 6) := fun j a b c z => z.elim (fun z => a (h.1 j 5 c (by decide) z)) (fun z => b (h.1 j 6 c (by decide) z))
              have hs := h5.of x2
              obtain ⟨s7, e7, m7, c7⟩ := m_before (l1 := nI fn) (l2 := nI k) hs x3
              have h7 := hs.of m7
              have hR7 : MR s7 B ab rg px := hR4.of (s := s7) (fun k => (m7.i (h.ne 2 6) k).trans ((x2.i (n0 2 (by decide) (by decide) (by decide)) k).trans (m5.i (h.ne 2 5) k))) (fun k => (m7.i (h.ne 3 6) k).trans ((x2.i (n0 3 (by decide) (by decide) (by decide)) k).trans (m5.i (h.ne 3 5) k))) (fun k => (m7.i (h.ne 4 6) k).trans ((x2.i (n0 4 (by decide) (by decide) (by decide)) k).trans (m5.i (h.ne 4 5) k)))
              have i87 : zi s7 (B 0) 8 = nI (ab 1) := (m7.i (h.ne 0 6) 8).trans ((x2.i (n0 0 (by decide) (by decide) (by decide)) 8).trans ((n05 8).trans i8))
              have cv7 : zCV s7 (B 5) (cvS (ab 1) rg px k) := fun t ht => (m7.i (h.ne 5 6) t).trans (x3 t ht)
              obtain ⟨s8, e8, m8, c8⟩ := m_lay h7 hR7 hw i87 (g := k) (by omega) cv7
              have h8' := h7.of m8
              have mm : zsm (fun a => a = B 5 ∨ a = B 6) s5 s8 := (x2.trans (m7.mono (fun a z => Or.inr z))).trans (m8.mono (fun a z => Or.inl z))
              have c1 : ¬ nI fn < nI k := by rw [nI_ltI (by omega) (by omega)]; omega
              have c2 : nI fn ≤ nI k ↔ fn ≤ k := nI_leI (by omega) (by omega)
              have hpre : bX12_show_116 (B 0) (nI fn) (nI k) s = (if nI fn ≤ nI k then fX12_show_163 s8 (B 0) (nI fn) (nI k) else oA (zk s8 (B 0) = 12) (oB (fX12_dispose s8 (B 0) (nI k)) (fun σ10 => fX12_show_163 σ10 (B 0) (nI fn) (nI k)))) := by
                unfold bX12_show_116
                rw [if_neg c1, oB_eq e7]
                dsimp only
                rw [oA_eq h7.2.1, oB_eq e8]
              have h163 : ∀ s' : zS, fX12_show_163 s' (B 0) (nI fn) (nI k) = some (.inl (nI (k + 1), s')) := fun s' => by
                unfold fX12_show_163
                rw [oL_eq, nI_1]
              by_cases d5 : fn ≤ k
              · have hkf : k = fn := by omega
                subst hkf
                rw [if_pos (c2.mpr d5), h163] at hpre
                refine Or.inl ⟨_, hpre, rfl, mm, ?_⟩
                rw [if_pos rfl]
                exact c8
              · rw [if_neg (fun z => d5 (c2.mp z)), oA_eq h8'.2.1] at hpre
                have hR8 : MR s8 B ab rg px := hR7.of (s := s8) (fun k => m8.i (h.ne 2 5) k) (fun k => m8.i (h.ne 3 5) k) (fun k => m8.i (h.ne 4 5) k)
                obtain ⟨s9, e9, m9, c9⟩ := m_dispose h8' hR8 hw ((m8.i (h.ne 0 5) 8).trans i87) (g := k) (by omega) (bf := cvS (ab 1) rg px k) c8 (fun t ht => (m8.i (h.ne 6 5) t).trans (c7 t ht)) (fun z => by subst z; rfl)
                rw [oB_eq e9, h163] at hpre
                refine Or.inl ⟨_, hpre, rfl, mm.trans (m9.mono (fun a z => Or.inl z)), ?_⟩
                rw [if_neg (by omega)]
                exact c9)
            (fun x hx => by
              obtain ⟨y, s⟩ := x
              obtain ⟨x1, x2, x3⟩ := hx
              dsimp only at x1 x2 x3
              subst x1
              rw [if_pos rfl] at x3
              refine ⟨s, ?_, x2, x3⟩
              show bX12_show_116 (B 0) (nI fn) (nI (fn + 1)) s = _
              unfold bX12_show_116
              rw [if_pos ((nI_ltI (by omega) (by omega)).mpr (by omega))]) zF (0, s5) ⟨nI_0.symm, zsm.rf, by rw [if_neg (by omega)]; exact hcv5⟩ (by unfold zF; omega)
          have n06 : ∀ k, zi s6 (B 0) k = zi s4 (B 0) k := fun k => (p1.i (fun z => z.elim (h.ne 0 5) (h.ne 0 6)) k).trans (n05 k)
          have hn : (nI fn).toInt.toNat = fn := by omega
          rw [oB_eq e6]
          refine ⟨s6, Or.inr ⟨shS (ab 1) rg px fn, by unfold shwS; rw [if_pos (by omega), hn], d3, rfl, ?_, Or.inr ⟨(n06 7).trans i7, ⟨hwf.1.1, hwf.1.2, hwf.2.1, hwf.2.2⟩, (n06 8).trans i8, (n06 9).trans i9, fun i hi => p2 i (by omega)⟩⟩⟩
          refine z5.trans ⟨p1.mono (fun a z => z.elim (fun z => ⟨5, by decide, Or.inr (Or.inl rfl), z⟩) (fun z => ⟨6, by decide, Or.inr (Or.inr rfl), z⟩)), fun j _ => p1.i (fun z => z.elim (h.ne 0 5) (h.ne 0 6)) j⟩
      · rw [if_neg d2]
        rw [zlt, t4] at d2
        exact ⟨s1, Or.inl ⟨by unfold shwS; rw [if_neg (by omega), if_neg (by omega)], rfl, rfl⟩⟩
/-- a pixel that is there, and one that is not -/
def pixS (sw sh : Nat) (x y : Int32) : Prop := 0 ≤ x.toInt ∧ x.toInt < (sw : Int) ∧ 0 ≤ y.toInt ∧ y.toInt < (sh : Int)
theorem m_pixel {sw sh : Nat} {cv : Nat → Nat} (h : zML σ B) (hS : SCm σ B sw sh cv) (x y : Int32) : (pixS sw sh x y ∧ fX12_pixel σ (B 0) x y = some (nI (cv (sw * y.toInt.toNat + x.toInt.toNat)), zuI σ (B 0) 0 0)) ∨ (¬ pixS sw sh x y ∧ fX12_pixel σ (B 0) x y = some (0, zuI σ (B 0) 0 1)) := by
  have l1 := h.2.1
  obtain ⟨cr, br, ⟨k5, n5⟩, -⟩ := h.cv
  have h36 : fX12_pixel_36 σ (B 0) x y (B 0) = some (0, zuI σ (B 0) 0 1) := by
    unfold fX12_pixel_36 fX12_pixel_37
    rw [oPI_eq l1, oGI_eq (by exact l1) (show zi (zuI σ (B 0) 0 1) (B 0) 0 = 1 by rw [zi_uI, if_pos ⟨rfl, rfl⟩]), if_neg (by decide)]
  unfold fX12_pixel pixS
  rcases hS with ⟨s0, s1, s2⟩ | ⟨s0, ⟨b1, b2, b3, b4⟩, s1, s2, s3⟩
  · rw [oGI_eq l1 s0, if_pos rfl]
    exact Or.inr ⟨by omega, h36⟩
  · rw [oGI_eq l1 s0, if_neg (by decide)]
    have tW : (nI sw).toInt = (sw : Int) := zt_nI (by omega)
    have tH : (nI sh).toInt = (sh : Int) := zt_nI (by omega)
    by_cases d1 : x < 0
    · rw [if_pos d1]
      exact Or.inr ⟨by rw [zlt, zt0'] at d1; omega, h36⟩
    · rw [if_neg d1]
      rw [zlt, zt0'] at d1
      by_cases d2 : y < 0
      · rw [if_pos d2]
        exact Or.inr ⟨by rw [zlt, zt0'] at d2; omega, h36⟩
      · rw [if_neg d2, oGI_eq l1 s1]
        rw [zlt, zt0'] at d2
        by_cases d3 : nI sw ≤ x
        · rw [if_pos d3]
          exact Or.inr ⟨by rw [zle, tW] at d3; omega, h36⟩
        · rw [if_neg d3, oGI_eq l1 s2]
          rw [zle, tW] at d3
          by_cases d4 : nI sh ≤ y
          · rw [if_pos d4]
            exact Or.inr ⟨by rw [zle, tH] at d4; omega, h36⟩
          · rw [if_neg d4]
            rw [zle, tH] at d4
            refine Or.inl ⟨by omega, ?_⟩
            have ex : x = nI x.toInt.toNat := znI (by omega)
            have ey : y = nI y.toInt.toNat := znI (by omega)
            have hix : sw * y.toInt.toNat + x.toInt.toNat < sw * sh := by
              have q1 : sw * (y.toInt.toNat + 1) ≤ sw * sh := Nat.mul_le_mul_left _ (by omega)
              rw [Nat.mul_succ] at q1
              omega
            have hwh : sw * sh ≤ 16 * 16 := Nat.mul_le_mul b2 b4
            have eidx : nI sw * y + x = nI (sw * y.toInt.toNat + x.toInt.toNat) := by
              conv => lhs; rw [ex, ey]
              rw [pk_mul, nI_add]
            unfold fX12_pixel_37
            rw [oPI_eq l1, oGI_eq (by exact l1) (show zi (zuI σ (B 0) 0 0) (B 0) 0 = 0 by rw [zi_uI, if_pos ⟨rfl, rfl⟩]), if_pos (by decide), oGR_eq (by exact l1) (by exact cr), oGI_eq (by exact l1) (show zi (zuI σ (B 0) 0 0) (B 0) 8 = nI sw by rw [zi_uI, if_neg (by omega)]; exact s1), eidx, oLd_eq (by exact k5) (by rw [zn_uI, n5]; omega) (by omega) (show zi (zuI σ (B 0) 0 0) (B 5) (sw * y.toInt.toNat + x.toInt.toNat) = nI (cv (sw * y.toInt.toNat + x.toInt.toNat)) by rw [zi_uI, if_neg (fun z => absurd z.1 (h.ne 5 0))]; exact s3 _ hix)]
end PMSHOW
