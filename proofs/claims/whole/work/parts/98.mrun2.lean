/-! the reference's reader: the run -/
theorem oS_inl {α β ρ : Type} {a : α} {f : α → Option ρ} {g : β → Option ρ} : oS (Sum.inl a : α ⊕ β) f g = f a := rfl
section PMRUN2
variable {σ s t : zS} {B : Nat → Nat} {tp : List Nat}
theorem n_sig1 (h : NB σ B tp) {i : Nat} (hi : i < 8) : (i < tp.length ∧ tp.getD i 0 = sgL.getD i 0 → bX12_readAll_2 (B 0) (nI i) σ = some (.inl (nI (i + 1), σ))) ∧ (¬ (i < tp.length ∧ tp.getD i 0 = sgL.getD i 0) → bX12_readAll_2 (B 0) (nI i) σ = some (.inr (.inr (1, zuI σ (B 0) 3 (nI i))))) := by
  have htl := h.2.2.1
  have c8 : ¬ (8 : Int32) ≤ nI i := fun z => by
    have := (nI_leI (a := 8) (b := i) (by decide) (by omega)).mp z
    omega
  have sgb : sgL.getD i 0 < 256 := by
    rcases (show i = 0 ∨ i = 1 ∨ i = 2 ∨ i = 3 ∨ i = 4 ∨ i = 5 ∨ i = 6 ∨ i = 7 by omega) with q | q | q | q | q | q | q | q <;> subst q <;> decide
  have e28 : fX12_readAll_28 σ (B 0) (nI i) = some (.inr (.inr (1, zuI σ (B 0) 3 (nI i)))) := by
    unfold fX12_readAll_28
    rw [oPI_eq h.k.1]
  have qL : nI tp.length ≤ nI i ↔ tp.length ≤ i := nI_leI (by omega) (by omega)
  by_cases y : i < tp.length
  rotate_left
  · refine ⟨fun z => absurd z.1 y, fun _ => ?_⟩
    unfold bX12_readAll_2
    rw [if_neg c8, oGI_eq h.k.1 h.2.1, if_pos (qL.mpr (by omega)), e28]
  have hb := h.by i
  have qe : nI (tp.getD i 0) = nI (sgL.getD i 0) ↔ tp.getD i 0 = sgL.getD i 0 := nI_eq (by omega) (by omega)
  have e0 : bX12_readAll_2 (B 0) (nI i) σ = if nI (tp.getD i 0) = nI (sgL.getD i 0) then some (.inl (nI (i + 1), σ)) else some (.inr (.inr (1, zuI σ (B 0) 3 (nI i)))) := by
    unfold bX12_readAll_2
    rw [if_neg c8, oGI_eq h.k.1 h.2.1, if_neg (fun z => by have := qL.mp z; omega), oA_eq h.k.1, oB_eq (n_byte h y), oB_eq (m_mark hi), oL_eq, nI_1, e28]
  refine ⟨fun z => ?_, fun z => ?_⟩
  · rw [e0, if_pos (qe.mpr z.2)]
  · rw [e0, if_neg (fun x => z ⟨y, qe.mp x⟩)]
theorem n_sig (h : NB σ B tp) : ∃ r, zloop zF (fun x => bX12_readAll_2 (B 0) x.1 x.2) (0, σ) = some r ∧ ((sgF tp 8 = none ∧ r = .inl σ) ∨ ∃ k, k < 8 ∧ sgF tp 8 = some k ∧ r = .inr (1, zuI σ (B 0) 3 (nI k))) := by
  refine zloop_cnt (body := fun x => bX12_readAll_2 (B 0) x.1 x.2) (fun i x => x = (nI i, σ) ∧ sgF tp i = none) 8 (fun r => (sgF tp 8 = none ∧ r = .inl σ) ∨ ∃ k, k < 8 ∧ sgF tp 8 = some k ∧ r = .inr (1, zuI σ (B 0) 3 (nI k))) (fun i x hi hx => ?_) (fun x hx => ?_) zF (0, σ) ⟨rfl, rfl⟩ (by unfold zF; decide)
  · obtain ⟨x1, x2⟩ := hx
    subst x1
    obtain ⟨ky, kn⟩ := n_sig1 h hi
    by_cases c : i < tp.length ∧ tp.getD i 0 = sgL.getD i 0
    · refine Or.inl ⟨(nI (i + 1), σ), ky c, rfl, ?_⟩
      rw [sgF, x2]
      dsimp only
      rw [if_pos c]
    · refine Or.inr ⟨_, kn c, Or.inr ⟨i, hi, ?_, rfl⟩⟩
      have h1 : sgF tp (i + 1) = some i := by
        rw [sgF, x2]
        dsimp only
        rw [if_neg c]
      have := sgF_mono h1 (8 - (i + 1))
      rw [show i + 1 + (8 - (i + 1)) = 8 by omega] at this
      exact this
  · obtain ⟨x1, x2⟩ := hx
    subst x1
    refine ⟨.inl σ, ?_, Or.inl ⟨x2, rfl⟩⟩
    show bX12_readAll_2 (B 0) (nI 8) σ = _
    unfold bX12_readAll_2
    rw [if_pos (by decide)]
theorem n_run (h : NB σ B tp) : ∃ r s, fX12_readAll σ (B 0) = some (r, s) ∧ NF B σ s ∧ ((∃ p, readS tp = .inl (r, p) ∧ ¬ r ≤ 0 ∧ zi s (B 0) 3 = nI p) ∨ ∃ R, readS tp = .inr R ∧ r = 0 ∧ zi s (B 0) 3 = -1 ∧ NTc s B R ∧ WFS tp R ∧ kd R.2.1 = 6 ∧ R.2.2.2.2.1 = 1) := by
  have htl := h.2.2.1
  unfold fX12_readAll
  obtain ⟨r0, e0, hr0⟩ := n_sig h
  rw [oB_eq e0]
  rcases hr0 with ⟨g1, g2⟩ | ⟨k, g0, g1, g2⟩
  rotate_left
  · subst g2
    refine ⟨1, zuI σ (B 0) 3 (nI k), rfl, NF.rf.u0 h.1 (Or.inr (Or.inl rfl)), Or.inl ⟨k, ?_, by decide, by rw [zi_uI, if_pos ⟨rfl, rfl⟩]⟩⟩
    unfold readS
    rw [g1]
  subst g2
  have h8 := sgF_len 8 g1
  have fm : ∀ {j : Nat}, 14 ≤ j → j < 32 → FMr j := fun h1 h2 => Or.inr (Or.inr ⟨h1, h2⟩)
  have kk := h.k.1
  have e1 : oS (Sum.inl σ : zS ⊕ (Int32 × zS)) (fun c1 => (fun σ2 => oPZ σ2 12 (B 0) 23 0 (fun σ3 => oPI σ3 12 (B 0) 24 0 (fun σ4 => oPI σ4 12 (B 0) 25 0 (fun σ5 => oPI σ5 12 (B 0) 26 0 (fun σ6 => oPZ σ6 12 (B 0) 27 0 (fun σ7 => oPZ σ7 12 (B 0) 28 0 (fun σ8 => oPZ σ8 12 (B 0) 29 0 (fun σ9 => oPI σ9 12 (B 0) 30 (-1 : Int32) (fun σ10 => oPZ σ10 12 (B 0) 31 0 (fun σ11 => oB (zloop zF (fun x => bX12_readAll_91 (B 0) x.1 x.2.1 x.2.2) (8, 1, σ11)) (fun b3 => oS b3 (fun c2 => (fun v6 σ18 => oGI σ18 12 (B 0) 1 (fun x26 => (if x26 ≤ v6 then oPI σ18 12 (B 0) 3 (-1 : Int32) (fun σ19 => some ((0 : Int32), σ19)) else oPI σ18 12 (B 0) 3 v6 (fun σ20 => some (4, σ20))))) c2.1 c2.2) (fun r2 => some r2)))))))))))) c1) (fun r1 => some r1) = oB (zloop zF (fun x => bX12_readAll_91 (B 0) x.1 x.2.1 x.2.2) (8, 1, zuI (zuI (zuI (zuI (zuI (zuI (zuI (zuI (zuI σ (B 0) 23 0) (B 0) 24 0) (B 0) 25 0) (B 0) 26 0) (B 0) 27 0) (B 0) 28 0) (B 0) 29 0) (B 0) 30 (-1)) (B 0) 31 0)) (fun b3 => oS b3 (fun c2 => (fun v6 σ18 => oGI σ18 12 (B 0) 1 (fun x26 => (if x26 ≤ v6 then oPI σ18 12 (B 0) 3 (-1 : Int32) (fun σ19 => some ((0 : Int32), σ19)) else oPI σ18 12 (B 0) 3 v6 (fun σ20 => some (4, σ20))))) c2.1 c2.2) (fun r2 => some r2)) := by
    refine Eq.trans oS_inl ?_
    show oPZ σ 12 (B 0) 23 0 _ = _
    rw [oPZ_eq kk (Or.inl rfl), oPI_eq (by exact kk), oPI_eq (by exact kk), oPI_eq (by exact kk), oPZ_eq (by exact kk) (Or.inl rfl), oPZ_eq (by exact kk) (Or.inl rfl), oPZ_eq (by exact kk) (Or.inl rfl), oPI_eq (by exact kk), oPZ_eq (by exact kk) (Or.inl rfl)]
  rw [e1]
  clear e1
  have nf9 : NF B σ (zuI (zuI (zuI (zuI (zuI (zuI (zuI (zuI (zuI σ (B 0) 23 0) (B 0) 24 0) (B 0) 25 0) (B 0) 26 0) (B 0) 27 0) (B 0) 28 0) (B 0) 29 0) (B 0) 30 (-1)) (B 0) 31 0) := ((((((((NF.rf.u0 h.1 (fm (by decide) (by decide))).u0 h.1 (fm (by decide) (by decide))).u0 h.1 (fm (by decide) (by decide))).u0 h.1 (fm (by decide) (by decide))).u0 h.1 (fm (by decide) (by decide))).u0 h.1 (fm (by decide) (by decide))).u0 h.1 (fm (by decide) (by decide))).u0 h.1 (fm (by decide) (by decide))).u0 h.1 (fm (by decide) (by decide))
  have hN0 : NTc (zuI (zuI (zuI (zuI (zuI (zuI (zuI (zuI (zuI σ (B 0) 23 0) (B 0) 24 0) (B 0) 25 0) (B 0) 26 0) (B 0) 27 0) (B 0) 28 0) (B 0) 29 0) (B 0) 30 (-1)) (B 0) 31 0) B R0 := by
    have hk0 : kd 0 = 0 := rfl
    refine ⟨⟨?_, ?_, ?_, ?_, ?_, ?_, ?_⟩, fun _ => ⟨?_, ?_⟩, fun z => absurd hk0 z, fun z => by rw [hk0] at z; omega⟩
    all_goals simp only [zi_uI, true_and, Nat.reduceEqDiff, ↓reduceIte]
    all_goals rfl
  generalize zuI (zuI (zuI (zuI (zuI (zuI (zuI (zuI (zuI σ (B 0) 23 0) (B 0) 24 0) (B 0) 25 0) (B 0) 26 0) (B 0) 27 0) (B 0) 28 0) (B 0) 29 0) (B 0) 30 (-1)) (B 0) 31 0 = s9 at nf9 hN0
  have hW0 : WFS tp R0 := by
    have hk0 : kd 0 = 0 := rfl
    show WFk tp (kd 0) 8 0 0 0 (fun _ => 0) (fun _ _ => 0) []
    rw [hk0]
    exact ⟨⟨h8, by decide, by decide, by decide, by decide, by decide⟩, fun _ => ⟨rfl, rfl, rfl⟩, fun z => absurd rfl z, fun z => absurd z (by decide), fun _ z => absurd rfl z, fun z => absurd z (by decide), fun z => absurd z (by decide), fun z => absurd z (by decide), fun _ => Nat.zero_le _⟩
  obtain ⟨r, e, hr⟩ := zloop_cnt (body := fun x => bX12_readAll_91 (B 0) x.1 x.2.1 x.2.2) (fun i x => ∃ R, x.1 = nI R.1 ∧ x.2.1 = (if kd R.2.1 = 6 then 0 else 1) ∧ NF B σ x.2.2 ∧ NTc x.2.2 B R ∧ WFS tp R ∧ 8 + 12 * i ≤ R.1 ∧ (kd R.2.1 = 6 → R.2.2.2.2.1 = 1) ∧ runF tp 667 R0 = runF tp (667 - i) R) 667 (fun r => match r with
      | .inl (v, s) => NF B σ s ∧ ∃ R, v = nI R.1 ∧ NTc s B R ∧ WFS tp R ∧ kd R.2.1 = 6 ∧ R.2.2.2.2.1 = 1 ∧ runF tp 667 R0 = .inr R
      | .inr (r, s) => NF B σ s ∧ ∃ p, runF tp 667 R0 = .inl (r, p) ∧ ¬ r ≤ 0 ∧ zi s (B 0) 3 = nI p)
    (fun i x hi hx => by
      obtain ⟨a, c, t⟩ := x
      obtain ⟨R, x1, x2, x3, x4, x5, x6, x7, x8⟩ := hx
      dsimp only at x1 x2 x3 x4
      subst x1
      subst x2
      obtain ⟨n, hn⟩ : ∃ n, 667 - i = n + 1 := ⟨666 - i, by omega⟩
      rw [hn, runF_s n] at x8
      have hn' : 667 - (i + 1) = n := by omega
      obtain ⟨q, bf, ser, tl, hd, ab, rg, px, pk⟩ := R
      dsimp only at x6 x7 x8 ⊢
      by_cases c6 : kd bf = 6
      · rw [if_pos c6] at x8 ⊢
        exact Or.inr ⟨.inl (nI q, t), by unfold bX12_readAll_91; rw [if_pos rfl], x3, _, rfl, x4, x5, c6, x7 c6, x8⟩
      · rw [if_neg c6] at x8 ⊢
        rcases n_chunk (h.of x3) x4 x5 with ⟨f, p, s, y1, y2, y3, y4, y5⟩ | ⟨R', s, y1, y2, y3, y4, y5⟩
        · rw [y1] at x8
          exact Or.inr ⟨.inr (f, s), y2, x3.trans y4, p, x8, y3, y5⟩
        · rw [y1] at x8
          dsimp only at x8
          obtain ⟨hs1, hs2⟩ := step_inr y1
          dsimp only at hs1
          exact Or.inl ⟨_, y2, R', rfl, rfl, x3.trans y3, y4, y5, by omega, hs2, by rw [hn']; exact x8⟩)
    (fun x hx => by
      obtain ⟨R, x1, x2, x3, x4, x5, x6, x7, x8⟩ := hx
      obtain ⟨q, bf, ser, tl, hd, ab, rg, px, pk⟩ := R
      have : q ≤ tp.length := x5.1.1
      dsimp only at x6
      omega) zF (8, 1, s9) ⟨R0, rfl, rfl, nf9, hN0, hW0, by decide, fun z => absurd z (by decide), rfl⟩ (by unfold zF; decide)
  rw [oB_eq e]
  rcases r with ⟨v, s⟩ | ⟨r, s⟩
  · obtain ⟨y1, R, y2, y3, y4, y5, y6, y7⟩ := hr
    obtain ⟨q, bf, ser, tl, hd, ab, rg, px, pk⟩ := R
    dsimp only at y2 y5 y6 y7
    subst y2
    have hB := h.of y1
    have hqL : q ≤ tp.length := y4.1.1
    have hle : nI tp.length ≤ nI q ↔ tp.length ≤ q := nI_leI (by omega) (by omega)
    have e2 : oS (Sum.inl (nI q, s) : (Int32 × zS) ⊕ (Int32 × zS)) (fun c2 => (fun v6 σ18 => oGI σ18 12 (B 0) 1 (fun x26 => (if x26 ≤ v6 then oPI σ18 12 (B 0) 3 (-1 : Int32) (fun σ19 => some ((0 : Int32), σ19)) else oPI σ18 12 (B 0) 3 v6 (fun σ20 => some (4, σ20))))) c2.1 c2.2) (fun r2 => some r2) = if nI tp.length ≤ nI q then some (0, zuI s (B 0) 3 (-1)) else some (4, zuI s (B 0) 3 (nI q)) := by
      refine Eq.trans oS_inl ?_
      show oGI s 12 (B 0) 1 _ = _
      rw [oGI_eq hB.k.1 hB.2.1, oPI_eq hB.k.1, oPI_eq hB.k.1]
    by_cases c : q < tp.length
    · refine ⟨4, zuI s (B 0) 3 (nI q), by rw [e2, if_neg (fun z => by have := hle.mp z; omega)], y1.u0 h.1 (Or.inr (Or.inl rfl)), Or.inl ⟨q, ?_, by decide, by rw [zi_uI, if_pos ⟨rfl, rfl⟩]⟩⟩
      unfold readS
      rw [g1, y7]
      dsimp only
      rw [if_pos c]
    · refine ⟨0, zuI s (B 0) 3 (-1), by rw [e2, if_pos (hle.mpr (by omega))], y1.u0 h.1 (Or.inr (Or.inl rfl)), Or.inr ⟨(q, bf, ser, tl, hd, ab, rg, px, pk), ?_, rfl, by rw [zi_uI, if_pos ⟨rfl, rfl⟩], NT.u (q := q) y3 hB.1, y4, y5, y6⟩⟩
      unfold readS
      rw [g1, y7]
      dsimp only
      rw [if_neg c]
  · obtain ⟨y1, p, y2, y3, y4⟩ := hr
    refine ⟨r, s, rfl, y1, Or.inl ⟨p, ?_, y3, y4⟩⟩
    unfold readS
    rw [g1, y2]
end PMRUN2
