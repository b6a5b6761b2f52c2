/-! the reference's reader: a chunk is taken -/
def opS (kb : Nat) (ab : Nat → Nat) : Int32 := if kb = 1 then 8 else if kb = 2 then nI (ab 4 - 1) else -1
def ovS (hd kb : Nat) : Nat := if hd = 1 ∧ kb ≠ 1 then 1 else 0
def NTc (σ : zS) (B : Nat → Nat) : zRS → Prop
  | (q, bf, ser, tl, hd, ab, rg, px, pk) => NT σ B (Fn (kd bf) hd ab) (opS (kd bf) ab) (ovS hd (kd bf)) (q, bf, ser, tl, hd, ab, rg, px, pk)
theorem takK_blk {tp : List Nat} {kb kt : Nat} {ty : Int32} {m q ser tl hd : Nat} {ab : Nat → Nat} {rg px : Nat → Nat → Nat} {pk : List Nat} (hW : WFk tp kb q ser tl hd ab rg pk) (h3 : kb = 3) (hbl : (hd = 0 ∧ kt ≠ 1) ∨ (hd ≠ 0 ∧ kt ≠ 2)) : takK tp kb kt ty m q ser tl hd ab rg px pk = none := by
  obtain ⟨w1, w7, w8, w9, w10, w11, w12, w13, w14⟩ := hW
  have hh := w1.2.2.2.1
  unfold takK
  rw [if_neg (by omega)]
  by_cases t1 : kt = 1
  · rw [if_pos t1, if_pos (Or.inr ⟨by omega, by omega⟩)]
  rw [if_neg t1]
  by_cases t6 : kt = 6
  · rw [if_pos t6, if_neg (fun z => z.2.2.1 h3)]
  rw [if_neg t6]
  by_cases t4 : kt = 4
  · rw [if_pos t4]
  rw [if_neg t4]
  by_cases t5 : kt = 5
  · rw [if_pos t5, if_neg (fun z => by
      have z1 := z.2.1
      have z2 := z.2.2.1
      have z3 := (w8 (by omega)).2.2.1
      have z4 := (w13 h3).1
      clear z
      omega)]
  rw [if_neg t5]
  by_cases t3 : kt = 3
  · rw [if_pos t3, if_neg (fun z => z.2.1 h3)]
  rw [if_neg t3]
  by_cases t2 : kt = 2
  · rw [if_pos t2, if_neg (fun z => by
      have := z.2.1
      clear z
      omega)]
  rw [if_neg t2, if_neg (fun z => z.1 h3)]
section PMTAKE
variable {σ s t : zS} {B : Nat → Nat} {tp : List Nat} {ab : Nat → Nat} {rg px : Nat → Nat → Nat} {fn : Nat → Prop}
theorem RMw.of (hR : RMw σ B ab rg px fn) {fn' : Nat → Prop} (hf : ∀ f, fn' f → fn f) (h2 : ∀ k, zi s (B 2) k = zi σ (B 2) k) (h3 : ∀ k, zi s (B 3) k = zi σ (B 3) k) (h4 : ∀ k, zi s (B 4) k = zi σ (B 4) k) : RMw s B ab rg px fn' := ⟨fun k hk => (h2 _).trans (hR.1 k hk), fun f hf k hk => (h3 _).trans (hR.2.1 f hf k hk), fun f z => ⟨(hR.2.2 f (hf f z)).1, fun i hi => (h4 _).trans ((hR.2.2 f (hf f z)).2 i hi)⟩⟩
theorem PKm.u {l : List Nat} (h : PKm σ B l) (hb : zML σ B) {k : Nat} {v : Int32} (hk : k ≠ 14) : PKm (zuI σ (B 0) k v) B l := ⟨by rw [zi_uI, if_neg (fun z => hk z.2.symm)]; exact h.1, h.2.1, fun j hj => ⟨by rw [zi_uI, if_neg (fun z => absurd z.1 (hb.ne 8 0))]; exact (h.2.2 j hj).1, (h.2.2 j hj).2⟩⟩
theorem n_take {ty : Int32} {m q ser tl hd : Nat} {bf : Int32} {pk : List Nat} {op : Int32} {ov : Nat} (h : NB σ B tp) (hty : ty = nmS tp (q + 4)) (hT : NT σ B fn op ov (q, bf, ser, tl, hd, ab, rg, px, pk)) (hW : WFk tp (kd bf) q ser tl hd ab rg pk) (hm : q + 12 + m ≤ tp.length) (hop : op = if kd bf = kd ty then opS (kd bf) ab else -1) (hov : ov = if hd = 1 ∧ ¬ (kd bf = 1 ∧ kd ty = 1) then 1 else 0) (hfn : ∀ f, (Fn (kd bf) hd ab f ∨ (clC bf ty ∧ f = gsR (kd bf) ab)) → fn f) (k0 : kd bf ≠ 0) (t6 : kd ty ≠ 6) (t4 : kd ty ≠ 4) :
    (takK tp (kd bf) (kd ty) ty m q ser tl hd ab rg px pk = none ∧ fX12_takeChunk σ (B 0) (nI (q + 4)) (nI m) = some (0, σ)) ∨ ∃ R' s, takK tp (kd bf) (kd ty) ty m q ser tl hd ab rg px pk = some R' ∧ fX12_takeChunk σ (B 0) (nI (q + 4)) (nI m) = some (1, s) ∧ NF B σ s ∧ zi s (B 0) 3 = zi σ (B 0) 3 ∧ NTc s B R' := by
  have htl := h.2.2.1
  have ht0 : letS tp (q + 4) → kd ty ≠ 0 := by rw [hty]; exact kd_let h.by
  have hwf := fun R' e => wfk_take (R' := R') (ty := ty) (px := px) (cx := clC bf ty) hW hm ht0 (fun z n1 n2 => ⟨fun y => by rw [y] at n1 n2; omega, z⟩) e
  have hfin : ∀ (ser' tl' hd' : Nat) (ab' : Nat → Nat) (rg' px' : Nat → Nat → Nat) (pk' : List Nat), takK tp (kd bf) (kd ty) ty m q ser tl hd ab rg px pk = some (q + 12 + m, ty, ser', tl', hd', ab', rg', px', pk') → ∀ f, Fn (kd ty) hd' ab' f → kd bf ≠ 0 ∧ fn f := by
    intro ser' tl' hd' ab' rg' px' pk' et f hf
    obtain ⟨s', t', h', a', r', p', ew, -, hw2⟩ := hwf _ et
    simp only [Prod.mk.injEq] at ew
    obtain ⟨-, -, -, -, eh, ea, -⟩ := ew
    subst eh
    subst ea
    obtain ⟨y1, y2⟩ := hw2 f hf
    exact ⟨y1, hfn f y2⟩
  clear hwf
  obtain ⟨⟨w1, w2, w3, w4, w5, w6⟩, w7, w8, w9, w10, w11, w12, w13, w14⟩ := id hW
  obtain ⟨⟨f23, f25, f26, f27, f28, f30, f31⟩, -, hRM, hpk⟩ := hT
  obtain ⟨hR, f24, f29⟩ := hRM k0
  obtain ⟨v1, v2, v3, v4⟩ := w8 k0
  obtain ⟨b0, b1, b2, b4, b5, -⟩ := v1.b
  have hm32 : m < 2147483648 := by omega
  have a8 : nI (q + 4) + 4 = nI (q + 8) := nI_add (q + 4) 4
  have a12 : nI (q + 8) + 4 = nI (q + 12) := nI_add (q + 8) 4
  have q27 : nI hd = 0 ↔ hd = 0 := nI_eq (b := 0) (by omega) (by decide)
  have q23 : nI (if tl = 0 then 0 else 1) = 0 ↔ tl = 0 := by
    by_cases c : tl = 0
    · rw [if_pos c]; exact ⟨fun _ => c, fun _ => rfl⟩
    · rw [if_neg c]; exact ⟨fun z => absurd z (by decide), fun z => absurd z c⟩
  have q31 : nI (if kd bf = 3 then 1 else 0) = 0 ↔ ¬ kd bf = 3 := by
    by_cases c : kd bf = 3
    · rw [if_pos c]; exact ⟨fun z => absurd z (by decide), fun z => absurd c z⟩
    · rw [if_neg c]; exact ⟨fun _ => c, fun _ => rfl⟩
  obtain ⟨⟨ty1, tn1⟩, ⟨ty2, tn2⟩, ⟨ty3, tn3⟩, -, ⟨ty5, tn5⟩, -⟩ := n_ty h (i := q + 4) (by omega)
  rw [← hty] at ty1 tn1 ty2 tn2 ty3 tn3 ty5 tn5
  have hbl : ∀ x1 x2, fX12_isType σ (B 0) (nI (q + 4)) 73 68 65 84 = some x1 → fX12_isType σ (B 0) (nI (q + 4)) 102 100 65 84 = some x2 → (x1 = 0 ↔ ¬ kd ty = 1) → (x2 = 0 ↔ ¬ kd ty = 2) → ¬ (kd bf = 3 ∧ ((hd = 0 ∧ kd ty ≠ 1) ∨ (hd ≠ 0 ∧ kd ty ≠ 2))) → gX12_takeChunk σ (B 0) (nI (q + 4)) (nI m) = fX12_takeChunk_63 σ (B 0) (nI (q + 4)) (nI m) (nI (q + 8)) x1 x2 := fun x1 x2 e1 e2 h1 h2 hb => by
    unfold gX12_takeChunk
    rw [oL_eq, a8, oA_eq h.k.1, oB_eq e1, oA_eq h.k.1, oB_eq e2, oGI_eq h.k.1 f31, oGI_eq h.k.1 f27]
    by_cases c3 : kd bf = 3
    · rw [if_neg (fun z => (q31.mp z) c3)]
      by_cases ch : hd = 0
      · rw [if_pos (q27.mpr ch), if_neg (fun z => hb ⟨c3, Or.inl ⟨ch, h1.mp z⟩⟩)]
      · rw [if_neg (fun z => ch (q27.mp z)), if_neg (fun z => hb ⟨c3, Or.inr ⟨ch, h2.mp z⟩⟩)]
    · rw [if_pos (q31.mpr c3)]
  have hblk : (kd bf = 3 ∧ ((hd = 0 ∧ kd ty ≠ 1) ∨ (hd ≠ 0 ∧ kd ty ≠ 2))) → ∀ x1 x2, fX12_isType σ (B 0) (nI (q + 4)) 73 68 65 84 = some x1 → fX12_isType σ (B 0) (nI (q + 4)) 102 100 65 84 = some x2 → (x1 = 0 ↔ ¬ kd ty = 1) → (x2 = 0 ↔ ¬ kd ty = 2) → gX12_takeChunk σ (B 0) (nI (q + 4)) (nI m) = some (0, σ) := fun hb x1 x2 e1 e2 h1 h2 => by
    unfold gX12_takeChunk
    rw [oL_eq, a8, oA_eq h.k.1, oB_eq e1, oA_eq h.k.1, oB_eq e2, oGI_eq h.k.1 f31, oGI_eq h.k.1 f27, if_neg (fun z => (q31.mp z) hb.1)]
    by_cases ch : hd = 0
    · rw [if_pos (q27.mpr ch), if_pos (h1.mpr (by rcases hb.2 with z | z <;> omega))]
    · rw [if_neg (fun z => ch (q27.mp z)), if_pos (h2.mpr (by rcases hb.2 with z | z <;> omega))]
  by_cases hb : kd bf = 3 ∧ ((hd = 0 ∧ kd ty ≠ 1) ∨ (hd ≠ 0 ∧ kd ty ≠ 2))
  · refine Or.inl ⟨takK_blk hW hb.1 hb.2, oCw ?_ (Or.inl rfl)⟩
    by_cases t1 : kd ty = 1
    · exact hblk hb 1 0 (ty1 t1) (tn2 (by omega)) ⟨fun z => absurd z (by decide), fun z => absurd t1 z⟩ ⟨fun _ => by omega, fun _ => rfl⟩
    · by_cases t2 : kd ty = 2
      · exact hblk hb 0 1 (tn1 t1) (ty2 t2) ⟨fun _ => t1, fun _ => rfl⟩ ⟨fun z => absurd z (by decide), fun z => absurd t2 z⟩
      · exact hblk hb 0 0 (tn1 t1) (tn2 t2) ⟨fun _ => t1, fun _ => rfl⟩ ⟨fun _ => t2, fun _ => rfl⟩
  clear hblk
  have hno : takK tp (kd bf) (kd ty) ty m q ser tl hd ab rg px pk = none → gX12_takeChunk σ (B 0) (nI (q + 4)) (nI m) = some (0, σ) → (takK tp (kd bf) (kd ty) ty m q ser tl hd ab rg px pk = none ∧ fX12_takeChunk σ (B 0) (nI (q + 4)) (nI m) = some (0, σ)) ∨ ∃ R' s, takK tp (kd bf) (kd ty) ty m q ser tl hd ab rg px pk = some R' ∧ fX12_takeChunk σ (B 0) (nI (q + 4)) (nI m) = some (1, s) ∧ NF B σ s ∧ zi s (B 0) 3 = zi σ (B 0) 3 ∧ NTc s B R' := fun e1 e2 => Or.inl ⟨e1, oCw e2 (Or.inl rfl)⟩
  have fm : ∀ {j : Nat}, 14 ≤ j → j < 32 → FMr j := fun h1 h2 => Or.inr (Or.inr ⟨h1, h2⟩)
  by_cases t1 : kd ty = 1
  · have e0 := hbl 1 0 (ty1 t1) (tn2 (by omega)) ⟨fun z => absurd z (by decide), fun z => absurd t1 z⟩ ⟨fun _ => by omega, fun _ => rfl⟩ hb
    unfold fX12_takeChunk_63 at e0
    rw [if_neg (by decide), oGI_eq h.k.1 f28, oGI_eq h.k.1 f23, oGI_eq h.k.1 f27] at e0
    have hnone : (tl = 0 ∨ (hd = 1 ∧ kd bf ≠ 1)) → takK tp (kd bf) (kd ty) ty m q ser tl hd ab rg px pk = none := fun c => by
      unfold takK
      rw [if_neg k0, if_pos t1, if_pos c]
    by_cases y1 : hd = 1 ∧ kd bf ≠ 1
    · have : ov = 1 := by rw [hov, if_pos ⟨y1.1, fun z => y1.2 z.1⟩]
      exact hno (hnone (Or.inr y1)) (by rw [e0, this, if_neg (by decide)])
    have ov0 : ov = 0 := by rw [hov, if_neg (fun z => y1 ⟨z.1, fun y => z.2 ⟨y, t1⟩⟩)]
    rw [ov0, if_pos (by decide)] at e0
    by_cases y2 : tl = 0
    · exact hno (hnone (Or.inl y2)) (by rw [e0, if_pos (q23.mpr y2)])
    rw [if_neg (fun z => y2 (q23.mp z))] at e0
    have et : takK tp (kd bf) (kd ty) ty m q ser tl hd ab rg px pk = some (q + 12 + m, ty, ser, tl, 1, ab, rg, px, (if hd = 0 then [] else pk) ++ prtS tp (q + 8) m) := by
      unfold takK
      rw [if_neg k0, if_pos t1, if_neg (fun z => z.elim y2 y1)]
    have hl : ∃ l, l = (if hd = 0 then [] else pk) ∧ l.length ≤ q ∧ PKm (zuI σ (B 0) 14 (nI l.length)) B l ∧ gX12_takeChunk σ (B 0) (nI (q + 4)) (nI m) = fX12_takeChunk_100 σ (B 0) (nI m) (nI (q + 8)) (nI l.length) (B 0) := by
      by_cases c : hd = 0
      · refine ⟨[], by rw [if_pos c], Nat.zero_le _, ⟨by rw [zi_uI, if_pos ⟨rfl, rfl⟩], Nat.zero_le _, fun j hj => absurd hj (Nat.not_lt_zero j)⟩, ?_⟩
        rw [e0, if_pos (q27.mpr c)]
        rfl
      · have kb1 : kd bf = 1 := by
          by_cases z : kd bf = 1
          · exact z
          · exact absurd ⟨by omega, z⟩ y1
        have hp := hpk (Or.inl kb1)
        refine ⟨pk, by rw [if_neg c], w14 (Or.inl kb1), ⟨by rw [zi_uI, if_pos ⟨rfl, rfl⟩], hp.2.1, fun j hj => ⟨by rw [zi_uI, if_neg (fun z => absurd z.1 (h.1.ne 8 0))]; exact (hp.2.2 j hj).1, (hp.2.2 j hj).2⟩⟩, ?_⟩
        rw [e0, if_neg (fun z => c (q27.mp z)), oGI_eq h.k.1 hp.1]
    obtain ⟨l, hl1, hl2, hl3, hl4⟩ := hl
    rw [← hl1] at et
    have hz : NF B σ (zuI (zuI (zuI (zuI σ (B 0) 14 (nI l.length)) (B 0) 27 1) (B 0) 31 0) (B 0) 30 8) := (((NF.rf.u0 h.1 (fm (by decide) (by decide))).u0 h.1 (fm (by decide) (by decide))).u0 h.1 (fm (by decide) (by decide))).u0 h.1 (fm (by decide) (by decide))
    have hp4 : PKm (zuI (zuI (zuI (zuI σ (B 0) 14 (nI l.length)) (B 0) 27 1) (B 0) 31 0) (B 0) 30 8) B l := ((hl3.u h.1.u (by decide)).u h.1.u.u (by decide)).u h.1.u.u.u (by decide)
    have i0 : ∀ j, j ≠ 14 → j ≠ 27 → j ≠ 31 → j ≠ 30 → zi (zuI (zuI (zuI (zuI σ (B 0) 14 (nI l.length)) (B 0) 27 1) (B 0) 31 0) (B 0) 30 8) (B 0) j = zi σ (B 0) j := fun j c1 c2 c3 c4 => by simp only [zi_uI, c1, c2, c3, c4, and_false, ↓reduceIte]
    have i27 : zi (zuI (zuI (zuI (zuI σ (B 0) 14 (nI l.length)) (B 0) 27 1) (B 0) 31 0) (B 0) 30 8) (B 0) 27 = 1 := by simp only [zi_uI, true_and, ↓reduceIte, Nat.reduceEqDiff]
    have i31 : zi (zuI (zuI (zuI (zuI σ (B 0) 14 (nI l.length)) (B 0) 27 1) (B 0) 31 0) (B 0) 30 8) (B 0) 31 = 0 := by simp only [zi_uI, true_and, ↓reduceIte, Nat.reduceEqDiff]
    have i30 : zi (zuI (zuI (zuI (zuI σ (B 0) 14 (nI l.length)) (B 0) 27 1) (B 0) 31 0) (B 0) 30 8) (B 0) 30 = 8 := by simp only [zi_uI, true_and, ↓reduceIte]
    have ja : ∀ j, j < 12 → j ≠ 0 → ∀ k, zi (zuI (zuI (zuI (zuI σ (B 0) 14 (nI l.length)) (B 0) 27 1) (B 0) 31 0) (B 0) 30 8) (B j) k = zi σ (B j) k := fun j hj hn k => by
      have : ¬ B j = B 0 := fun z => hn (h.1.1 j 0 hj (by decide) z)
      simp only [zi_uI, this, false_and, ↓reduceIte]
    unfold fX12_takeChunk_100 at hl4
    rw [oPI_eq h.k.1, oPZ_eq (by exact h.k.1) (Or.inr rfl), oPZ_eq (by exact h.k.1) (Or.inl rfl), oPI_eq (by exact h.k.1)] at hl4
    generalize zuI (zuI (zuI (zuI σ (B 0) 14 (nI l.length)) (B 0) 27 1) (B 0) 31 0) (B 0) 30 8 = s4 at hl4 hz hp4 i0 i27 i31 i30 ja
    have h4 := h.of hz
    obtain ⟨s5, e5, n5, p5, c2, c3, c4, B5⟩ := n_append h4 (fr := q + 8) (m := m) hp4 (by omega) (by omega)
    rw [oA_eq h4.k.1, nI_add, oB_eq e5] at hl4
    refine Or.inr ⟨_, s5, et, oCw hl4 (Or.inr rfl), hz.trans n5, (p5 3 (by decide)).trans (i0 3 (by decide) (by decide) (by decide) (by decide)), ⟨(p5 23 (by decide)).trans ((i0 23 (by decide) (by decide) (by decide) (by decide)).trans f23), (p5 25 (by decide)).trans ((i0 25 (by decide) (by decide) (by decide) (by decide)).trans f25), (p5 26 (by decide)).trans ((i0 26 (by decide) (by decide) (by decide) (by decide)).trans f26), (p5 27 (by decide)).trans i27, (p5 28 (by decide)).trans ((i0 28 (by decide) (by decide) (by decide) (by decide)).trans ?_), (p5 30 (by decide)).trans (i30.trans ?_), (p5 31 (by decide)).trans (i31.trans ?_)⟩, fun z => by omega, fun _ => ⟨hR.of (fun f hf => (hfin _ _ _ _ _ _ _ et f hf).2) (fun k => (c2 k).trans (ja 2 (by decide) (by decide) k)) (fun k => (c3 k).trans (ja 3 (by decide) (by decide) k)) (fun k => (c4 k).trans (ja 4 (by decide) (by decide) k)), (p5 24 (by decide)).trans ((i0 24 (by decide) (by decide) (by decide) (by decide)).trans f24), (p5 29 (by decide)).trans ((i0 29 (by decide) (by decide) (by decide) (by decide)).trans f29)⟩, fun _ => B5⟩
    · rw [f28, ov0]
      unfold ovS
      rw [if_neg (fun z => z.2 t1)]
    · unfold opS
      rw [if_pos t1]
    · rw [if_neg (by omega)]
      rfl
  by_cases t2 : kd ty = 2
  · have e0 := hbl 0 1 (tn1 t1) (ty2 t2) ⟨fun _ => t1, fun _ => rfl⟩ ⟨fun z => absurd z (by decide), fun z => absurd t2 z⟩ hb
    unfold fX12_takeChunk_63 at e0
    rw [if_pos rfl, if_neg (by decide), oGI_eq h.k.1 f31, oGI_eq h.k.1 f30, oGI_eq h.k.1 f30] at e0
    have hnone : ¬ (4 ≤ m ∧ hd = 1 ∧ (kd bf = 3 ∨ kd bf = 2) ∧ nmS tp (q + 8) = nI ser) → takK tp (kd bf) (kd ty) ty m q ser tl hd ab rg px pk = none := fun c => by
      unfold takK
      rw [if_neg k0, if_neg t1, if_neg t6, if_neg t4, if_neg (by omega), if_neg (by omega), if_pos t2, if_neg c]
    by_cases y1 : kd bf = 3 ∨ kd bf = 2
    rotate_left
    · have c3 : ¬ kd bf = 3 := fun z => y1 (Or.inl z)
      have c2 : ¬ kd bf = kd ty := fun z => y1 (Or.inr (by omega))
      refine hno (hnone (fun z => y1 z.2.2.1)) ?_
      rw [e0, if_pos (q31.mpr c3), hop, if_neg c2, if_pos (by decide)]
      rfl
    have hd1 : hd = 1 := by
      rcases y1 with z | z
      · by_cases zz : hd = 0
        · exact absurd ⟨z, Or.inl ⟨zz, t1⟩⟩ hb
        · omega
      · exact (w12 z).1
    have h40 : 0 < ab 4 := by
      rcases y1 with z | z
      · exact (w13 z).1
      · have := (w12 z).2; omega
    have e1 : gX12_takeChunk σ (B 0) (nI (q + 4)) (nI m) = fX12_takeChunk_157 σ (B 0) (nI m) (nI (q + 8)) := by
      rw [e0]
      by_cases z : kd bf = 3
      · rw [if_neg (fun y => (q31.mp y) z)]
      · have z2 : kd bf = 2 := y1.resolve_left z
        have ho : op = nI (ab 4 - 1) := by
          rw [hop, if_pos (by omega)]
          unfold opS
          rw [if_neg (by omega), if_pos z2]
        rw [if_pos (q31.mpr z), ho, if_neg (nI_pos (by omega)), if_neg (fun y => by
          have := (nI_leI (a := 8) (b := ab 4 - 1) (by decide) (by omega)).mp y
          omega)]
    clear e0
    unfold fX12_takeChunk_157 fX12_takeChunk_162 at e1
    have q4 : nI m < 4 ↔ m < 4 := nI_ltI (b := 4) hm32 (by decide)
    rw [if_neg (by decide)] at e1
    by_cases y2 : m < 4
    · exact hno (hnone (fun z => by have := z.1; clear z; omega)) (by rw [e1, if_pos (q4.mpr y2)])
    rw [if_neg (fun z => y2 (q4.mp z)), oA_eq h.k.1, oB_eq (n_num h (i := q + 8) (by omega)), oGI_eq h.k.1 f26] at e1
    by_cases y3 : nmS tp (q + 8) = nI ser
    rotate_left
    · exact hno (hnone (fun z => y3 z.2.2.2)) (by rw [e1, if_neg y3])
    rw [if_pos y3, oGI_eq h.k.1 f31] at e1
    have et : takK tp (kd bf) (kd ty) ty m q ser tl hd ab rg px pk = some (q + 12 + m, ty, ser + 1, tl, hd, ab, rg, px, (if kd bf = 3 then [] else pk) ++ prtS tp (q + 12) (m - 4)) := by
      unfold takK
      rw [if_neg k0, if_neg t1, if_neg t6, if_neg t4, if_neg (by omega), if_neg (by omega), if_pos t2, if_pos ⟨by omega, hd1, y1, y3⟩]
    clear y3
    have hl : ∃ l, l = (if kd bf = 3 then [] else pk) ∧ l.length ≤ q ∧ PKm (zuI σ (B 0) 14 (nI l.length)) B l ∧ gX12_takeChunk σ (B 0) (nI (q + 4)) (nI m) = fX12_takeChunk_204 σ (B 0) (nI m) (nI (q + 8)) (nI l.length) (B 0) := by
      by_cases c : kd bf = 3
      · refine ⟨[], by rw [if_pos c], Nat.zero_le _, ⟨by rw [zi_uI, if_pos ⟨rfl, rfl⟩], Nat.zero_le _, fun j hj => absurd hj (Nat.not_lt_zero j)⟩, ?_⟩
        rw [e1, if_neg (fun z => (q31.mp z) c)]
        rfl
      · have kb2 : kd bf = 2 := y1.resolve_left c
        have hp := hpk (Or.inr kb2)
        refine ⟨pk, by rw [if_neg c], w14 (Or.inr kb2), ⟨by rw [zi_uI, if_pos ⟨rfl, rfl⟩], hp.2.1, fun j hj => ⟨by rw [zi_uI, if_neg (fun z => absurd z.1 (h.1.ne 8 0))]; exact (hp.2.2 j hj).1, (hp.2.2 j hj).2⟩⟩, ?_⟩
        rw [e1, if_pos (q31.mpr c), oGI_eq h.k.1 hp.1]
    obtain ⟨l, hl1, hl2, hl3, hl4⟩ := hl
    rw [← hl1] at et
    have a41 : nI (ab 4) - 1 = nI (ab 4 - 1) := pk_sub (b := 1) (by omega)
    have hz : NF B σ (zuI (zuI (zuI (zuI σ (B 0) 14 (nI l.length)) (B 0) 30 (nI (ab 4 - 1))) (B 0) 31 0) (B 0) 26 (nI (ser + 1))) := (((NF.rf.u0 h.1 (fm (by decide) (by decide))).u0 h.1 (fm (by decide) (by decide))).u0 h.1 (fm (by decide) (by decide))).u0 h.1 (fm (by decide) (by decide))
    have hp4 : PKm (zuI (zuI (zuI (zuI σ (B 0) 14 (nI l.length)) (B 0) 30 (nI (ab 4 - 1))) (B 0) 31 0) (B 0) 26 (nI (ser + 1))) B l := ((hl3.u h.1.u (by decide)).u h.1.u.u (by decide)).u h.1.u.u.u (by decide)
    have i0 : ∀ j, j ≠ 14 → j ≠ 26 → j ≠ 31 → j ≠ 30 → zi (zuI (zuI (zuI (zuI σ (B 0) 14 (nI l.length)) (B 0) 30 (nI (ab 4 - 1))) (B 0) 31 0) (B 0) 26 (nI (ser + 1))) (B 0) j = zi σ (B 0) j := fun j c1 c2 c3 c4 => by simp only [zi_uI, c1, c2, c3, c4, and_false, ↓reduceIte]
    have i26 : zi (zuI (zuI (zuI (zuI σ (B 0) 14 (nI l.length)) (B 0) 30 (nI (ab 4 - 1))) (B 0) 31 0) (B 0) 26 (nI (ser + 1))) (B 0) 26 = nI (ser + 1) := by simp only [zi_uI, true_and, ↓reduceIte]
    have i31 : zi (zuI (zuI (zuI (zuI σ (B 0) 14 (nI l.length)) (B 0) 30 (nI (ab 4 - 1))) (B 0) 31 0) (B 0) 26 (nI (ser + 1))) (B 0) 31 = 0 := by simp only [zi_uI, true_and, ↓reduceIte, Nat.reduceEqDiff]
    have i30 : zi (zuI (zuI (zuI (zuI σ (B 0) 14 (nI l.length)) (B 0) 30 (nI (ab 4 - 1))) (B 0) 31 0) (B 0) 26 (nI (ser + 1))) (B 0) 30 = nI (ab 4 - 1) := by simp only [zi_uI, true_and, ↓reduceIte, Nat.reduceEqDiff]
    have ja : ∀ j, j < 12 → j ≠ 0 → ∀ k, zi (zuI (zuI (zuI (zuI σ (B 0) 14 (nI l.length)) (B 0) 30 (nI (ab 4 - 1))) (B 0) 31 0) (B 0) 26 (nI (ser + 1))) (B j) k = zi σ (B j) k := fun j hj hn k => by
      have : ¬ B j = B 0 := fun z => hn (h.1.1 j 0 hj (by decide) z)
      simp only [zi_uI, this, false_and, ↓reduceIte]
    have y24 : zi (zuI σ (B 0) 14 (nI l.length)) (B 0) 24 = nI (ab 4) := by rw [zi_uI, if_neg (by omega)]; exact f24
    have y26 : zi (zuI (zuI (zuI σ (B 0) 14 (nI l.length)) (B 0) 30 (nI (ab 4 - 1))) (B 0) 31 0) (B 0) 26 = nI ser := by rw [zi_uI, if_neg (by omega), zi_uI, if_neg (by omega), zi_uI, if_neg (by omega)]; exact f26
    unfold fX12_takeChunk_204 at hl4
    rw [oPI_eq h.k.1, oGI_eq (by exact h.k.1) y24, a41, oPI_eq (by exact h.k.1), oPZ_eq (by exact h.k.1) (Or.inl rfl), oGI_eq (by exact h.k.1) y26, nI_1, oPI_eq (by exact h.k.1)] at hl4
    generalize zuI (zuI (zuI (zuI σ (B 0) 14 (nI l.length)) (B 0) 30 (nI (ab 4 - 1))) (B 0) 31 0) (B 0) 26 (nI (ser + 1)) = s4 at hl4 hz hp4 i0 i26 i31 i30 ja
    have h4 := h.of hz
    obtain ⟨s5, e5, n5, p5, c2, c3, c4, B5⟩ := n_append h4 (fr := q + 12) (m := m - 4) hp4 (by omega) (by omega)
    have a3 : nI (q + 8) + nI m = nI (q + 12 + (m - 4)) := by rw [nI_add]; congr 1; omega
    rw [oA_eq h4.k.1, a12, a3, oB_eq e5] at hl4
    refine Or.inr ⟨_, s5, et, oCw hl4 (Or.inr rfl), hz.trans n5, (p5 3 (by decide)).trans (i0 3 (by decide) (by decide) (by decide) (by decide)), ⟨(p5 23 (by decide)).trans ((i0 23 (by decide) (by decide) (by decide) (by decide)).trans f23), (p5 25 (by decide)).trans ((i0 25 (by decide) (by decide) (by decide) (by decide)).trans f25), (p5 26 (by decide)).trans i26, (p5 27 (by decide)).trans ((i0 27 (by decide) (by decide) (by decide) (by decide)).trans f27), (p5 28 (by decide)).trans ((i0 28 (by decide) (by decide) (by decide) (by decide)).trans ?_), (p5 30 (by decide)).trans (i30.trans ?_), (p5 31 (by decide)).trans (i31.trans ?_)⟩, fun z => by omega, fun _ => ⟨hR.of (fun f hf => (hfin _ _ _ _ _ _ _ et f hf).2) (fun k => (c2 k).trans (ja 2 (by decide) (by decide) k)) (fun k => (c3 k).trans (ja 3 (by decide) (by decide) k)) (fun k => (c4 k).trans (ja 4 (by decide) (by decide) k)), (p5 24 (by decide)).trans ((i0 24 (by decide) (by decide) (by decide) (by decide)).trans f24), (p5 29 (by decide)).trans ((i0 29 (by decide) (by decide) (by decide) (by decide)).trans f29)⟩, fun _ => B5⟩
    · rw [f28, hov, if_pos ⟨hd1, fun z => t1 z.2⟩]
      unfold ovS
      rw [if_pos ⟨hd1, t1⟩]
    · unfold opS
      rw [if_neg t1, if_pos t2]
    · rw [if_neg (by omega)]
      rfl
  have e0 := hbl 0 0 (tn1 t1) (tn2 t2) ⟨fun _ => t1, fun _ => rfl⟩ ⟨fun _ => t2, fun _ => rfl⟩ hb
  have c3 : ¬ kd bf = 3 := fun z => hb ⟨z, by omega⟩
  have opm : op = -1 := by
    rw [hop]
    by_cases z : kd bf = kd ty
    · rw [if_pos z]
      unfold opS
      rw [if_neg (by omega), if_neg (by omega)]
    · rw [if_neg z]
  have opt : ∀ ab' : Nat → Nat, opS (kd ty) ab' = -1 := fun ab' => by
    unfold opS
    rw [if_neg t1, if_neg t2]
  have ovt : nI ov = nI (ovS hd (kd ty)) := by
    rw [hov]
    unfold ovS
    by_cases z : hd = 1
    · rw [if_pos ⟨z, fun y => t1 y.2⟩, if_pos ⟨z, t1⟩]
    · rw [if_neg (fun y => z y.1), if_neg (fun y => z y.1)]
  have f31' : zi σ (B 0) 31 = nI 0 := by rw [f31, if_neg c3]
  unfold fX12_takeChunk_63 at e0
  rw [if_pos rfl, if_pos rfl, oA_eq h.k.1] at e0
  by_cases t5 : kd ty = 5
  · rw [oB_eq (ty5 t5), if_neg (by decide), oA_eq h.k.1] at e0
    obtain ⟨cy, cn⟩ := n_count h (f := q + 8) (m := m) (tl := tl) (hd := hd) hm32 (fun z => by omega) f23 f27 w4
    by_cases c : m = 8 ∧ tl = 0 ∧ hd = 0 ∧ 1 ≤ (nmS tp (q + 8)).toInt ∧ (nmS tp (q + 8)).toInt ≤ 8
    rotate_left
    · exact hno (by unfold takK; rw [if_neg k0, if_neg t1, if_neg t6, if_neg t4, if_pos t5, if_neg c]) (by rw [e0, oC_eq (cn c)])
    rw [oC_eq (cy c)] at e0
    have et : takK tp (kd bf) (kd ty) ty m q ser tl hd ab rg px pk = some (q + 12 + m, ty, ser, (nmS tp (q + 8)).toInt.toNat, hd, abP ab (zn4 (fun j => tp.getD j 0) (q + 8 + 4)), rg, px, pk) := by
      unfold takK
      rw [if_neg k0, if_neg t1, if_neg t6, if_neg t4, if_pos t5, if_pos c]
    have hnn := znI_1 c.2.2.2.1
    have hn0 : ¬ (nmS tp (q + 8)).toInt.toNat = 0 := by
      have := (znat_b (n := 8) c.2.2.2.1 c.2.2.2.2).1
      clear c
      generalize (nmS tp (q + 8)).toInt.toNat = x at this ⊢
      omega
    clear c
    have hz : NF B σ (zuI (zuI (zuI σ (B 0) 23 1) (B 0) 25 (nmS tp (q + 8))) (B 2) 9 (nmS tp (q + 8 + 4))) := ((NF.rf.u0 h.1 (fm (by decide) (by decide))).u0 h.1 (fm (by decide) (by decide))).u2 h.1 (by decide)
    have n02 : ¬ B 0 = B 2 := h.1.ne 0 2
    have n20 : ¬ B 2 = B 0 := h.1.ne 2 0
    have i0 : ∀ j, j ≠ 23 → j ≠ 25 → zi (zuI (zuI (zuI σ (B 0) 23 1) (B 0) 25 (nmS tp (q + 8))) (B 2) 9 (nmS tp (q + 8 + 4))) (B 0) j = zi σ (B 0) j := fun j y1 y2 => by simp only [zi_uI, n02, y1, y2, and_false, false_and, ↓reduceIte]
    have i23 : zi (zuI (zuI (zuI σ (B 0) 23 1) (B 0) 25 (nmS tp (q + 8))) (B 2) 9 (nmS tp (q + 8 + 4))) (B 0) 23 = 1 := by simp only [zi_uI, n02, true_and, false_and, ↓reduceIte, Nat.reduceEqDiff]
    have i25 : zi (zuI (zuI (zuI σ (B 0) 23 1) (B 0) 25 (nmS tp (q + 8))) (B 2) 9 (nmS tp (q + 8 + 4))) (B 0) 25 = nmS tp (q + 8) := by simp only [zi_uI, n02, true_and, false_and, ↓reduceIte]
    have j2 : ∀ k, k ≠ 9 → zi (zuI (zuI (zuI σ (B 0) 23 1) (B 0) 25 (nmS tp (q + 8))) (B 2) 9 (nmS tp (q + 8 + 4))) (B 2) k = zi σ (B 2) k := fun k hk => by simp only [zi_uI, n20, hk, and_false, false_and, ↓reduceIte]
    have j29 : zi (zuI (zuI (zuI σ (B 0) 23 1) (B 0) 25 (nmS tp (q + 8))) (B 2) 9 (nmS tp (q + 8 + 4))) (B 2) 9 = nmS tp (q + 8 + 4) := by rw [zi_uI, if_pos ⟨rfl, rfl⟩]
    have ja : ∀ j, j < 12 → j ≠ 0 → j ≠ 2 → ∀ k, zi (zuI (zuI (zuI σ (B 0) 23 1) (B 0) 25 (nmS tp (q + 8))) (B 2) 9 (nmS tp (q + 8 + 4))) (B j) k = zi σ (B j) k := fun j hj hn hn2 k => by
      have y1 : ¬ B j = B 0 := fun z => hn (h.1.1 j 0 hj (by decide) z)
      have y2 : ¬ B j = B 2 := fun z => hn2 (h.1.1 j 2 hj (by decide) z)
      simp only [zi_uI, y1, y2, false_and, ↓reduceIte]
    generalize zuI (zuI (zuI σ (B 0) 23 1) (B 0) 25 (nmS tp (q + 8))) (B 2) 9 (nmS tp (q + 8 + 4)) = s4 at e0 hz i0 i23 i25 j2 j29 ja
    have hRs : RMw s4 B (abP ab (zn4 (fun j => tp.getD j 0) (q + 8 + 4))) rg px (Fn (kd ty) hd (abP ab (zn4 (fun j => tp.getD j 0) (q + 8 + 4)))) := by
      have hfn' := fun f hf => (hfin _ _ _ _ _ _ _ et f hf).2
      have j29' : zi s4 (B 2) 9 = nI (zn4 (fun j => tp.getD j 0) (q + 8 + 4)) := j29
      generalize zn4 (fun j => tp.getD j 0) (q + 8 + 4) = pp at hfn' j29' ⊢
      refine ⟨fun k hk => ?_, fun f hf k hk => (ja 3 (by decide) (by decide) (by decide) _).trans (hR.2.1 f hf k hk), fun f hf => ⟨(hR.2.2 f (hfn' f hf)).1, fun i hi => (ja 4 (by decide) (by decide) (by decide) _).trans ((hR.2.2 f (hfn' f hf)).2 i hi)⟩⟩
      show _ = nI (if k = 3 then pp else ab k)
      by_cases y : k = 3
      · subst y
        rw [if_pos rfl]
        exact j29'
      · rw [if_neg y]
        exact (j2 (6 + k) (by omega)).trans (hR.1 k hk)
    refine Or.inr ⟨_, s4, et, oCw e0 (Or.inr rfl), hz, i0 3 (by decide) (by decide), ⟨i23.trans ?_, i25.trans hnn, (i0 26 (by decide) (by decide)).trans f26, (i0 27 (by decide) (by decide)).trans f27, (i0 28 (by decide) (by decide)).trans (f28.trans ovt), (i0 30 (by decide) (by decide)).trans (f30.trans (opm.trans (opt _).symm)), (i0 31 (by decide) (by decide)).trans (f31'.trans ?_)⟩, fun z => by omega, fun _ => ⟨hRs, (i0 24 (by decide) (by decide)).trans f24, (i0 29 (by decide) (by decide)).trans f29⟩, fun z => by omega⟩
    · rw [if_neg hn0]
      rfl
    · rw [if_neg (by omega)]
  rw [oB_eq (tn5 t5), if_pos rfl, oA_eq h.k.1] at e0
  by_cases t3 : kd ty = 3
  · rw [oB_eq (ty3 t3), if_neg (by decide), oA_eq h.k.1] at e0
    obtain ⟨cn, cy⟩ := n_control h (f := q + 8) (m := m) hm32 (fun z => by omega) f23 f24 f25 f26 f27 f29 hR v1 w3 v3 w4 (by omega) (fun z => by
      rcases w10 z k0 with y | y
      · exact ⟨y.1, y.2.1⟩
      · exact absurd y.1 c3)
    by_cases c : m = 26 ∧ ab 4 < tl ∧ okC tp (q + 8) ser ab hd
    rotate_left
    · exact hno (by unfold takK; rw [if_neg k0, if_neg t1, if_neg t6, if_neg t4, if_neg t5, if_pos t3, if_neg (fun z => c ⟨z.1, z.2.2⟩)]) (by rw [e0, oC_eq (cn c)])
    obtain ⟨s4, es, hz, i0, i24, i26, i29, i31, hRs⟩ := cy c
    rw [oC_eq es] at e0
    have et : takK tp (kd bf) (kd ty) ty m q ser tl hd ab rg px pk = some (q + 12 + m, ty, ser + 1, tl, hd, abC ab hd, rgF rg (ab 4) (rgC tp (q + 8)), px, pk) := by
      unfold takK
      rw [if_neg k0, if_neg t1, if_neg t6, if_neg t4, if_neg t5, if_pos t3, if_pos ⟨c.1, c3, c.2⟩]
    clear c
    refine Or.inr ⟨_, s4, et, oCw e0 (Or.inr rfl), hz, i0 3 (by decide) (by decide) (by decide) (by decide), ⟨(i0 23 (by decide) (by decide) (by decide) (by decide)).trans f23, (i0 25 (by decide) (by decide) (by decide) (by decide)).trans f25, i26, (i0 27 (by decide) (by decide) (by decide) (by decide)).trans f27, (i0 28 (by decide) (by decide) (by decide) (by decide)).trans (f28.trans ovt), (i0 30 (by decide) (by decide) (by decide) (by decide)).trans (f30.trans (opm.trans (opt _).symm)), i31.trans ?_⟩, fun z => by omega, fun _ => ⟨hRs.of (fun f hf => ⟨(hfin _ _ _ _ _ _ _ et f hf).2, ?_⟩) (fun _ => rfl) (fun _ => rfl) (fun _ => rfl), i24, i29⟩, fun z => by omega⟩
    · rw [if_pos t3]
      rfl
    · rcases hf with ⟨y1, y2, -⟩ | ⟨y1, y2, y3, -⟩
      · have y1' : f < ab 4 + 1 := y1
        have y2' : ¬ ((kd ty = 3 ∨ kd ty = 2) ∧ f + 1 = ab 4 + 1) := y2
        refine ⟨Or.inl (by omega), ?_⟩
        by_cases z : hd = 0
        · rcases w10 z k0 with y | y <;> omega
        · omega
      · exact ⟨Or.inr y1, y3⟩
  rw [oB_eq (tn3 t3), if_pos rfl] at e0
  have hnone : ¬ letS tp (q + 4) → takK tp (kd bf) (kd ty) ty m q ser tl hd ab rg px pk = none := fun c => by
    unfold takK
    rw [if_neg k0, if_neg t1, if_neg t6, if_neg t4, if_neg t5, if_neg t3, if_neg t2, if_neg (fun z => c z.2)]
  have a1 : nI (q + 4) + 1 = nI (q + 4 + 1) := nI_add _ 1
  have a2 : nI (q + 4) + 2 = nI (q + 4 + 2) := nI_add _ 2
  have a3 : nI (q + 4) + 3 = nI (q + 4 + 3) := nI_add _ 3
  have q97 : nI (tp.getD (q + 4) 0) < 97 ↔ tp.getD (q + 4) 0 < 97 := nI_ltI (b := 97) (by have := h.by (q + 4); omega) (by decide)
  have e344 : fX12_takeChunk_344 σ (B 0) (nI (q + 4)) = some (0, σ) := rfl
  rw [oA_eq h.k.1, oB_eq (n_byte h (by omega))] at e0
  obtain ⟨ly0, ln0⟩ := n_let (σ := σ) (h.by (q + 4))
  by_cases c0 : ltrS (tp.getD (q + 4) 0)
  rotate_left
  · exact hno (hnone (fun z => c0 z.2.1)) (by rw [e0, oB_eq (ln0 c0), if_pos rfl, e344])
  rw [oB_eq (ly0 c0), if_neg (by decide), oA_eq h.k.1, a1, oB_eq (n_byte h (by omega))] at e0
  obtain ⟨ly1, ln1⟩ := n_let (σ := σ) (h.by (q + 4 + 1))
  by_cases c1 : ltrS (tp.getD (q + 4 + 1) 0)
  rotate_left
  · exact hno (hnone (fun z => c1 z.2.2.1)) (by rw [e0, oB_eq (ln1 c1), if_pos rfl, e344])
  rw [oB_eq (ly1 c1), if_neg (by decide), oA_eq h.k.1, a2, oB_eq (n_byte h (by omega))] at e0
  obtain ⟨ly2, ln2⟩ := n_let (σ := σ) (h.by (q + 4 + 2))
  by_cases c2 : ltrS (tp.getD (q + 4 + 2) 0)
  rotate_left
  · exact hno (hnone (fun z => c2 z.2.2.2.1)) (by rw [e0, oB_eq (ln2 c2), if_pos rfl, e344])
  rw [oB_eq (ly2 c2), if_neg (by decide), oA_eq h.k.1, a3, oB_eq (n_byte h (by omega))] at e0
  obtain ⟨ly3, ln3⟩ := n_let (σ := σ) (h.by (q + 4 + 3))
  by_cases c3' : ltrS (tp.getD (q + 4 + 3) 0)
  rotate_left
  · exact hno (hnone (fun z => c3' z.2.2.2.2)) (by rw [e0, oB_eq (ln3 c3'), if_pos rfl, e344])
  rw [oB_eq (ly3 c3'), if_neg (by decide)] at e0
  unfold fX12_takeChunk_345 at e0
  rw [if_neg (by decide), oA_eq h.k.1, oB_eq (n_byte h (by omega))] at e0
  by_cases c97 : tp.getD (q + 4) 0 < 97
  · exact hno (hnone (fun z => by have := z.1; omega)) (by rw [e0, if_pos (q97.mpr c97)])
  rw [if_neg (fun z => c97 (q97.mp z))] at e0
  have et : takK tp (kd bf) (kd ty) ty m q ser tl hd ab rg px pk = some (q + 12 + m, ty, ser, tl, hd, ab, rg, px, pk) := by
    unfold takK
    rw [if_neg k0, if_neg t1, if_neg t6, if_neg t4, if_neg t5, if_neg t3, if_neg t2, if_pos ⟨c3, by omega, c0, c1, c2, c3'⟩]
  have t0 := ht0 ⟨by omega, c0, c1, c2, c3'⟩
  refine Or.inr ⟨_, σ, et, oCw e0 (Or.inr rfl), NF.rf, rfl, ⟨f23, f25, f26, f27, f28.trans ovt, f30.trans (opm.trans (opt _).symm), f31'.trans ?_⟩, fun z => absurd z t0, fun _ => ⟨hR.of (fun f hf => (hfin _ _ _ _ _ _ _ et f hf).2) (fun _ => rfl) (fun _ => rfl) (fun _ => rfl), f24, f29⟩, fun z => by omega⟩
  rw [if_neg t3]
end PMTAKE
