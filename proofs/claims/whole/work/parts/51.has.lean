/-! Unpacker: the codes of a block -/
def okS (ls : List Nat) (M Dn : Nat) : Prop := ls.getD 256 0 ≠ 0 ∧ leftS (fun s => ls.getD s 0) M 15 = 0 ∧ (leftS (fun s => ls.getD (M + s) 0) Dn 15 = 0 ∨ (0 < leftS (fun s => ls.getD (M + s) 0) Dn 15 ∧ (Dn - cntS (fun s => ls.getD (M + s) 0) Dn 0 = 0 ∨ (Dn - cntS (fun s => ls.getD (M + s) 0) Dn 0 = 1 ∧ cntS (fun s => ls.getD (M + s) 0) Dn 1 = 1))))
section PHAS
variable {σ : zS} {A : Nat → Nat} {pk out : List Nat} {pos : Nat}
theorem s_few {q cA sA yA u c1 : Nat} (h : CO σ q cA sA yA) (h3 : zi σ q 3 = nI u) (h1 : zi σ cA 1 = nI c1) (hu : u < 1000) (hc : c1 < 1000) : ∃ r, fX2_isNoneOrOneBit σ q = some r ∧ ((r = 1 ∧ (u = 0 ∨ (u = 1 ∧ c1 = 1))) ∨ (r = 0 ∧ ¬ (u = 0 ∨ (u = 1 ∧ c1 = 1)))) := by
  obtain ⟨g1, g2, -, -, g5, g6, -⟩ := h
  have e1 : nI u = 0 ↔ u = 0 := nI_eq (b := 0) (by omega) (by decide)
  have e2 : nI u = 1 ↔ u = 1 := nI_eq (b := 1) (by omega) (by decide)
  have e3 : nI c1 = 1 ↔ c1 = 1 := nI_eq (b := 1) (by omega) (by decide)
  have hl : zi σ cA (Int32.toNatClampNeg 1) = nI c1 := h1
  have hd : (0 : Int32) ≤ 1 ∧ (1 : Int32).toNatClampNeg < 16 := by decide
  unfold fX2_isNoneOrOneBit gX2_isNoneOrOneBit fX2_isNoneOrOneBit_25
  simp only [oGI, oGR, oR, oLd, oA, oB, g1, g2, g5, g6, h3, hl, hd, true_and, e1, e2, e3, ↓reduceIte]
  by_cases c0 : u = 0
  · exact ⟨1, by simp only [c0, or_true, ↓reduceIte], Or.inl ⟨rfl, Or.inl c0⟩⟩
  · by_cases c2 : u = 1
    · by_cases c3 : c1 = 1
      · refine ⟨1, ?_, Or.inl ⟨rfl, Or.inr ⟨c2, c3⟩⟩⟩
        have z : ¬ ((1 : Nat) = 0) := by decide
        simp only [c2, c3, z, or_true, ↓reduceIte, and_self]
      · refine ⟨0, ?_, Or.inr ⟨rfl, by omega⟩⟩
        have z : ¬ ((1 : Nat) = 0) := by decide
        simp only [c2, c3, z, true_or, ↓reduceIte, and_self]
    · refine ⟨0, ?_, Or.inr ⟨rfl, by omega⟩⟩
      simp only [c0, c2, true_or, ↓reduceIte]
theorem u_codes {ls : List Nat} {M Dn : Nat} (h : US σ A pk out pos) (hl : zLS σ A ls) (hn : ls.length = M + Dn) (h7 : zi σ (A 0) 7 = nI M) (h8 : zi σ (A 0) 8 = nI Dn) (hM0 : 257 ≤ M) (hM : M ≤ 286) (hD : Dn ≤ 30) :
    ∃ r σ', fX9_buildCodes σ (A 0) = some (r, σ') ∧ zsm (UC A) σ σ' ∧ US σ' A pk out pos ∧ ((¬ okS ls M Dn ∧ r = 0) ∨ (okS ls M Dn ∧ r = 1 ∧ CD σ' (A 10) (A 11) (A 13) (fun s => ls.getD s 0) M ∧ CD σ' (A 14) (A 15) (A 17) (fun s => ls.getD (M + s) 0) Dn)) := by
  obtain ⟨l1, l2, l3, l4, l5, l6, l7, l8, l9, l10, l11, l12, l13, l14, l15, l16⟩ := id h.1
  have k10 : zk σ (A 10) = 3 := l15.1
  have k14 : zk σ (A 14) = 3 := l16.1
  have v256 : zi σ (A 18) (Int32.toNatClampNeg 256) = nI (ls.getD 256 0) := (hl 256 (by omega)).1
  have b256 : ls.getD 256 0 ≤ 15 := (hl 256 (by omega)).2
  have d256 : (0 : Int32) ≤ 256 ∧ (256 : Int32).toNatClampNeg < 320 := by decide
  have e256 : nI (ls.getD 256 0) = 0 ↔ ls.getD 256 0 = 0 := nI_eq (b := 0) (by omega) (by decide)
  obtain ⟨r3, σ3, e3, m3, -, -, c3⟩ := s_build (σ := σ) (la := A 18) (fr := 0) (M := M) (len := fun s => ls.getD s 0) l15 l10 (by rw [l11]; omega) (by rw [l11]; decide) (by omega) (fun j hj => ⟨(hl j (by omega)).2, by rw [Nat.zero_add]; exact (hl j (by omega)).1⟩) (h.1.cos (i := 10) (by decide) (by decide) (Or.inr (by decide)))
  have e3' : fX2_build σ (A 10) (A 18) 0 (nI M) = some (r3, σ3) := e3
  have m3' : zsm (UC A) σ σ3 := m3.mono (UC.co (i := 10) (by decide) (by decide))
  have h3 : US σ3 A pk out pos := h.of m3' (fun i _ q => UC.not h.1 i q)
  have n0 : ¬ UC A (A 0) := UC.not h.1 0 (by decide)
  have h73 : zi σ3 (A 0) 7 = nI M := by rw [m3'.i n0]; exact h7
  have h83 : zi σ3 (A 0) 8 = nI Dn := by rw [m3'.i n0]; exact h8
  by_cases d1 : ls.getD 256 0 = 0
  · refine ⟨0, σ, ?_, zsm.rf, h, Or.inl ⟨fun z => z.1 d1, rfl⟩⟩
    unfold fX9_buildCodes gX9_buildCodes
    simp only [oGR, oR, oGI, oLd, oA, oC, l2, l9, l10, l11, v256, d256, true_and, e256, d1, ↓reduceIte, true_or, show nI 0 = 0 from rfl]
  · have hpre : gX9_buildCodes σ (A 0) = (if r3 = 0 then oGR σ3 9 (A 0) 5 (fun a4 => oGR σ3 9 (A 0) 6 (fun a5 => oGI σ3 9 (A 0) 7 (fun x4 => oGI σ3 9 (A 0) 8 (fun x5 => oA (zk σ3 a4 = 3) (oC (fX2_build σ3 a4 a5 x4 x5) (fun x6 σ2 => (if x6 = 0 then fX9_buildCodes_70 σ2 else (if x6 ≤ 0 then some (0, σ2) else oGR σ2 9 (A 0) 5 (fun a6 => oA (zk σ2 a6 = 3) (oB (fX2_isNoneOrOneBit σ2 a6) (fun x7 => (if x7 = 0 then some (0, σ2) else fX9_buildCodes_70 σ2)))))))))))) else some (0, σ3)) := by
      unfold gX9_buildCodes
      simp only [oGR, oR, oGI, oLd, oA, oC, l2, l7, l9, l10, l11, k10, h7, v256, d256, true_and, e256, d1, e3', ↓reduceIte]
    by_cases d2 : leftS (fun s => ls.getD s 0) M 15 = 0
    · have hr3 : r3 = 0 := by
        rcases c3 with ⟨c, -⟩ | ⟨-, c, -⟩
        · omega
        · exact zeq.mpr (by rw [c, d2]; rfl)
      have hcd3 : CD σ3 (A 10) (A 11) (A 13) (fun s => ls.getD s 0) M := by
        rcases c3 with ⟨c, -⟩ | ⟨-, -, c⟩
        · omega
        · exact c
      obtain ⟨r4, σ4, e4, m4, q4, q5, c4⟩ := s_build (σ := σ3) (la := A 18) (fr := M) (M := Dn) (len := fun s => ls.getD (M + s) 0) h3.1.2.2.2.2.2.2.2.2.2.2.2.2.2.2.2 (by rw [m3.k]; exact l10) (by rw [m3.n, l11]; omega) (by rw [m3.n, l11]; decide) (by omega) (fun j hj => ⟨(hl (M + j) (by omega)).2, by rw [m3.i (h.1.cos (i := 10) (by decide) (by decide) (Or.inr (by decide)))]; exact (hl (M + j) (by omega)).1⟩) (h3.1.cos (i := 14) (by decide) (by decide) (Or.inr (by decide)))
      have m4' : zsm (UC A) σ3 σ4 := m4.mono (UC.co (i := 14) (by decide) (by decide))
      have m34 := m3'.trans m4'
      have h4 : US σ4 A pk out pos := h3.of m4' (fun i _ q => UC.not h3.1 i q)
      have hcd3' : CD σ4 (A 10) (A 11) (A 13) (fun s => ls.getD s 0) M := hcd3.of m4 (h3.1.cos (i := 14) (by decide) (by decide) (Or.inl (by decide))) (h3.1.cos (i := 14) (by decide) (by decide) (Or.inl (by decide))) (h3.1.cos (i := 14) (by decide) (by decide) (Or.inl (by decide)))
      have hfin : gX9_buildCodes σ (A 0) = (if r4 = 0 then fX9_buildCodes_70 σ4 else (if r4 ≤ 0 then some (0, σ4) else oB (fX2_isNoneOrOneBit σ4 (A 14)) (fun x7 => (if x7 = 0 then some (0, σ4) else fX9_buildCodes_70 σ4)))) := by
        rw [hpre, if_pos hr3]
        simp only [oGR, oR, oGI, oA, oC, m3.k, m3.r, l2, l8, l9, h73, h83, k14, e4, m34.k, m34.r, ↓reduceIte]
      have hcl : cntS (fun s => ls.getD (M + s) 0) Dn 0 ≤ Dn := cntS_le _ _
      have hcl1 : cntS (fun s => ls.getD (M + s) 0) Dn 1 ≤ Dn := cntS_le _ _
      by_cases d3 : leftS (fun s => ls.getD (M + s) 0) Dn 15 = 0
      · rcases c4 with ⟨c, -⟩ | ⟨-, c, c4⟩
        · omega
        · have hr4 : r4 = 0 := zeq.mpr (by rw [c, d3]; rfl)
          refine ⟨1, σ4, ?_, m34, h4, Or.inr ⟨⟨d1, d2, Or.inl d3⟩, rfl, hcd3', c4⟩⟩
          unfold fX9_buildCodes
          rw [hfin, if_pos hr4]
          unfold fX9_buildCodes_70
          simp only [oC, oA, or_true, ↓reduceIte]
      · rcases c4 with ⟨c, cr⟩ | ⟨c, cr, c4⟩
        · refine ⟨0, σ4, ?_, m34, h4, Or.inl ⟨fun z => by rcases z.2.2 with z | z <;> omega, rfl⟩⟩
          unfold fX9_buildCodes
          rw [hfin, cr, if_neg (by decide), if_pos (by decide)]
          simp only [oC, oA, true_or, ↓reduceIte]
        · have hr4 : ¬ r4 = 0 := fun e => d3 (by rw [← cr, e]; rfl)
          have hr4' : ¬ r4 ≤ 0 := by rw [zle, cr, zt0']; omega
          obtain ⟨x7, e7, c7⟩ := s_few h4.1.2.2.2.2.2.2.2.2.2.2.2.2.2.2.2 q5 (q4 1 (by decide)) (by omega) (by omega)
          rw [if_neg hr4, if_neg hr4'] at hfin
          simp only [oB, e7] at hfin
          rcases c7 with ⟨x1, x2⟩ | ⟨x1, x2⟩
          · subst x1
            refine ⟨1, σ4, ?_, m34, h4, Or.inr ⟨⟨d1, d2, Or.inr ⟨by omega, x2⟩⟩, rfl, hcd3', c4⟩⟩
            unfold fX9_buildCodes
            rw [hfin, if_neg (by decide)]
            unfold fX9_buildCodes_70
            simp only [oC, oA, or_true, ↓reduceIte]
          · subst x1
            refine ⟨0, σ4, ?_, m34, h4, Or.inl ⟨fun z => by
              rcases z.2.2 with z | z
              · exact d3 z
              · exact x2 z.2, rfl⟩⟩
            unfold fX9_buildCodes
            rw [hfin, if_pos rfl]
            simp only [oC, oA, true_or, ↓reduceIte]
    · have hr3 : ¬ r3 = 0 := by
        rcases c3 with ⟨-, c⟩ | ⟨-, c, -⟩
        · rw [c]; decide
        · intro e; rw [e] at c; exact d2 c.symm
      refine ⟨0, σ3, ?_, m3', h3, Or.inl ⟨fun z => d2 z.2.1, rfl⟩⟩
      unfold fX9_buildCodes
      rw [hpre, if_neg hr3]
      simp only [oC, oA, true_or, ↓reduceIte]
/-- the codes of a block of this kind: lengths, their number, distances, their number, where the symbols begin -/
noncomputable def codesS (pk : List Nat) (kind pos : Nat) : Option ((Nat → Nat) × Nat × (Nat → Nat) × Nat × Nat) := by
  classical
  exact if kind = 1 then some (fixL, 288, fixD, 32, pos) else if kind = 2 then
    match tellS pk pos with
    | none => none
    | some (M, Dn, tl, p1) => match lensS pk tl (M + Dn) p1 with
      | none => none
      | some (ls, p2) => if okS ls M Dn then some ((fun s => ls.getD s 0), M, (fun s => ls.getD (M + s) 0), Dn, p2) else none
    else none
theorem UD.sub {A : Nat → Nat} {a : Nat} (h : a = A 5 ∨ a = A 18) : UD A a := h.elim UD.of5 UD.of18
theorem u_has (h : US σ A pk out pos) {kind : Nat} (hk : kind < 4) : ∃ r σ', fX9_hasCodes σ (A 0) (nI kind) = some (r, σ') ∧ zsm (UD A) σ σ' ∧ ((codesS pk kind pos = none ∧ r = 0) ∨ ∃ L M D Dn p', codesS pk kind pos = some (L, M, D, Dn, p') ∧ r = 1 ∧ US σ' A pk out p' ∧ CD σ' (A 10) (A 11) (A 13) L M ∧ CD σ' (A 14) (A 15) (A 17) D Dn ∧ M ≤ 288 ∧ Dn ≤ 32) := by
  have l2 : zk σ (A 0) = 9 := h.1.2.1
  have e1 : nI kind = 1 ↔ kind = 1 := nI_eq (b := 1) (by omega) (by decide)
  have e2 : nI kind = 2 ↔ kind = 2 := nI_eq (b := 2) (by omega) (by decide)
  by_cases c1 : kind = 1
  · obtain ⟨σ1, f1, m1, h1, d1, d2⟩ := u_fix h
    refine ⟨1, σ1, ?_, m1.mono (fun a z => UD.ofC z), Or.inr ⟨fixL, 288, fixD, 32, pos, by unfold codesS; rw [if_pos c1], rfl, h1, d1, d2, by decide, by decide⟩⟩
    unfold fX9_hasCodes gX9_hasCodes
    rw [if_pos (e1.mpr c1)]
    simp only [oA, oB, oC, l2, f1, or_true, ↓reduceIte]
  · by_cases c2 : kind = 2
    · have hcs : codesS pk kind pos = match tellS pk pos with
        | none => none
        | some (M, Dn, tl, p1) => match lensS pk tl (M + Dn) p1 with
          | none => none
          | some (ls, p2) => @ite _ (okS ls M Dn) (Classical.propDecidable _) (some ((fun s => ls.getD s 0), M, (fun s => ls.getD (M + s) 0), Dn, p2)) none := by
        unfold codesS
        rw [if_neg c1, if_pos c2]
      obtain ⟨r1, σ1, f1, m1, q1⟩ := u_tell h
      rcases q1 with ⟨t1, rr⟩ | ⟨M, Dn, tl, p1, t1, rr, h1, g7, g8, cd1, b1, b2, b3, b4⟩
      · subst rr
        refine ⟨0, σ1, ?_, m1, Or.inl ⟨by rw [hcs, t1], rfl⟩⟩
        unfold fX9_hasCodes gX9_hasCodes
        rw [if_neg (fun z => c1 (e1.mp z)), if_pos (e2.mpr c2)]
        simp only [oA, oC, l2, f1, true_or, ↓reduceIte]
      · subst rr
        obtain ⟨r2, σ2, f2, m2, q2⟩ := u_lens h1 cd1 g7 g8 b2 b4
        have m12 := m1.trans (m2.mono (fun a z => UD.sub z))
        have n10 : ¬ ((1 : Int32) = 0) := by decide
        rcases q2 with ⟨t2, rr⟩ | ⟨ls, p2, t2, rr, h2, hls, hlen⟩
        · subst rr
          refine ⟨0, σ2, ?_, m12, Or.inl ⟨by rw [hcs, t1]; dsimp only; rw [t2], rfl⟩⟩
          unfold fX9_hasCodes gX9_hasCodes
          rw [if_neg (fun z => c1 (e1.mp z)), if_pos (e2.mpr c2)]
          simp only [oA, oC, l2, f1, m1.k, n10, f2, true_or, ↓reduceIte]
        · subst rr
          have n0 : ¬ (A 0 = A 5 ∨ A 0 = A 18) := fun z => z.elim (h.1.ne 0 5) (h.1.ne 0 18)
          obtain ⟨r3, σ3, f3, m3, h3, q3⟩ := u_codes h2 hls hlen (by rw [m2.i n0]; exact g7) (by rw [m2.i n0]; exact g8) b1 b2 b4
          have m13 := m12.trans (m3.mono (fun a z => UD.ofC z))
          rcases q3 with ⟨t3, rr⟩ | ⟨t3, rr, d1, d2⟩
          · subst rr
            refine ⟨0, σ3, ?_, m13, Or.inl ⟨by rw [hcs, t1]; dsimp only; rw [t2]; dsimp only; rw [if_neg t3], rfl⟩⟩
            unfold fX9_hasCodes gX9_hasCodes
            rw [if_neg (fun z => c1 (e1.mp z)), if_pos (e2.mpr c2)]
            simp only [oA, oC, l2, f1, m1.k, n10, f2, m12.k, f3, true_or, ↓reduceIte]
          · subst rr
            refine ⟨1, σ3, ?_, m13, Or.inr ⟨_, _, _, _, _, by rw [hcs, t1]; dsimp only; rw [t2]; dsimp only; rw [if_pos t3], rfl, h3, d1, d2, by omega, by omega⟩⟩
            unfold fX9_hasCodes gX9_hasCodes
            rw [if_neg (fun z => c1 (e1.mp z)), if_pos (e2.mpr c2)]
            simp only [oA, oC, l2, f1, m1.k, n10, f2, m12.k, f3, or_true, ↓reduceIte]
    · refine ⟨0, σ, ?_, zsm.rf, Or.inl ⟨by unfold codesS; rw [if_neg c1, if_neg c2], rfl⟩⟩
      unfold fX9_hasCodes gX9_hasCodes
      rw [if_neg (fun z => c1 (e1.mp z)), if_neg (fun z => c2 (e2.mp z))]
      simp only [oC, oA, true_or, ↓reduceIte]
end PHAS
