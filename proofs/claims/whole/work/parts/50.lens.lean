/-! Unpacker: told codes: the lengths -/
/-- how many bits tell how often, and what is added -/
def repB (s : Nat) : Nat := if s < 16 then 0 else if s = 16 then 2 else if s = 17 then 3 else 7
def repA (s : Nat) : Nat := if s < 16 then 1 else if s = 18 then 11 else 3
def repV (s : Nat) (ls : List Nat) : Nat := if s < 16 then s else if s = 16 then ls.getD (ls.length - 1) 0 else 0
def lensF (pk : List Nat) (tl : Nat → Nat) (all : Nat) : Nat → List Nat → Nat → Option (List Nat × Nat)
  | 0, ls, pos => if all ≤ ls.length then some (ls, pos) else none
  | k + 1, ls, pos => if all ≤ ls.length then some (ls, pos) else
    match symS (pb pk) pk.length pos tl 19 with
    | none => none
    | some (s, p1) => if s = 16 ∧ ls.length = 0 then none else
      match takeS pk p1 (repB s) with
      | none => none
      | some (v, p2) => if ls.length + (repA s + v) ≤ all then lensF pk tl all k (ls ++ List.replicate (repA s + v) (repV s ls)) p2 else none
def lensS (pk : List Nat) (tl : Nat → Nat) (all pos : Nat) : Option (List Nat × Nat) := lensF pk tl all all [] pos
theorem rep_zt : ∀ s, s < 19 → (zt2.getD (if s < 16 then 0 else s - 15) 0 = nI (repB s) ∧ zt1.getD (if s < 16 then 0 else s - 15) 0 = nI (repA s) ∧ repB s ≤ 7 ∧ 1 ≤ repA s ∧ repA s ≤ 11) := by decide +kernel
theorem zgetD_rep {l : List Nat} {m v j : Nat} (hj : l.length ≤ j) (hm : j < l.length + m) : (l ++ List.replicate m v).getD j 0 = v := by
  rw [List.getD_eq_getElem?_getD, List.getElem?_append_right hj, List.getElem?_replicate, if_pos (by omega)]
  rfl
section PLENS
variable {σ : zS} {A : Nat → Nat} {pk out : List Nat} {pos : Nat}
/-- the lengths so far -/
def zLS (σ : zS) (A : Nat → Nat) (ls : List Nat) : Prop := ∀ j, j < ls.length → zi σ (A 18) j = nI (ls.getD j 0) ∧ ls.getD j 0 ≤ 15
/-- the same length, so many times -/
theorem u_rep {ls : List Nat} {m w all3 l1 : Nat} {k : Int32} (h : UL σ A) (hl : zLS σ A ls) (hm : ls.length + m ≤ 320) (hw : w ≤ 15) :
    ∃ σ', fX9_takeLengths_145 σ (A 0) (nI l1) (nI ls.length) k (nI m) (nI w) = some (.inl (nI (ls.length + m), k + 1, σ')) ∧ zsm (fun a => a = A 18) σ σ' ∧ zLS σ' A (ls ++ List.replicate m w) := by
  obtain ⟨l1', l2, l3, l4, l5, l6, l7, l8, l9, l10, l11, -⟩ := id h
  have tm : (nI m).toInt = (m : Int) := zt_nI (by omega)
  obtain ⟨b, e, p1, p2, p3⟩ := zloop_cnt (body := fun x => bX9_takeLengths_150 (A 0) (nI l1) k (nI m) (nI w) x.1 x.2.1 x.2.2) (fun i x => x.1 = nI (ls.length + i) ∧ x.2.1 = nI i ∧ zsm (fun a => a = A 18) σ x.2.2 ∧ zLS x.2.2 A (ls ++ List.replicate i w)) m (fun b => b.1 = nI (ls.length + m) ∧ zsm (fun a => a = A 18) σ b.2 ∧ zLS b.2 A (ls ++ List.replicate m w))
    (fun i x hi hx => by
      obtain ⟨y1, y2, s⟩ := x
      obtain ⟨x1, x2, x3, x4⟩ := hx
      dsimp only at x1 x2 x3 x4
      subst x1
      subst x2
      have ti : (nI i).toInt = (i : Int) := zt_nI (by omega)
      have tl : (nI (ls.length + i)).toInt = ((ls.length + i : Nat) : Int) := zt_nI (by omega)
      have a1 : nI i + 1 = nI (i + 1) := nI_1 i
      have a2 : nI (ls.length + i) + 1 = nI (ls.length + (i + 1)) := nI_1 _
      refine Or.inl ⟨(nI (ls.length + (i + 1)), nI (i + 1), zuI s (A 18) (ls.length + i) (nI w)), ?_, rfl, rfl, x3.uI rfl, fun j hj => ?_⟩
      · unfold bX9_takeLengths_150
        simp only [oGR, oR, oSt, oL, x3.k, x3.n, x3.r, l2, l9, l10, l11, zle, ti, tm, tl, zt0', znat, Int.toNat_natCast, a1, a2, ↓reduceIte]
        rw [if_neg (by omega), if_pos ⟨trivial, by omega, by omega⟩]
      · simp only [List.length_append, List.length_replicate] at hj
        rw [zi_uI]
        by_cases q : j = ls.length + i
        · rw [if_pos ⟨rfl, q⟩, zgetD_rep (by omega) (by omega)]
          exact ⟨rfl, hw⟩
        · rw [if_neg (fun z => q z.2)]
          have hx4 := x4 j (by simp only [List.length_append, List.length_replicate]; omega)
          by_cases q2 : j < ls.length
          · rw [zgetD_app q2] at hx4 ⊢
            exact hx4
          · rw [zgetD_rep (by omega) (by omega)] at hx4 ⊢
            exact hx4)
    (fun x hx => by
      obtain ⟨y1, y2, s⟩ := x
      obtain ⟨x1, x2, x3, x4⟩ := hx
      dsimp only at x1 x2 x3 x4
      subst x1
      subst x2
      refine ⟨(nI (ls.length + m), s), ?_, rfl, x3, x4⟩
      unfold bX9_takeLengths_150
      simp only [zle, Int.le_refl, ↓reduceIte]) zF (nI ls.length, 0, σ) ⟨rfl, nI_0.symm, zsm.rf, by simpa using hl⟩ (by unfold zF; omega)
  obtain ⟨b1, b2⟩ := b
  dsimp only at p1 p2 p3
  subst p1
  refine ⟨b2, ?_, p2, p3⟩
  unfold fX9_takeLengths_145
  simp only [oB, e, oL]
/-- one turn of the lengths -/
theorem u_lens1 {tl : Nat → Nat} {all k : Nat} {ls : List Nat} (h : US σ A pk out pos) (hC : CD σ (A 6) (A 7) (A 9) tl 19) (hl : zLS σ A ls) (ha : all ≤ 320) (hlt : ls.length < all) (hk : k < all) :
    ∃ y, bX9_takeLengths_14 (A 0) (nI all) (nI ls.length) (nI k) σ = some y ∧
      ((∃ r, y = .inr (.inr r) ∧ r.1 = 0 ∧ zsm (fun a => a = A 5 ∨ a = A 18) σ r.2 ∧ ∀ q, lensF pk tl all (q + 1) ls pos = none) ∨
       ∃ ls' p' σ', y = .inl (nI ls'.length, nI (k + 1), σ') ∧ zsm (fun a => a = A 5 ∨ a = A 18) σ σ' ∧ US σ' A pk out p' ∧ zLS σ' A ls' ∧ ls.length < ls'.length ∧ ls'.length ≤ all ∧ ∀ q, lensF pk tl all (q + 1) ls pos = lensF pk tl all q ls' p') := by
  obtain ⟨l1', l2, l3, l4, l5, l6, l7, l8, l9, l10, l11, l12, l13, l14, -⟩ := id h.1
  have tk : (nI k).toInt = (k : Int) := zt_nI (by omega)
  have ta : (nI all).toInt = (all : Int) := zt_nI (by omega)
  have tl' : (nI ls.length).toInt = (ls.length : Int) := zt_nI (by omega)
  obtain ⟨r1, σ1, e1, m1, c1⟩ := u_symbol h l14 hC (by decide)
  have nw : ∀ q, lensF pk tl all (q + 1) ls pos = match symS (pb pk) pk.length pos tl 19 with
    | none => none
    | some (s, p1) => if s = 16 ∧ ls.length = 0 then none else
      match takeS pk p1 (repB s) with
      | none => none
      | some (v, p2) => if ls.length + (repA s + v) ≤ all then lensF pk tl all q (ls ++ List.replicate (repA s + v) (repV s ls)) p2 else none := fun q => by
    rw [lensF, if_neg (by omega)]
  have c0 : ¬ nI all ≤ nI k := by rw [zle, ta, tk]; omega
  have c0' : ¬ nI all ≤ nI ls.length := by rw [zle, ta, tl']; omega
  rcases c1 with ⟨t1, rr, p', h1⟩ | ⟨s, p1, t1, rr, hs, h1⟩
  · refine ⟨.inr (.inr (0, σ1)), ?_, Or.inl ⟨_, rfl, rfl, m1.mono (fun a z => Or.inl z), fun q => by rw [nw, t1]⟩⟩
    have hn : r1 < 0 := by rw [rr]; decide
    unfold bX9_takeLengths_14
    simp only [oGR, oR, oA, oC, l2, l5, l6, l12, e1, c0, c0', hn, ↓reduceIte]
  · subst rr
    have hn : ¬ nI s < 0 := nI_pos (by omega)
    have h16 : nI s = 16 ↔ s = 16 := nI_eq (b := 16) (by omega) (by decide)
    have hl0 : nI ls.length = 0 ↔ ls.length = 0 := nI_eq (b := 0) (by omega) (by decide)
    by_cases d0 : s = 16 ∧ ls.length = 0
    · refine ⟨.inr (.inr (0, σ1)), ?_, Or.inl ⟨_, rfl, rfl, m1.mono (fun a z => Or.inl z), fun q => by rw [nw, t1]; dsimp only; rw [if_pos d0]⟩⟩
      unfold bX9_takeLengths_14
      simp only [oGR, oR, oA, oC, l2, l5, l6, l12, e1, c0, c0', hn, ↓reduceIte]
      rw [if_pos (h16.mpr d0.1), if_pos (hl0.mpr d0.2)]
    · have hb : bX9_takeLengths_14 (A 0) (nI all) (nI ls.length) (nI k) σ = fX9_takeLengths_71 σ1 (A 0) (nI all) (nI ls.length) (nI k) (nI s) (nI (if s < 16 then 0 else s - 15)) := by
        have h16' : (16 : Int32) ≤ nI s ↔ 16 ≤ s := nI_leI (a := 16) (by decide) (by omega)
        have hj : fX9_takeLengths_55 σ1 (A 0) (nI all) (nI ls.length) (nI k) (nI s) = fX9_takeLengths_71 σ1 (A 0) (nI all) (nI ls.length) (nI k) (nI s) (nI (if s < 16 then 0 else s - 15)) := by
          unfold fX9_takeLengths_55
          by_cases z : 16 ≤ s
          · have e15 : nI s - 15 = nI (s - 15) := pk_sub (b := 15) (by omega)
            simp only [h16', z, e15, ↓reduceIte]
            rw [if_neg (by omega)]
          · simp only [h16', z, ↓reduceIte]
            rw [if_pos (by omega)]
            rfl
        unfold bX9_takeLengths_14
        simp only [oGR, oR, oA, oC, l2, l5, l6, l12, e1, c0, c0', hn, h16, hl0, hj, ↓reduceIte]
        by_cases z : s = 16
        · have : ¬ ls.length = 0 := fun w => d0 ⟨z, w⟩
          simp only [z, this, ↓reduceIte]
        · simp only [z, ↓reduceIte]
      obtain ⟨z2, z1, zb, za1, za2⟩ := rep_zt s hs
      obtain ⟨x5, σ2, e2, m2, c2⟩ := u_take h1 (m := repB s) (by omega)
      have m12 : zsm (fun a => a = A 5 ∨ a = A 18) σ σ2 := (m1.mono (fun a z => Or.inl z)).trans (m2.mono (fun a z => Or.inl z))
      have hi2 : (if s < 16 then 0 else s - 15) < 4 := by split <;> omega
      have ti2 : (nI (if s < 16 then 0 else s - 15)).toInt = ((if s < 16 then 0 else s - 15 : Nat) : Int) := zt_nI (by omega)
      have hz2 : zt2.length = 4 := rfl
      have hz1 : zt1.length = 4 := rfl
      have h71 : fX9_takeLengths_71 σ1 (A 0) (nI all) (nI ls.length) (nI k) (nI s) (nI (if s < 16 then 0 else s - 15)) = (if x5 < 0 then some (.inr (.inr (0, σ2))) else (if nI (repA s) + x5 ≤ (nI all - nI ls.length) then (if (16 : Int32) ≤ nI s then (if nI s = (16 : Int32) then oGR σ2 9 (A 0) 6 (fun a5 => oLd σ2 21 a5 (nI ls.length - (1 : Int32)) (fun x7 => fX9_takeLengths_145 σ2 (A 0) (nI all) (nI ls.length) (nI k) (nI (repA s) + x5) x7)) else fX9_takeLengths_145 σ2 (A 0) (nI all) (nI ls.length) (nI k) (nI (repA s) + x5) 0) else fX9_takeLengths_145 σ2 (A 0) (nI all) (nI ls.length) (nI k) (nI (repA s) + x5) (nI s)) else some (.inr (.inr (0, σ2))))) := by
        unfold fX9_takeLengths_71
        simp only [oGR, oR, oA, oC, oLt, oL, m1.k, m1.r, l2, l5, l12, hz2, hz1, zle, zt0', ti2, znat, Int.toNat_natCast, z2, z1, e2, ↓reduceIte]
        rw [if_pos ⟨by omega, hi2⟩, if_pos ⟨by omega, hi2⟩]
      rcases c2 with ⟨t2, rr, h2⟩ | ⟨v, t2, rr, bv, h2⟩
      · refine ⟨.inr (.inr (0, σ2)), ?_, Or.inl ⟨_, rfl, rfl, m12, fun q => by rw [nw, t1]; dsimp only; rw [if_neg d0, t2]⟩⟩
        rw [hb, h71, if_pos (by rw [rr]; decide)]
      · subst rr
        have hpw : 2 ^ repB s ≤ 2 ^ 7 := Nat.pow_le_pow_right (by decide) zb
        have hnv : ¬ nI v < 0 := nI_pos (by omega)
        have av : nI (repA s) + nI v = nI (repA s + v) := nI_add _ _
        have sb : nI all - nI ls.length = nI (all - ls.length) := pk_sub (by omega)
        have cv : nI (repA s + v) ≤ nI (all - ls.length) ↔ repA s + v ≤ all - ls.length := nI_leI (by omega) (by omega)
        rw [av, sb] at h71
        simp only [hnv, cv, ↓reduceIte] at h71
        by_cases d1 : repA s + v ≤ all - ls.length
        · have hl2 : zLS σ2 A ls := fun j hj => by
            rw [m2.i (h.1.ne 18 5), m1.i (h.1.ne 18 5)]; exact hl j hj
          have hrep : ∀ w, w ≤ 15 → w = repV s ls → fX9_takeLengths_71 σ1 (A 0) (nI all) (nI ls.length) (nI k) (nI s) (nI (if s < 16 then 0 else s - 15)) = fX9_takeLengths_145 σ2 (A 0) (nI all) (nI ls.length) (nI k) (nI (repA s + v)) (nI w) → ∃ y, bX9_takeLengths_14 (A 0) (nI all) (nI ls.length) (nI k) σ = some y ∧ ((∃ r, y = .inr (.inr r) ∧ r.1 = 0 ∧ zsm (fun a => a = A 5 ∨ a = A 18) σ r.2 ∧ ∀ q, lensF pk tl all (q + 1) ls pos = none) ∨ ∃ ls' p' σ', y = .inl (nI ls'.length, nI (k + 1), σ') ∧ zsm (fun a => a = A 5 ∨ a = A 18) σ σ' ∧ US σ' A pk out p' ∧ zLS σ' A ls' ∧ ls.length < ls'.length ∧ ls'.length ≤ all ∧ ∀ q, lensF pk tl all (q + 1) ls pos = lensF pk tl all q ls' p') := by
            intro w hw hwe he
            obtain ⟨σ3, e3, m3, f3⟩ := u_rep (all3 := 0) (l1 := all) (k := nI k) (m := repA s + v) (w := w) h2.1 hl2 (by omega) hw
            refine ⟨_, by rw [hb, he]; exact e3, Or.inr ⟨ls ++ List.replicate (repA s + v) w, p1 + repB s, σ3, ?_, m12.trans (m3.mono (fun a z => Or.inr z)), h2.keep m3, f3, by simp only [List.length_append, List.length_replicate]; omega, by simp only [List.length_append, List.length_replicate]; omega, fun q => ?_⟩⟩
            · rw [nI_1]; simp only [List.length_append, List.length_replicate]
            · rw [nw, t1]; dsimp only; rw [if_neg d0, t2]; dsimp only; rw [if_pos (by omega), hwe]
          rw [if_pos d1] at h71
          have h16' : (16 : Int32) ≤ nI s ↔ 16 ≤ s := nI_leI (a := 16) (by decide) (by omega)
          by_cases z : 16 ≤ s
          · by_cases z' : s = 16
            · have hls : 0 < ls.length := by
                rcases Nat.eq_zero_or_pos ls.length with w | w
                · exact absurd ⟨z', w⟩ d0
                · exact w
              obtain ⟨q1, q2⟩ := hl2 (ls.length - 1) (by omega)
              have s1 : nI ls.length - 1 = nI (ls.length - 1) := pk_sub (b := 1) (by omega)
              have ts : (nI (ls.length - 1)).toInt = ((ls.length - 1 : Nat) : Int) := zt_nI (by omega)
              refine hrep (ls.getD (ls.length - 1) 0) q2 (by unfold repV; rw [if_neg (by omega), if_pos z']) ?_
              rw [h71, if_pos (h16'.mpr z), if_pos (h16.mpr z')]
              simp only [oGR, oR, oLd, m12.k, m12.n, m12.r, l2, l9, l10, l11, s1, zle, zt0', ts, znat, Int.toNat_natCast, q1, ↓reduceIte]
              rw [if_pos ⟨trivial, by omega, by omega⟩]
            · refine hrep 0 (by decide) (by unfold repV; rw [if_neg (by omega), if_neg z']) ?_
              rw [h71]
              simp only [h16', z, h16, z', ↓reduceIte]
              rfl
          · refine hrep s (by omega) (by unfold repV; rw [if_pos (by omega)]) ?_
            rw [h71]
            simp only [h16', z, ↓reduceIte]
        · rw [if_neg d1] at h71
          refine ⟨.inr (.inr (0, σ2)), by rw [hb, h71], Or.inl ⟨_, rfl, rfl, m12, fun q => by rw [nw, t1]; dsimp only; rw [if_neg d0, t2]; dsimp only; rw [if_neg (by omega)]⟩⟩
theorem u_lens {tl : Nat → Nat} {M Dn : Nat} (h : US σ A pk out pos) (hC : CD σ (A 6) (A 7) (A 9) tl 19) (h7 : zi σ (A 0) 7 = nI M) (h8 : zi σ (A 0) 8 = nI Dn) (hM : M ≤ 286) (hD : Dn ≤ 30) :
    ∃ r σ', fX9_takeLengths σ (A 0) = some (r, σ') ∧ zsm (fun a => a = A 5 ∨ a = A 18) σ σ' ∧ ((lensS pk tl (M + Dn) pos = none ∧ r = 0) ∨ ∃ ls p', lensS pk tl (M + Dn) pos = some (ls, p') ∧ r = 1 ∧ US σ' A pk out p' ∧ zLS σ' A ls ∧ ls.length = M + Dn) := by
  obtain ⟨l1', l2, l3, l4, l5, l6, l7, l8, l9, l10, l11, l12, l13, l14, -⟩ := id h.1
  have a1 : nI M + nI Dn = nI (M + Dn) := nI_add _ _
  have ta : (nI (M + Dn)).toInt = ((M + Dn : Nat) : Int) := zt_nI (by omega)
  obtain ⟨b, e, hb⟩ := zloop_cnt (body := fun x => bX9_takeLengths_14 (A 0) (nI (M + Dn)) x.1 x.2.1 x.2.2)
    (fun i x => ∃ ls p', x.1 = nI ls.length ∧ x.2.1 = nI i ∧ zsm (fun a => a = A 5 ∨ a = A 18) σ x.2.2 ∧ US x.2.2 A pk out p' ∧ zLS x.2.2 A ls ∧ i ≤ ls.length ∧ ls.length ≤ M + Dn ∧ lensS pk tl (M + Dn) pos = lensF pk tl (M + Dn) (M + Dn - i) ls p') (M + Dn)
    (fun b => match b with
      | .inl s => zsm (fun a => a = A 5 ∨ a = A 18) σ s ∧ ∃ ls p', lensS pk tl (M + Dn) pos = some (ls, p') ∧ US s A pk out p' ∧ zLS s A ls ∧ ls.length = M + Dn
      | .inr r => r.1 = 0 ∧ zsm (fun a => a = A 5 ∨ a = A 18) σ r.2 ∧ lensS pk tl (M + Dn) pos = none)
    (fun i x hi hx => by
      obtain ⟨y1, y2, s⟩ := x
      obtain ⟨ls, p', x1, x2, x3, x4, x5, x6, x7, x8⟩ := hx
      dsimp only at x1 x2 x3 x4 x5
      subst x1
      subst x2
      have ti : (nI i).toInt = (i : Int) := zt_nI (by omega)
      by_cases hf : ls.length < M + Dn
      · have hCs : CD s (A 6) (A 7) (A 9) tl 19 := hC.of x3 (fun z => z.elim (h.1.ne 6 5) (h.1.ne 6 18)) (fun z => z.elim (h.1.ne 7 5) (h.1.ne 7 18)) (fun z => z.elim (h.1.ne 9 5) (h.1.ne 9 18))
        obtain ⟨y, ey, hy⟩ := u_lens1 (k := i) x4 hCs x5 (by omega) hf hi
        have es : M + Dn - i = (M + Dn - (i + 1)) + 1 := by omega
        rcases hy with ⟨r, q1, q2, q3, q4⟩ | ⟨ls', p'', σ', q1, q2, q3, q4, q5, q6, q7⟩
        · subst q1
          exact Or.inr ⟨_, ey, q2, x3.trans q3, by rw [x8, es]; exact q4 _⟩
        · subst q1
          exact Or.inl ⟨_, ey, ls', p'', rfl, rfl, x3.trans q2, q3, q4, by omega, q6, by rw [x8, es]; exact q7 _⟩
      · have e1 : ls.length = M + Dn := by omega
        refine Or.inr ⟨.inl s, ?_, x3, ls, p', ?_, x4, x5, e1⟩
        · unfold bX9_takeLengths_14
          simp only [zle, e1, Int.le_refl, ta, ti, ↓reduceIte]
          rw [if_neg (by omega)]
        · rw [x8]
          obtain ⟨q, hq⟩ : ∃ q, M + Dn - i = q + 1 := ⟨M + Dn - i - 1, by omega⟩
          rw [hq, lensF, if_pos (by omega)])
    (fun x hx => by
      obtain ⟨y1, y2, s⟩ := x
      obtain ⟨ls, p', x1, x2, x3, x4, x5, x6, x7, x8⟩ := hx
      dsimp only at x1 x2 x3 x4 x5
      subst x1
      subst x2
      refine ⟨.inl s, ?_, x3, ls, p', ?_, x4, x5, by omega⟩
      · unfold bX9_takeLengths_14
        simp only [zle, Int.le_refl, ↓reduceIte]
      · rw [x8, Nat.sub_self, lensF, if_pos (by omega)]) zF (0, 0, σ) ⟨[], pos, nI_0.symm, nI_0.symm, zsm.rf, h, fun j hj => absurd hj (Nat.not_lt_zero j), Nat.zero_le _, Nat.zero_le _, rfl⟩ (by unfold zF; omega)
  have hg : gX9_takeLengths σ (A 0) = oS b (fun c1 => (fun σ5 => some (1, σ5)) c1) (fun r1 => some r1) := by
    unfold gX9_takeLengths
    simp only [oGI, oL, oB, l2, h7, h8, a1, e, ↓reduceIte]
  unfold fX9_takeLengths
  rw [hg]
  cases b with
  | inl s =>
    obtain ⟨p1, ls, p', p2, p3, p4, p5⟩ := hb
    refine ⟨1, s, ?_, p1, Or.inr ⟨ls, p', p2, rfl, p3, p4, p5⟩⟩
    simp only [oS, oC, oA, or_true, ↓reduceIte]
  | inr r =>
    obtain ⟨r1, r2⟩ := r
    obtain ⟨p1, p2, p3⟩ := hb
    dsimp only at p1 p2
    subst p1
    refine ⟨0, r2, ?_, p2, Or.inl ⟨p3, rfl⟩⟩
    simp only [oS, oC, oA, true_or, ↓reduceIte]
end PLENS
