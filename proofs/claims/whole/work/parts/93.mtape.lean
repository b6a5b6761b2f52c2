/-! the reference's reader: the tape, types, letters, appending -/
def NB (σ : zS) (B : Nat → Nat) (tp : List Nat) : Prop := zML σ B ∧ TPm σ B tp
def PKm (σ : zS) (B : Nat → Nat) (l : List Nat) : Prop := zi σ (B 0) 14 = nI l.length ∧ l.length ≤ 8000 ∧ ∀ j, j < l.length → zi σ (B 8) j = sx (l.getD j 0) ∧ l.getD j 0 < 256
def PMr : Nat → Prop := fun i => i = 0 ∨ i = 2 ∨ i = 3 ∨ i = 4 ∨ 8 ≤ i
def FMr : Nat → Prop := fun j => j = 0 ∨ j = 3 ∨ (14 ≤ j ∧ j < 32)
def NF (B : Nat → Nat) (σ s : zS) : Prop := zsB B PMr FMr σ s ∧ (∀ k, k < 6 → zi s (B 2) k = zi σ (B 2) k) ∧ (∀ k, k < 48 → zi s (B 3) k = zi σ (B 3) k) ∧ ∀ k, k < 2304 → zi s (B 4) k = zi σ (B 4) k
section PMTAPE
variable {σ s t : zS} {B : Nat → Nat} {tp : List Nat}
theorem NF.rf : NF B σ σ := ⟨zsB.rf, fun _ _ => rfl, fun _ _ => rfl, fun _ _ => rfl⟩
theorem NF.trans (h : NF B σ s) (h2 : NF B s t) : NF B σ t := ⟨h.1.trans h2.1, fun k hk => (h2.2.1 k hk).trans (h.2.1 k hk), fun k hk => (h2.2.2.1 k hk).trans (h.2.2.1 k hk), fun k hk => (h2.2.2.2 k hk).trans (h.2.2.2 k hk)⟩
theorem NF.u0 (h : NF B σ s) (hb : zML σ B) {k : Nat} {v : Int32} (hf : FMr k) : NF B σ (zuI s (B 0) k v) := ⟨h.1.u0 (Or.inl rfl) hf, fun j hj => by rw [zi_uI, if_neg (fun z => absurd z.1 (hb.ne 2 0))]; exact h.2.1 j hj, fun j hj => by rw [zi_uI, if_neg (fun z => absurd z.1 (hb.ne 3 0))]; exact h.2.2.1 j hj, fun j hj => by rw [zi_uI, if_neg (fun z => absurd z.1 (hb.ne 4 0))]; exact h.2.2.2 j hj⟩
theorem NF.u2 (h : NF B σ s) (hb : zML σ B) {k : Nat} {v : Int32} (hk : 6 ≤ k) : NF B σ (zuI s (B 2) k v) := ⟨h.1.uI hb (by decide) (Or.inr (Or.inl rfl)) (by decide), fun j hj => by rw [zi_uI, if_neg (fun z => by omega)]; exact h.2.1 j hj, fun j hj => by rw [zi_uI, if_neg (fun z => absurd z.1 (hb.ne 3 2))]; exact h.2.2.1 j hj, fun j hj => by rw [zi_uI, if_neg (fun z => absurd z.1 (hb.ne 4 2))]; exact h.2.2.2 j hj⟩
theorem NF.i (h : NF B σ s) (hb : zML σ B) {j : Nat} (hj : j < 12) (hp : ¬ PMr j) (k : Nat) : zi s (B j) k = zi σ (B j) k := h.1.i hb hj hp k
theorem NF.f (h : NF B σ s) {j : Nat} (hj : ¬ FMr j) : zi s (B 0) j = zi σ (B 0) j := h.1.2 j hj
theorem NB.of (h : NB σ B tp) (hs : NF B σ s) : NB s B tp := ⟨h.1.of hs.1.1, (hs.f (fun z => by unfold FMr at z; omega)).trans h.2.1, h.2.2.1, fun j hj => ⟨by rw [hs.i h.1 (by decide) (fun z => by unfold PMr at z; omega)]; exact (h.2.2.2 j hj).1, (h.2.2.2 j hj).2⟩⟩
theorem NB.k (h : NB σ B tp) : zk σ (B 0) = 12 ∧ zr σ (B 0) 2 = some (B 1) ∧ zk σ (B 1) = 20 ∧ zn σ (B 1) = 8000 := ⟨h.1.2.1, h.1.2.2.1, h.1.2.2.2.2.2.2.2.2.2.2.2.2.2.1.1, h.1.2.2.2.2.2.2.2.2.2.2.2.2.2.1.2⟩
theorem NB.by (h : NB σ B tp) (j : Nat) : tp.getD j 0 < 256 := by
  by_cases q : j < tp.length
  · exact (h.2.2.2 j q).2
  · rw [List.getD_eq_getElem?_getD, List.getElem?_eq_none (by omega)]; decide
theorem n_byte (h : NB σ B tp) {i : Nat} (hi : i < tp.length) : fX12_byteAt σ (B 0) (nI i) = some (nI (tp.getD i 0)) := by
  have hl := h.2.2.1
  unfold fX12_byteAt
  rw [oGR_eq h.k.1 h.k.2.1, oLd_eq h.k.2.2.1 (by rw [h.k.2.2.2]; omega) (by omega) (h.2.2.2 i hi).1, sx_toNat _ (h.2.2.2 i hi).2]
theorem n_num (h : NB σ B tp) {i : Nat} (hi : i + 4 ≤ tp.length) : fX12_number σ (B 0) (nI i) = some (nmS tp i) := by
  have a1 : nI i + 1 = nI (i + 1) := nI_add i 1
  have a2 : nI i + 2 = nI (i + 2) := nI_add i 2
  have a3 : nI i + 3 = nI (i + 3) := nI_add i 3
  unfold fX12_number
  rw [oA_eq h.k.1, oB_eq (n_byte h (by omega)), oA_eq h.k.1, a1, oB_eq (n_byte h (by omega)), oA_eq h.k.1, a2, oB_eq (n_byte h (by omega)), oA_eq h.k.1, a3, oB_eq (n_byte h (by omega)), znum4 (h.by _) (h.by _) (h.by _) (h.by _)]
  rfl
theorem zd4 {x0 x1 x2 x3 a b c d : Nat} (h0 : x0 < 256) (h1 : x1 < 256) (h2 : x2 < 256) (h3 : x3 < 256) (ha : a < 256) (hb : b < 256) (hc : c < 256) (hd : d < 256) : nI (x0 * 16777216 + x1 * 65536 + x2 * 256 + x3) = nI (a * 16777216 + b * 65536 + c * 256 + d) ↔ x0 = a ∧ x1 = b ∧ x2 = c ∧ x3 = d := by
  rw [znI_inj (by omega) (by omega)]
  omega
theorem n_type (h : NB σ B tp) {i a b c d : Nat} (hi : i + 4 ≤ tp.length) (ha : a < 256) (hb : b < 256) (hc : c < 256) (hd : d < 256) : (nmS tp i = nI (a * 16777216 + b * 65536 + c * 256 + d) → fX12_isType σ (B 0) (nI i) (nI a) (nI b) (nI c) (nI d) = some 1) ∧ (¬ nmS tp i = nI (a * 16777216 + b * 65536 + c * 256 + d) → fX12_isType σ (B 0) (nI i) (nI a) (nI b) (nI c) (nI d) = some 0) := by
  have a1 : nI i + 1 = nI (i + 1) := nI_add i 1
  have a2 : nI i + 2 = nI (i + 2) := nI_add i 2
  have a3 : nI i + 3 = nI (i + 3) := nI_add i 3
  have b0 := h.by i
  have b1 := h.by (i + 1)
  have b2 := h.by (i + 2)
  have b3 := h.by (i + 3)
  have e : nmS tp i = nI (tp.getD i 0 * 16777216 + tp.getD (i + 1) 0 * 65536 + tp.getD (i + 2) 0 * 256 + tp.getD (i + 3) 0) := rfl
  rw [e, zd4 b0 b1 b2 b3 ha hb hc hd]
  have n0 := n_byte h (i := i) (by omega)
  have n1 := n_byte h (i := i + 1) (by omega)
  have n2 := n_byte h (i := i + 2) (by omega)
  have n3 := n_byte h (i := i + 3) (by omega)
  clear e
  generalize tp.getD i 0 = x0 at *
  generalize tp.getD (i + 1) 0 = x1 at *
  generalize tp.getD (i + 2) 0 = x2 at *
  generalize tp.getD (i + 3) 0 = x3 at *
  have q0 : nI x0 = nI a ↔ x0 = a := nI_eq (by omega) (by omega)
  have q1 : nI x1 = nI b ↔ x1 = b := nI_eq (by omega) (by omega)
  have q2 : nI x2 = nI c ↔ x2 = c := nI_eq (by omega) (by omega)
  have q3 : nI x3 = nI d ↔ x3 = d := nI_eq (by omega) (by omega)
  have e0 : gX12_isType σ (B 0) (nI i) (nI a) (nI b) (nI c) (nI d) = if nI x0 = nI a then (if nI x1 = nI b then (if nI x2 = nI c then (if nI x3 = nI d then some 1 else some 0) else some 0) else some 0) else some 0 := by
    unfold gX12_isType
    rw [oA_eq h.k.1, oB_eq n0, oA_eq h.k.1, a1, oB_eq n1, oA_eq h.k.1, a2, oB_eq n2, oA_eq h.k.1, a3, oB_eq n3]
  unfold fX12_isType
  rw [e0]
  refine ⟨fun z => ?_, fun z => ?_⟩
  · rw [if_pos (q0.mpr z.1), if_pos (q1.mpr z.2.1), if_pos (q2.mpr z.2.2.1), if_pos (q3.mpr z.2.2.2)]
    rfl
  · by_cases c0 : x0 = a
    · rw [if_pos (q0.mpr c0)]
      by_cases c1 : x1 = b
      · rw [if_pos (q1.mpr c1)]
        by_cases c2 : x2 = c
        · rw [if_pos (q2.mpr c2), if_neg (fun y => z ⟨c0, c1, c2, q3.mp y⟩)]; rfl
        · rw [if_neg (fun y => c2 (q2.mp y))]; rfl
      · rw [if_neg (fun y => c1 (q1.mp y))]; rfl
    · rw [if_neg (fun y => c0 (q0.mp y))]; rfl
theorem n_ty (h : NB σ B tp) {i : Nat} (hi : i + 4 ≤ tp.length) :
    ((kd (nmS tp i) = 1 → fX12_isType σ (B 0) (nI i) 73 68 65 84 = some 1) ∧ (¬ kd (nmS tp i) = 1 → fX12_isType σ (B 0) (nI i) 73 68 65 84 = some 0)) ∧ ((kd (nmS tp i) = 2 → fX12_isType σ (B 0) (nI i) 102 100 65 84 = some 1) ∧ (¬ kd (nmS tp i) = 2 → fX12_isType σ (B 0) (nI i) 102 100 65 84 = some 0)) ∧
    ((kd (nmS tp i) = 3 → fX12_isType σ (B 0) (nI i) 102 99 84 76 = some 1) ∧ (¬ kd (nmS tp i) = 3 → fX12_isType σ (B 0) (nI i) 102 99 84 76 = some 0)) ∧ ((kd (nmS tp i) = 4 → fX12_isType σ (B 0) (nI i) 73 72 68 82 = some 1) ∧ (¬ kd (nmS tp i) = 4 → fX12_isType σ (B 0) (nI i) 73 72 68 82 = some 0)) ∧
    ((kd (nmS tp i) = 5 → fX12_isType σ (B 0) (nI i) 97 99 84 76 = some 1) ∧ (¬ kd (nmS tp i) = 5 → fX12_isType σ (B 0) (nI i) 97 99 84 76 = some 0)) ∧ ((kd (nmS tp i) = 6 → fX12_isType σ (B 0) (nI i) 73 69 78 68 = some 1) ∧ (¬ kd (nmS tp i) = 6 → fX12_isType σ (B 0) (nI i) 73 69 78 68 = some 0)) := by
  obtain ⟨k1, k2, k3, k4, k5, k6⟩ := kdv (nmS tp i)
  have t1 := n_type h hi (a := 73) (b := 68) (c := 65) (d := 84) (by decide) (by decide) (by decide) (by decide)
  have t2 := n_type h hi (a := 102) (b := 100) (c := 65) (d := 84) (by decide) (by decide) (by decide) (by decide)
  have t3 := n_type h hi (a := 102) (b := 99) (c := 84) (d := 76) (by decide) (by decide) (by decide) (by decide)
  have t4 := n_type h hi (a := 73) (b := 72) (c := 68) (d := 82) (by decide) (by decide) (by decide) (by decide)
  have t5 := n_type h hi (a := 97) (b := 99) (c := 84) (d := 76) (by decide) (by decide) (by decide) (by decide)
  have t6 := n_type h hi (a := 73) (b := 69) (c := 78) (d := 68) (by decide) (by decide) (by decide) (by decide)
  generalize nmS tp i = ty at *
  rw [show nI (73 * 16777216 + 68 * 65536 + 65 * 256 + 84) = 1229209940 by decide] at t1
  rw [show nI (102 * 16777216 + 100 * 65536 + 65 * 256 + 84) = 1717846356 by decide] at t2
  rw [show nI (102 * 16777216 + 99 * 65536 + 84 * 256 + 76) = 1717785676 by decide] at t3
  rw [show nI (73 * 16777216 + 72 * 65536 + 68 * 256 + 82) = 1229472850 by decide] at t4
  rw [show nI (97 * 16777216 + 99 * 65536 + 84 * 256 + 76) = 1633899596 by decide] at t5
  rw [show nI (73 * 16777216 + 69 * 65536 + 78 * 256 + 68) = 1229278788 by decide] at t6
  exact ⟨⟨fun z => t1.1 (k1.mp z), fun z => t1.2 (fun y => z (k1.mpr y))⟩, ⟨fun z => t2.1 (k2.mp z), fun z => t2.2 (fun y => z (k2.mpr y))⟩, ⟨fun z => t3.1 (k3.mp z), fun z => t3.2 (fun y => z (k3.mpr y))⟩, ⟨fun z => t4.1 (k4.mp z), fun z => t4.2 (fun y => z (k4.mpr y))⟩, ⟨fun z => t5.1 (k5.mp z), fun z => t5.2 (fun y => z (k5.mpr y))⟩, ⟨fun z => t6.1 (k6.mp z), fun z => t6.2 (fun y => z (k6.mpr y))⟩⟩
theorem n_let {x : Nat} (hx : x < 256) : (ltrS x → fX12_isLetter σ (nI x) = some 1) ∧ (¬ ltrS x → fX12_isLetter σ (nI x) = some 0) := by
  have q65 : nI x < 65 ↔ x < 65 := nI_ltI (b := 65) (by omega) (by decide)
  have q97 : nI x < 97 ↔ x < 97 := nI_ltI (b := 97) (by omega) (by decide)
  have q90 : nI x ≤ 90 ↔ x ≤ 90 := nI_leI (b := 90) (by omega) (by decide)
  have q122 : 122 < nI x ↔ 122 < x := nI_ltI (a := 122) (by decide) (by omega)
  have e0 : gX12_isLetter σ (nI x) = (if nI x < 65 then (if nI x < 97 then some 0 else (if 122 < nI x then some 0 else some 1)) else (if nI x ≤ 90 then some 1 else (if nI x < 97 then some 0 else (if 122 < nI x then some 0 else some 1)))) := rfl
  simp only [q65, q97, q90, q122] at e0
  unfold fX12_isLetter
  rw [e0]
  unfold ltrS
  refine ⟨fun c => ?_, fun c => ?_⟩
  · by_cases d2 : x ≤ 90
    · rw [if_neg (by omega), if_pos d2]; rfl
    · rw [if_neg (by omega), if_neg d2, if_neg (by omega), if_neg (by omega)]; rfl
  · by_cases d1 : x < 65
    · rw [if_pos d1, if_pos (by omega)]; rfl
    · rw [if_neg d1, if_neg (by omega)]
      by_cases d2 : x < 97
      · rw [if_pos d2]; rfl
      · rw [if_neg d2, if_pos (by omega)]; rfl
theorem n_append (h : NB σ B tp) {l : List Nat} {fr m : Nat} (hl : PKm σ B l) (hf : fr + m ≤ tp.length) (hr : l.length + m ≤ 8000) : ∃ s, fX12_append σ (B 0) (nI fr) (nI (fr + m)) = some s ∧ NF B σ s ∧ (∀ j, j ≠ 14 → zi s (B 0) j = zi σ (B 0) j) ∧ (∀ k, zi s (B 2) k = zi σ (B 2) k) ∧ (∀ k, zi s (B 3) k = zi σ (B 3) k) ∧ (∀ k, zi s (B 4) k = zi σ (B 4) k) ∧ PKm s B (l ++ prtS tp fr m) := by
  have htl := h.2.2.1
  obtain ⟨k0, r2, k1, n1⟩ := h.k
  have r15 : zr σ (B 0) 15 = some (B 8) := h.1.2.2.2.2.2.2.2.2.2.1
  have k8 : zk σ (B 8) = 20 ∧ zn σ (B 8) = 8000 := h.1.2.2.2.2.2.2.2.2.2.2.2.2.2.2.2.2.2.2.2.2.1
  obtain ⟨s, e, p1, p2, p3⟩ := zloop_cnt (body := fun x => bX12_append_2 (B 0) (nI (fr + m)) x.1 x.2) (fun i x => x.1 = nI (fr + i) ∧ zsm (fun a => a = B 0 ∨ a = B 8) σ x.2 ∧ (∀ j, j ≠ 14 → zi x.2 (B 0) j = zi σ (B 0) j) ∧ PKm x.2 B (l ++ prtS tp fr i)) m (fun s => zsm (fun a => a = B 0 ∨ a = B 8) σ s ∧ (∀ j, j ≠ 14 → zi s (B 0) j = zi σ (B 0) j) ∧ PKm s B (l ++ prtS tp fr m))
    (fun i x hi hx => by
      obtain ⟨k, t⟩ := x
      obtain ⟨x1, x2, x3, x4⟩ := hx
      dsimp only at x1 x2 x3 x4
      subst x1
      have hpl : (l ++ prtS tp fr i).length = l.length + i := by rw [List.length_append, prtS_len (by omega)]
      have c1 : ¬ nI (fr + m) ≤ nI (fr + i) := by rw [nI_leI (by omega) (by omega)]; omega
      have i14 : zi t (B 0) 14 = nI (l.length + i) := by rw [← hpl]; exact x4.1
      have kt0 : zk t (B 0) = 12 := by rw [x2.k]; exact k0
      have rt15 : zr t (B 0) 15 = some (B 8) := by rw [x2.r]; exact r15
      have rt2 : zr t (B 0) 2 = some (B 1) := by rw [x2.r]; exact r2
      have kt1 : zk t (B 1) = 20 := by rw [x2.k]; exact k1
      have nt1 : zn t (B 1) = 8000 := by rw [x2.n]; exact n1
      have kt8 : zk t (B 8) = 20 := by rw [x2.k]; exact k8.1
      have nt8 : zn t (B 8) = 8000 := by rw [x2.n]; exact k8.2
      have hv := h.2.2.2 (fr + i) (by omega)
      have it1 : zi t (B 1) (fr + i) = sx (tp.getD (fr + i) 0) := by rw [x2.i (fun z => z.elim (h.1.ne 1 0) (h.1.ne 1 8))]; exact hv.1
      have hps : prtS tp fr (i + 1) = prtS tp fr i ++ [tp.getD (fr + i) 0] := by
        unfold prtS
        rw [List.take_succ, List.getElem?_drop]
        congr 1
        rw [List.getD_eq_getElem?_getD, List.getElem?_eq_getElem (by omega)]
        rfl
      have s14 : ∀ j, j ≠ 14 → zi (zuI (zuI t (B 8) (l.length + i) (sx (tp.getD (fr + i) 0))) (B 0) 14 (nI (l.length + i + 1))) (B 0) j = zi t (B 0) j := fun j hj => by
        rw [zi_uI, if_neg (fun z => hj z.2), zi_uI, if_neg (fun z => absurd z.1 (h.1.ne 0 8))]
      refine Or.inl ⟨(nI (fr + (i + 1)), zuI (zuI t (B 8) (l.length + i) (sx (tp.getD (fr + i) 0))) (B 0) 14 (nI (l.length + i + 1))), ?_, rfl, (x2.uI (Or.inr rfl)).uI (Or.inl rfl), fun j hj => (s14 j hj).trans (x3 j hj), ?_⟩
      · show bX12_append_2 (B 0) (nI (fr + m)) (nI (fr + i)) t = _
        unfold bX12_append_2
        have i14' : zi (zuI t (B 8) (l.length + i) (sx (tp.getD (fr + i) 0))) (B 0) 14 = nI (l.length + i) := by rw [zi_uI, if_neg (fun z => absurd z.1 (h.1.ne 0 8))]; exact i14
        rw [if_neg c1, oGR_eq kt0 rt15, oGI_eq kt0 i14, oGR_eq kt0 rt2, oLd_eq kt1 (by rw [nt1]; omega) (by omega) it1, sx_idem _ hv.2, oSt_eq kt8 (by rw [nt8]; omega) (by omega), oGI_eq (by exact kt0) i14', oPI_eq (by exact kt0), oL_eq, nI_1, nI_1]
        rfl
      · rw [hps, ← List.append_assoc]
        refine ⟨?_, ?_, fun j hj => ?_⟩
        · rw [zi_uI, if_pos ⟨rfl, rfl⟩, List.length_append, hpl]; rfl
        · rw [List.length_append, hpl]; show _ + 1 ≤ _; omega
        · rw [List.length_append, List.length_singleton] at hj
          rw [zi_uI, if_neg (fun z => absurd z.1 (h.1.ne 8 0)), zi_uI]
          by_cases e : j = (l ++ prtS tp fr i).length
          · rw [if_pos ⟨rfl, by omega⟩, e, zgetD_end]
            exact ⟨rfl, hv.2⟩
          · rw [if_neg (fun z => e (by omega)), zgetD_app (by omega)]
            exact x4.2.2 j (by omega))
    (fun x hx => by
      obtain ⟨k, t⟩ := x
      obtain ⟨x1, x2, x3, x4⟩ := hx
      dsimp only at x1 x2 x3 x4
      subst x1
      refine ⟨t, ?_, x2, x3, x4⟩
      show bX12_append_2 (B 0) (nI (fr + m)) (nI (fr + m)) t = _
      unfold bX12_append_2
      rw [if_pos (by rw [zle]; exact Int.le_refl _)]) zF (nI fr, σ) ⟨rfl, zsm.rf, fun _ _ => rfl, by unfold prtS; rw [List.take_zero, List.append_nil]; exact hl⟩ (by unfold zF; omega)
  have f2 : ∀ k, zi s (B 2) k = zi σ (B 2) k := fun k => p1.i (fun z => z.elim (h.1.ne 2 0) (h.1.ne 2 8)) k
  have f3 : ∀ k, zi s (B 3) k = zi σ (B 3) k := fun k => p1.i (fun z => z.elim (h.1.ne 3 0) (h.1.ne 3 8)) k
  have f4 : ∀ k, zi s (B 4) k = zi σ (B 4) k := fun k => p1.i (fun z => z.elim (h.1.ne 4 0) (h.1.ne 4 8)) k
  refine ⟨s, ?_, ⟨⟨p1.mono (fun a z => z.elim (fun z => ⟨0, by decide, Or.inl rfl, z⟩) (fun z => ⟨8, by decide, Or.inr (Or.inr (Or.inr (Or.inr (by decide)))), z⟩)), fun j hj => p2 j (fun z => hj (Or.inr (Or.inr (by omega))))⟩, fun k _ => f2 k, fun k _ => f3 k, fun k _ => f4 k⟩, p2, f2, f3, f4, p3⟩
  unfold fX12_append
  rw [oB_eq e]
end PMTAPE
