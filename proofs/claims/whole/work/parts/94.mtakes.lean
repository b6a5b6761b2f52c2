/-! the reference's reader: head, counts, control -/
def slt (ab : Nat → Nat) (f : Nat) : Nat := if f = 0 ∧ ab 5 = 1 then 8 else f
def RMw (σ : zS) (B : Nat → Nat) (ab : Nat → Nat) (rg px : Nat → Nat → Nat) (fn : Nat → Prop) : Prop := (∀ k, k < 5 → zi σ (B 2) (6 + k) = nI (ab k)) ∧ (∀ f, f < ab 4 → ∀ k, k < 6 → zi σ (B 3) (48 + 6 * f + k) = nI (rg f k)) ∧ ∀ f, fn f → f < 9 ∧ ∀ i, i < pdN ab rg f → zi σ (B 4) (2304 + 256 * slt ab f + i) = nI (px f i)
def NT (σ : zS) (B : Nat → Nat) (fn : Nat → Prop) (op : Int32) (ov : Nat) : zRS → Prop
  | (_, bf, ser, tl, hd, ab, rg, px, pk) => (zi σ (B 0) 23 = nI (if tl = 0 then 0 else 1) ∧ zi σ (B 0) 25 = nI tl ∧ zi σ (B 0) 26 = nI ser ∧ zi σ (B 0) 27 = nI hd ∧ zi σ (B 0) 28 = nI ov ∧ zi σ (B 0) 30 = op ∧ zi σ (B 0) 31 = nI (if kd bf = 3 then 1 else 0)) ∧ (kd bf = 0 → zi σ (B 0) 24 = 0 ∧ zi σ (B 0) 29 = 0) ∧ (kd bf ≠ 0 → RMw σ B ab rg px fn ∧ zi σ (B 0) 24 = nI (ab 4) ∧ zi σ (B 0) 29 = nI (ab 5)) ∧ (kd bf = 1 ∨ kd bf = 2 → PKm σ B pk)
section PMTAKES
variable {σ s t : zS} {B : Nat → Nat} {tp : List Nat} {ab : Nat → Nat} {rg px : Nat → Nat → Nat} {fn : Nat → Prop}
theorem zSt2 {ρ : Type} (h : zML σ B) {k : Nat} {kk v : Int32} (hk : k < 12) (e : kk = nI k) {f : zS → Option ρ} : oSt σ 21 (B 2) kk v f = f (zuI σ (B 2) k v) := by
  obtain ⟨-, -, k2, n2⟩ := h.r4
  rw [e, oSt_eq k2 (by rw [n2]; exact hk) (by omega)]
theorem n_atE (h : NB σ B tp) (i : Nat) {v : Nat} {vv : Int32} (hv : v < 256) (e : vv = nI v) : nI (tp.getD i 0) = vv ↔ tp.getD i 0 = v := by
  rw [e]
  exact nI_eq (by have := h.by i; omega) (by omega)
theorem NB.u (h : NB σ B tp) {j k : Nat} {v : Int32} (hj : j = 0 ∧ FMr k ∨ j = 2 ∧ 6 ≤ k) : NB (zuI σ (B j) k v) B tp ∧ NF B σ (zuI σ (B j) k v) := by
  rcases hj with ⟨z, hk⟩ | ⟨z, hk⟩
  · subst z
    have : NF B σ (zuI σ (B 0) k v) := NF.rf.u0 h.1 hk
    exact ⟨h.of this, this⟩
  · subst z
    have : NF B σ (zuI σ (B 2) k v) := NF.rf.u2 h.1 hk
    exact ⟨h.of this, this⟩
theorem n_head (h : NB σ B tp) {f m : Nat} (hm : m < 2147483648) (hf : m = 13 → f + 13 ≤ tp.length) : (m = 13 ∧ okH tp f → ∃ s, fX12_takeHead σ (B 0) (nI f) (nI m) = some (1, s) ∧ NF B σ s ∧ (∀ j, zi s (B 0) j = zi σ (B 0) j) ∧ (zi s (B 2) 6 = 1 ∧ zi s (B 2) 7 = nmS tp f ∧ zi s (B 2) 8 = nmS tp (f + 4) ∧ zi s (B 2) 9 = 0 ∧ zi s (B 2) 10 = 0)) ∧ (¬ (m = 13 ∧ okH tp f) → fX12_takeHead σ (B 0) (nI f) (nI m) = some (0, σ)) := by
  have t1 : (1 : Int32).toInt = 1 := by decide
  have t16 : (16 : Int32).toInt = 16 := by decide
  have q13 : nI m = 13 ↔ m = 13 := nI_eq (b := 13) hm (by decide)
  by_cases d13 : m = 13
  rotate_left
  · refine ⟨fun z => absurd z.1 d13, fun _ => oCw ?_ (Or.inl rfl)⟩
    unfold gX12_takeHead
    rw [if_neg (fun z => d13 (q13.mp z))]
    unfold fX12_takeHead_15
    rw [if_neg (fun z => d13 (q13.mp z))]
    unfold fX12_takeHead_33
    rw [if_pos (by decide)]
  have hf' := hf d13
  have a4 : nI f + 4 = nI (f + 4) := nI_add f 4
  have hn1 := n_num h (i := f) (by omega)
  have hn2 := n_num h (i := f + 4) (by omega)
  have hok : okH tp f ↔ (((1 ≤ (nmS tp f).toInt ∧ (nmS tp f).toInt ≤ 16) ∧ (1 ≤ (nmS tp (f + 4)).toInt ∧ (nmS tp (f + 4)).toInt ≤ 16)) ∧ tp.getD (f + 8) 0 = 8 ∧ tp.getD (f + 9) 0 = 6 ∧ tp.getD (f + 10) 0 = 0 ∧ tp.getD (f + 11) 0 = 0 ∧ tp.getD (f + 12) 0 = 0) := Iff.rfl
  generalize nmS tp f = nW at hn1 hok ⊢
  generalize nmS tp (f + 4) = nH at hn2 hok ⊢
  have e0 : gX12_takeHead σ (B 0) (nI f) (nI m) = fX12_takeHead_33 σ (B 0) (nI f) nW nH := by
    unfold gX12_takeHead
    rw [if_pos (q13.mpr d13), oA_eq h.k.1, oB_eq hn1]
    unfold fX12_takeHead_15
    rw [if_pos (q13.mpr d13), oA_eq h.k.1, a4, oB_eq hn2]
  unfold fX12_takeHead_33 at e0
  have hno : ¬ okH tp f → gX12_takeHead σ (B 0) (nI f) (nI m) = some (0, σ) → (m = 13 ∧ okH tp f → ∃ s, fX12_takeHead σ (B 0) (nI f) (nI m) = some (1, s) ∧ NF B σ s ∧ (∀ j, zi s (B 0) j = zi σ (B 0) j) ∧ (zi s (B 2) 6 = 1 ∧ zi s (B 2) 7 = nW ∧ zi s (B 2) 8 = nH ∧ zi s (B 2) 9 = 0 ∧ zi s (B 2) 10 = 0)) ∧ (¬ (m = 13 ∧ okH tp f) → fX12_takeHead σ (B 0) (nI f) (nI m) = some (0, σ)) := fun hn e => ⟨fun z => absurd z.2 hn, fun _ => oCw e (Or.inl rfl)⟩
  by_cases d1 : nW < 1
  · refine hno (fun z => ?_) (by rw [e0, if_pos d1])
    rw [zlt, t1] at d1
    have := (hok.mp z).1.1.1
    omega
  rw [if_neg d1] at e0
  rw [zlt, t1] at d1
  by_cases d2 : 16 < nW
  · refine hno (fun z => ?_) (by rw [e0, if_pos d2])
    rw [zlt, t16] at d2
    have := (hok.mp z).1.1.2
    omega
  rw [if_neg d2] at e0
  rw [zlt, t16] at d2
  by_cases d3 : nH < 1
  · refine hno (fun z => ?_) (by rw [e0, if_pos d3])
    rw [zlt, t1] at d3
    have := (hok.mp z).1.2.1
    omega
  rw [if_neg d3] at e0
  rw [zlt, t1] at d3
  by_cases d4 : 16 < nH
  · refine hno (fun z => ?_) (by rw [e0, if_pos d4])
    rw [zlt, t16] at d4
    have := (hok.mp z).1.2.2
    omega
  rw [if_neg d4] at e0
  rw [zlt, t16] at d4
  have b8 : nI f + 8 = nI (f + 8) := nI_add f 8
  have b9 : nI f + 9 = nI (f + 9) := nI_add f 9
  have b10 : nI f + 10 = nI (f + 10) := nI_add f 10
  have b11 : nI f + 11 = nI (f + 11) := nI_add f 11
  have b12 : nI f + 12 = nI (f + 12) := nI_add f 12
  rw [oA_eq h.k.1, b8, oB_eq (n_byte h (by omega))] at e0
  by_cases c1 : tp.getD (f + 8) 0 = 8
  rotate_left
  · exact hno (fun z => c1 (hok.mp z).2.1) (by rw [e0, if_neg (fun z => c1 ((n_atE h (f + 8) (v := 8) (vv := 8) (by decide) rfl).mp z))])
  rw [if_pos ((n_atE h (f + 8) (v := 8) (vv := 8) (by decide) rfl).mpr c1), oA_eq h.k.1, b9, oB_eq (n_byte h (by omega))] at e0
  by_cases c2 : tp.getD (f + 9) 0 = 6
  rotate_left
  · exact hno (fun z => c2 (hok.mp z).2.2.1) (by rw [e0, if_neg (fun z => c2 ((n_atE h (f + 9) (v := 6) (vv := 6) (by decide) rfl).mp z))])
  rw [if_pos ((n_atE h (f + 9) (v := 6) (vv := 6) (by decide) rfl).mpr c2), oA_eq h.k.1, b10, oB_eq (n_byte h (by omega))] at e0
  by_cases c3 : tp.getD (f + 10) 0 = 0
  rotate_left
  · exact hno (fun z => c3 (hok.mp z).2.2.2.1) (by rw [e0, if_neg (fun z => c3 ((n_atE h (f + 10) (v := 0) (vv := 0) (by decide) rfl).mp z))])
  rw [if_pos ((n_atE h (f + 10) (v := 0) (vv := 0) (by decide) rfl).mpr c3), oA_eq h.k.1, b11, oB_eq (n_byte h (by omega))] at e0
  by_cases c4 : tp.getD (f + 11) 0 = 0
  rotate_left
  · exact hno (fun z => c4 (hok.mp z).2.2.2.2.1) (by rw [e0, if_neg (fun z => c4 ((n_atE h (f + 11) (v := 0) (vv := 0) (by decide) rfl).mp z))])
  rw [if_pos ((n_atE h (f + 11) (v := 0) (vv := 0) (by decide) rfl).mpr c4), oA_eq h.k.1, b12, oB_eq (n_byte h (by omega))] at e0
  by_cases c5 : tp.getD (f + 12) 0 = 0
  rotate_left
  · exact hno (fun z => c5 (hok.mp z).2.2.2.2.2) (by rw [e0, if_neg (fun z => c5 ((n_atE h (f + 12) (v := 0) (vv := 0) (by decide) rfl).mp z))])
  rw [if_pos ((n_atE h (f + 12) (v := 0) (vv := 0) (by decide) rfl).mpr c5), zABs h.1 (k := 6) (kk := 6) (by decide) rfl, zABs h.1.u (k := 7) (kk := 7) (by decide) rfl, zABs h.1.u.u (k := 8) (kk := 8) (by decide) rfl, zABs h.1.u.u.u (k := 9) (kk := 9) (by decide) rfl, zABs h.1.u.u.u.u (k := 10) (kk := 10) (by decide) rfl, zABs h.1.u.u.u.u.u (k := 11) (kk := 11) (by decide) rfl] at e0
  have hnf : NF B σ (zuI (zuI (zuI (zuI (zuI (zuI σ (B 2) 6 1) (B 2) 7 nW) (B 2) 8 nH) (B 2) 9 0) (B 2) 10 0) (B 2) 11 0) := (((((NF.rf.u2 h.1 (by decide)).u2 h.1 (by decide)).u2 h.1 (by decide)).u2 h.1 (by decide)).u2 h.1 (by decide)).u2 h.1 (by decide)
  have hok' : okH tp f := hok.mpr ⟨⟨⟨by omega, by omega⟩, ⟨by omega, by omega⟩⟩, c1, c2, c3, c4, c5⟩
  have n02 : ¬ B 0 = B 2 := h.1.ne 0 2
  refine ⟨fun _ => ⟨_, oCw e0 (Or.inr rfl), hnf, fun j => ?_, ?_, ?_, ?_, ?_, ?_⟩, fun z => absurd ⟨d13, hok'⟩ z⟩
  all_goals simp only [zi_uI, n02, true_and, false_and, ↓reduceIte, Nat.reduceEqDiff]
theorem n_count (h : NB σ B tp) {f m tl hd : Nat} (hm : m < 2147483648) (hf : m = 8 → f + 8 ≤ tp.length) (h23 : zi σ (B 0) 23 = nI (if tl = 0 then 0 else 1)) (h27 : zi σ (B 0) 27 = nI hd) (hhd : hd ≤ 1) : (m = 8 ∧ tl = 0 ∧ hd = 0 ∧ 1 ≤ (nmS tp f).toInt ∧ (nmS tp f).toInt ≤ 8 → fX12_takeCount σ (B 0) (nI f) (nI m) = some (1, zuI (zuI (zuI σ (B 0) 23 1) (B 0) 25 (nmS tp f)) (B 2) 9 (nmS tp (f + 4)))) ∧ (¬ (m = 8 ∧ tl = 0 ∧ hd = 0 ∧ 1 ≤ (nmS tp f).toInt ∧ (nmS tp f).toInt ≤ 8) → fX12_takeCount σ (B 0) (nI f) (nI m) = some (0, σ)) := by
  have t1 : (1 : Int32).toInt = 1 := by decide
  have t8 : (8 : Int32).toInt = 8 := by decide
  have q8 : nI m = 8 ↔ m = 8 := nI_eq (b := 8) hm (by decide)
  have q27 : nI hd = 0 ↔ hd = 0 := nI_eq (b := 0) (by omega) (by decide)
  have q23 : nI (if tl = 0 then 0 else 1) = 0 ↔ tl = 0 := by
    by_cases c : tl = 0
    · rw [if_pos c]; exact ⟨fun _ => c, fun _ => rfl⟩
    · rw [if_neg c]; exact ⟨fun z => absurd z (by decide), fun z => absurd z c⟩
  have a4 : nI f + 4 = nI (f + 4) := nI_add f 4
  by_cases c8 : m = 8
  rotate_left
  · refine ⟨fun z => absurd z.1 c8, fun _ => oCw ?_ (Or.inl rfl)⟩
    unfold gX12_takeCount
    rw [oGI_eq h.k.1 h23, oGI_eq h.k.1 h27, if_neg (fun z => c8 (q8.mp z))]
    simp only [ite_self]
  have hf' := hf c8
  have hn1 := n_num h (i := f) (by omega)
  obtain ⟨g1, s1⟩ := h.u (j := 0) (k := 23) (v := 1) (Or.inl ⟨rfl, Or.inr (Or.inr (by decide))⟩)
  have hn1' := n_num g1 (i := f) (by omega)
  obtain ⟨g2, s2⟩ := g1.u (j := 0) (k := 25) (v := nmS tp f) (Or.inl ⟨rfl, Or.inr (Or.inr (by decide))⟩)
  have hn2 := n_num g2 (i := f + 4) (by omega)
  have e0 : gX12_takeCount σ (B 0) (nI f) (nI m) = if nI (if tl = 0 then 0 else 1) = 0 then (if nI hd = 0 then (if nmS tp f < 1 then some (0, σ) else (if nmS tp f ≤ 8 then some (1, zuI (zuI (zuI σ (B 0) 23 1) (B 0) 25 (nmS tp f)) (B 2) 9 (nmS tp (f + 4))) else some (0, σ))) else some (0, σ)) else some (0, σ) := by
    unfold gX12_takeCount
    rw [oGI_eq h.k.1 h23, oGI_eq h.k.1 h27, if_pos (q8.mpr c8), oA_eq h.k.1, oB_eq hn1, oA_eq h.k.1, oB_eq hn1, oPZ_eq h.k.1 (Or.inr rfl), oA_eq g1.k.1, oB_eq hn1', oPI_eq g1.k.1, oGR_eq g2.k.1 g2.1.r4.2.1, oA_eq g2.k.1, a4, oB_eq hn2, zSt2 g2.1 (k := 9) (kk := 9) (by decide) rfl]
  refine ⟨fun q => oCw ?_ (Or.inr rfl), fun q => oCw ?_ (Or.inl rfl)⟩
  · have c3 : ¬ nmS tp f < 1 := by
      have := q.2.2.2.1
      generalize nmS tp f = x at this ⊢
      rw [zlt, t1]
      omega
    have c4 : nmS tp f ≤ 8 := by
      have := q.2.2.2.2
      generalize nmS tp f = x at this ⊢
      rw [zle, t8]
      exact this
    rw [e0, if_pos (q23.mpr q.2.1), if_pos (q27.mpr q.2.2.1), if_neg c3, if_pos c4]
  · rw [e0]
    by_cases c1 : tl = 0
    · rw [if_pos (q23.mpr c1)]
      by_cases c2 : hd = 0
      · rw [if_pos (q27.mpr c2)]
        by_cases c3 : nmS tp f < 1
        · rw [if_pos c3]
        · rw [if_neg c3, if_neg (fun z => q ⟨c8, c1, c2, ?_, ?_⟩)]
          · generalize nmS tp f = x at c3 ⊢
            rw [zlt, t1] at c3
            omega
          · generalize nmS tp f = x at z ⊢
            rw [zle, t8] at z
            exact z
      · rw [if_neg (fun z => c2 (q27.mp z))]
    · rw [if_neg (fun z => c1 (q23.mp z))]
theorem alw_split {W H : Nat} {w h x y : Int32} {d b : Nat} (hd : d < 256) (hb : b < 256) : alw W H w h x y (nI d) (nI b) ↔ alw W H w h x y 0 0 ∧ d ≤ 2 ∧ b ≤ 1 := by
  have td : (nI d).toInt = (d : Int) := zt_nI (by omega)
  have tb : (nI b).toInt = (b : Int) := zt_nI (by omega)
  unfold alw
  rw [td, tb, zt0']
  omega
theorem n_control (h : NB σ B tp) {f m ser tl hd : Nat} (hm : m < 2147483648) (hf : m = 26 → f + 26 ≤ tp.length) (h23 : zi σ (B 0) 23 = nI (if tl = 0 then 0 else 1)) (h24 : zi σ (B 0) 24 = nI (ab 4)) (h25 : zi σ (B 0) 25 = nI tl) (h26 : zi σ (B 0) 26 = nI ser) (h27 : zi σ (B 0) 27 = nI hd) (h29 : zi σ (B 0) 29 = nI (ab 5)) (hR : RMw σ B ab rg px fn) (hw : WFr ab rg) (htl : tl ≤ 8) (h4t : ab 4 ≤ tl) (hhd : hd ≤ 1) (hser : ser < 2147483648) (h0 : hd = 0 → ab 4 = 0 ∧ ab 5 = 0) :
    (¬ (m = 26 ∧ ab 4 < tl ∧ okC tp f ser ab hd) → fX12_takeControl σ (B 0) (nI f) (nI m) = some (0, σ)) ∧ (m = 26 ∧ ab 4 < tl ∧ okC tp f ser ab hd → ∃ s, fX12_takeControl σ (B 0) (nI f) (nI m) = some (1, s) ∧ NF B σ s ∧ (∀ j, j ≠ 24 → j ≠ 26 → j ≠ 29 → j ≠ 31 → zi s (B 0) j = zi σ (B 0) j) ∧ zi s (B 0) 24 = nI (ab 4 + 1) ∧ zi s (B 0) 26 = nI (ser + 1) ∧ zi s (B 0) 29 = nI (abC ab hd 5) ∧ zi s (B 0) 31 = 1 ∧ RMw s B (abC ab hd) (rgF rg (ab 4) (rgC tp f)) px (fun g => fn g ∧ (g < ab 4 ∨ g = 8) ∧ hd = 1)) := by
  obtain ⟨b0, b1, b2, b4, b5, -⟩ := hw.b
  have q26 : nI m = 26 ↔ m = 26 := nI_eq (b := 26) hm (by decide)
  have q27 : nI hd = 0 ↔ hd = 0 := nI_eq (b := 0) (by omega) (by decide)
  have q24 : nI (ab 4) = nI tl ↔ ab 4 = tl := nI_eq (by omega) (by omega)
  have p24 : (0 : Int32) < nI (ab 4) ↔ 0 < ab 4 := nI_ltI (a := 0) (by decide) (by omega)
  have q23 : nI (if tl = 0 then 0 else 1) = 0 ↔ tl = 0 := by
    by_cases c : tl = 0
    · rw [if_pos c]; exact ⟨fun _ => c, fun _ => rfl⟩
    · rw [if_neg c]; exact ⟨fun z => absurd z (by decide), fun z => absurd z c⟩
  have e0 : gX12_takeControl σ (B 0) (nI f) (nI m) = (if nI m = 26 then (if nI (if tl = 0 then 0 else 1) = 0 then some (0, σ) else (if nI (ab 4) = nI tl then some (0, σ) else (if nI hd = 0 then (if 0 < nI (ab 4) then some (0, σ) else fX12_takeControl_38 σ (B 0) (nI f)) else fX12_takeControl_38 σ (B 0) (nI f)))) else some (0, σ)) := by
    unfold gX12_takeControl
    rw [oGI_eq h.k.1 h23, oGI_eq h.k.1 h24, oGI_eq h.k.1 h25, oGI_eq h.k.1 h27, oGI_eq h.k.1 h24]
  have hno : ∀ {Z : Prop}, ¬ (m = 26 ∧ ab 4 < tl ∧ okC tp f ser ab hd) → gX12_takeControl σ (B 0) (nI f) (nI m) = some (0, σ) → (¬ (m = 26 ∧ ab 4 < tl ∧ okC tp f ser ab hd) → fX12_takeControl σ (B 0) (nI f) (nI m) = some (0, σ)) ∧ (m = 26 ∧ ab 4 < tl ∧ okC tp f ser ab hd → Z) := fun hn e => ⟨fun _ => oCw e (Or.inl rfl), fun z => absurd z hn⟩
  by_cases c26 : m = 26
  rotate_left
  · exact hno (fun z => c26 z.1) (by rw [e0, if_neg (fun z => c26 (q26.mp z))])
  rw [if_pos (q26.mpr c26)] at e0
  by_cases c23 : tl = 0
  · exact hno (fun z => by have := z.2.1; omega) (by rw [e0, if_pos (q23.mpr c23)])
  rw [if_neg (fun z => c23 (q23.mp z))] at e0
  by_cases c24 : ab 4 = tl
  · exact hno (fun z => by have := z.2.1; omega) (by rw [e0, if_pos (q24.mpr c24)])
  rw [if_neg (fun z => c24 (q24.mp z))] at e0
  have e1 : gX12_takeControl σ (B 0) (nI f) (nI m) = fX12_takeControl_38 σ (B 0) (nI f) := by
    rw [e0]
    by_cases c : hd = 0
    · rw [if_pos (q27.mpr c), if_neg (fun z => by have := p24.mp z; have := (h0 c).1; omega)]
    · rw [if_neg (fun z => c (q27.mp z))]
  clear e0
  have hf' := hf c26
  have a4 : nI f + 4 = nI (f + 4) := nI_add f 4
  have a8 : nI f + 8 = nI (f + 8) := nI_add f 8
  have a12 : nI f + 12 = nI (f + 12) := nI_add f 12
  have a16 : nI f + 16 = nI (f + 16) := nI_add f 16
  have a24 : nI f + 24 = nI (f + 24) := nI_add f 24
  have a25 : nI f + 25 = nI (f + 25) := nI_add f 25
  have y24 := h.by (f + 24)
  have y25 := h.by (f + 25)
  unfold fX12_takeControl_38 at e1
  rw [oA_eq h.k.1, oB_eq (n_num h (by omega)), oGI_eq h.k.1 h26] at e1
  by_cases d3 : nmS tp f = nI ser
  rotate_left
  · exact hno (fun z => d3 z.2.2.1) (by rw [e1, if_neg d3])
  have hal0 : alC tp f ab ↔ (alw (ab 1) (ab 2) (nmS tp (f + 4)) (nmS tp (f + 8)) (nmS tp (f + 12)) (nmS tp (f + 16)) 0 0 ∧ tp.getD (f + 24) 0 ≤ 2 ∧ tp.getD (f + 25) 0 ≤ 1) := alw_split y24 y25
  obtain ⟨v, ev, hv⟩ := m_isRegion h.1 (r := 1) (W := ab 1) (H := ab 2) (by decide) (hR.1 1 (by decide)) (hR.1 2 (by decide)) b1 b2 (nmS tp (f + 4)) (nmS tp (f + 8)) (nmS tp (f + 12)) (nmS tp (f + 16))
  have ev' : fX12_isRegion σ (B 0) 1 (nmS tp (f + 4)) (nmS tp (f + 8)) (nmS tp (f + 12)) (nmS tp (f + 16)) = some v := ev
  rw [if_pos d3, oA_eq h.k.1, a4, oB_eq (n_num h (by omega)), oA_eq h.k.1, a8, oB_eq (n_num h (by omega)), oA_eq h.k.1, a12, oB_eq (n_num h (by omega)), oA_eq h.k.1, a16, oB_eq (n_num h (by omega)), oA_eq h.k.1, a24, oB_eq (n_byte h (by omega)), oA_eq h.k.1, a25, oB_eq (n_byte h (by omega)), oA_eq h.k.1, oB_eq ev'] at e1
  rcases hv with ⟨v1, hal⟩ | ⟨v0, hal⟩
  rotate_left
  · subst v0
    exact hno (fun z => hal (hal0.mp z.2.2.2.1).1) (by rw [e1, if_pos rfl])
  subst v1
  have p2 : (2 : Int32) < nI (tp.getD (f + 24) 0) ↔ 2 < tp.getD (f + 24) 0 := nI_ltI (a := 2) (by decide) (by omega)
  have p1 : (1 : Int32) < nI (tp.getD (f + 25) 0) ↔ 1 < tp.getD (f + 25) 0 := nI_ltI (a := 1) (by decide) (by omega)
  rw [if_neg (by decide)] at e1
  by_cases c2 : 2 < tp.getD (f + 24) 0
  · exact hno (fun z => by have := (hal0.mp z.2.2.2.1).2.1; omega) (by rw [e1, if_pos (p2.mpr c2)])
  rw [if_neg (fun z => c2 (p2.mp z))] at e1
  by_cases c1 : 1 < tp.getD (f + 25) 0
  · exact hno (fun z => by have := (hal0.mp z.2.2.2.1).2.2; omega) (by rw [e1, if_pos (p1.mpr c1)])
  rw [if_neg (fun z => c1 (p1.mp z)), oGI_eq h.k.1 h27] at e1
  have halC : alC tp f ab := hal0.mpr ⟨hal, by omega, by omega⟩
  clear hal0
  have hbw := alw_b halC
  have g7 : zi σ (B 2) 7 = nI (ab 1) := hR.1 1 (by decide)
  have g8 : zi σ (B 2) 8 = nI (ab 2) := hR.1 2 (by decide)
  have w1 : nmS tp (f + 4) = nI (ab 1) ↔ (nmS tp (f + 4)).toInt.toNat = ab 1 := znI_iff halC.1.1 b1
  have w2 : nmS tp (f + 8) = nI (ab 2) ↔ (nmS tp (f + 8)).toInt.toNat = ab 2 := znI_iff halC.2.2.1.1 b2
  have e169 : gX12_takeControl σ (B 0) (nI f) (nI m) = (if nI hd = 0 then (if nmS tp (f + 4) = nI (ab 1) then (if nmS tp (f + 8) = nI (ab 2) then fX12_takeControl_169 σ (B 0) (nmS tp (f + 4)) (nmS tp (f + 8)) (nmS tp (f + 12)) (nmS tp (f + 16)) (nI (tp.getD (f + 24) 0)) (nI (tp.getD (f + 25) 0)) else some (0, σ)) else some (0, σ)) else fX12_takeControl_169 σ (B 0) (nmS tp (f + 4)) (nmS tp (f + 8)) (nmS tp (f + 12)) (nmS tp (f + 16)) (nI (tp.getD (f + 24) 0)) (nI (tp.getD (f + 25) 0))) := by
    rw [e1, zAB h.1 (k := 7) (kk := 7) (by decide) rfl g7, zAB h.1 (k := 8) (kk := 8) (by decide) rfl g8]
  clear e1
  by_cases cc : hd = 0 → (nmS tp (f + 4)).toInt.toNat = ab 1 ∧ (nmS tp (f + 8)).toInt.toNat = ab 2
  rotate_left
  · refine hno (fun z => cc z.2.2.2.2) ?_
    rw [e169]
    by_cases c : hd = 0
    · rw [if_pos (q27.mpr c)]
      by_cases x1 : nmS tp (f + 4) = nI (ab 1)
      · rw [if_pos x1, if_neg (fun x2 => cc (fun _ => ⟨w1.mp x1, w2.mp x2⟩))]
      · rw [if_neg x1]
    · exact absurd (fun z => absurd z c) cc
  have e2 : gX12_takeControl σ (B 0) (nI f) (nI m) = fX12_takeControl_169 σ (B 0) (nmS tp (f + 4)) (nmS tp (f + 8)) (nmS tp (f + 12)) (nmS tp (f + 16)) (nI (tp.getD (f + 24) 0)) (nI (tp.getD (f + 25) 0)) := by
    rw [e169]
    by_cases c : hd = 0
    · rw [if_pos (q27.mpr c), if_pos (w1.mpr (cc c).1), if_pos (w2.mpr (cc c).2)]
    · rw [if_neg (fun z => c (q27.mp z))]
  clear e169 w1 w2
  refine ⟨fun z => absurd ⟨c26, by omega, d3, halC, cc⟩ z, fun _ => ?_⟩
  clear cc hal hno
  obtain ⟨s1, es1, m1, i1, o1⟩ := m_setRegion h.1 (r := 1) (f := ab 4) (by decide) (by omega) (nmS tp (f + 4)) (nmS tp (f + 8)) (nmS tp (f + 12)) (nmS tp (f + 16)) (nI (tp.getD (f + 24) 0)) (nI (tp.getD (f + 25) 0))
  have es1' : fX12_setRegion σ (B 0) 1 (nI (ab 4)) (nmS tp (f + 4)) (nmS tp (f + 8)) (nmS tp (f + 12)) (nmS tp (f + 16)) (nI (tp.getD (f + 24) 0)) (nI (tp.getD (f + 25) 0)) = some s1 := es1
  have n1 : NF B σ s1 := ⟨zsB.of1 h.1 (by decide) (Or.inr (Or.inr (Or.inl rfl))) (by decide) m1, fun k hk => m1.i (h.1.ne 2 3) k, fun k hk => o1 k (Or.inl (by omega)), fun k hk => m1.i (h.1.ne 4 3) k⟩
  have h1 := h.of n1
  have f01 : ∀ j, zi s1 (B 0) j = zi σ (B 0) j := fun j => m1.i (h.1.ne 0 3) j
  have q29 : nI (ab 5) = 0 ↔ ab 5 = 0 := nI_eq (b := 0) (by omega) (by decide)
  have e3 : gX12_takeControl σ (B 0) (nI f) (nI m) = fX12_takeControl_209 s1 (B 0) (nI (abC ab hd 5)) (B 0) := by
    rw [e2]
    unfold fX12_takeControl_169
    rw [oGI_eq h.k.1 h24, oA_eq h.k.1, oB_eq es1', oGI_eq h1.k.1 ((f01 29).trans h29), oGI_eq h1.k.1 ((f01 27).trans h27)]
    have a5 : abC ab hd 5 = if hd = 0 then 1 else ab 5 := rfl
    unfold fX12_takeControl_204
    by_cases c : hd = 0
    · rw [a5, if_pos c, if_pos (q29.mpr (h0 c).2), if_pos (q27.mpr c)]
      rfl
    · rw [a5, if_neg c]
      by_cases c5 : ab 5 = 0
      · rw [if_pos (q29.mpr c5), if_neg (fun z => c (q27.mp z)), c5]
        rfl
      · rw [if_neg (fun z => c5 (q29.mp z)), show ab 5 = 1 by omega]
        rfl
  clear e2
  have a51 : abC ab hd 5 ≤ 1 := by
    show (if hd = 0 then 1 else ab 5) ≤ 1
    split <;> omega
  have v01 : nI (abC ab hd 5) = 0 ∨ nI (abC ab hd 5) = 1 := by
    rcases (show abC ab hd 5 = 0 ∨ abC ab hd 5 = 1 by omega) with z | z <;> rw [z]
    · exact Or.inl rfl
    · exact Or.inr rfl
  have n02 : ¬ B 0 = B 2 := h.1.ne 0 2
  have n20 : ¬ B 2 = B 0 := h.1.ne 2 0
  unfold fX12_takeControl_209 at e3
  have x26 : zi (zuI s1 (B 0) 29 (nI (abC ab hd 5))) (B 0) 26 = nI ser := by rw [zi_uI, if_neg (by omega)]; exact (f01 26).trans h26
  have x24 : zi (zuI (zuI s1 (B 0) 29 (nI (abC ab hd 5))) (B 0) 26 (nI (ser + 1))) (B 0) 24 = nI (ab 4) := by rw [zi_uI, if_neg (by omega), zi_uI, if_neg (by omega)]; exact (f01 24).trans h24
  have x24' : zi (zuI (zuI (zuI s1 (B 0) 29 (nI (abC ab hd 5))) (B 0) 26 (nI (ser + 1))) (B 0) 24 (nI (ab 4 + 1))) (B 0) 24 = nI (ab 4 + 1) := by rw [zi_uI, if_pos ⟨rfl, rfl⟩]
  have r4 : zr s1 (B 0) 4 = some (B 2) := h1.1.r4.2.1
  rw [oPZ_eq h1.k.1 v01, oGI_eq (by exact h1.k.1) x26, nI_1, oPI_eq (by exact h1.k.1), oGI_eq (by exact h1.k.1) x24, nI_1, oPI_eq (by exact h1.k.1), oGR_eq (by exact h1.k.1) (by exact r4), oGI_eq (by exact h1.k.1) x24', zSt2 h1.1.u.u.u (k := 10) (kk := 10) (by decide) rfl, oPZ_eq (by exact h1.k.1) (Or.inr rfl)] at e3
  have nf : NF B σ (zuI (zuI (zuI (zuI (zuI s1 (B 0) 29 (nI (abC ab hd 5))) (B 0) 26 (nI (ser + 1))) (B 0) 24 (nI (ab 4 + 1))) (B 2) 10 (nI (ab 4 + 1))) (B 0) 31 1) := ((((n1.u0 h.1 (Or.inr (Or.inr (by decide)))).u0 h.1 (Or.inr (Or.inr (by decide)))).u0 h.1 (Or.inr (Or.inr (by decide)))).u2 h.1 (by decide)).u0 h.1 (Or.inr (Or.inr (by decide)))
  have j0 : ∀ j, j ≠ 24 → j ≠ 26 → j ≠ 29 → j ≠ 31 → zi (zuI (zuI (zuI (zuI (zuI s1 (B 0) 29 (nI (abC ab hd 5))) (B 0) 26 (nI (ser + 1))) (B 0) 24 (nI (ab 4 + 1))) (B 2) 10 (nI (ab 4 + 1))) (B 0) 31 1) (B 0) j = zi σ (B 0) j := fun j y1 y2 y3 y4 => by
    simp only [zi_uI, n02, y1, y2, y3, y4, true_and, false_and, and_false, ↓reduceIte]
    exact f01 j
  have j24 : zi (zuI (zuI (zuI (zuI (zuI s1 (B 0) 29 (nI (abC ab hd 5))) (B 0) 26 (nI (ser + 1))) (B 0) 24 (nI (ab 4 + 1))) (B 2) 10 (nI (ab 4 + 1))) (B 0) 31 1) (B 0) 24 = nI (ab 4 + 1) := by simp only [zi_uI, n02, true_and, false_and, ↓reduceIte, Nat.reduceEqDiff]
  have j26 : zi (zuI (zuI (zuI (zuI (zuI s1 (B 0) 29 (nI (abC ab hd 5))) (B 0) 26 (nI (ser + 1))) (B 0) 24 (nI (ab 4 + 1))) (B 2) 10 (nI (ab 4 + 1))) (B 0) 31 1) (B 0) 26 = nI (ser + 1) := by simp only [zi_uI, n02, true_and, false_and, ↓reduceIte, Nat.reduceEqDiff]
  have j29 : zi (zuI (zuI (zuI (zuI (zuI s1 (B 0) 29 (nI (abC ab hd 5))) (B 0) 26 (nI (ser + 1))) (B 0) 24 (nI (ab 4 + 1))) (B 2) 10 (nI (ab 4 + 1))) (B 0) 31 1) (B 0) 29 = nI (abC ab hd 5) := by simp only [zi_uI, n02, true_and, false_and, ↓reduceIte, Nat.reduceEqDiff]
  have j31 : zi (zuI (zuI (zuI (zuI (zuI s1 (B 0) 29 (nI (abC ab hd 5))) (B 0) 26 (nI (ser + 1))) (B 0) 24 (nI (ab 4 + 1))) (B 2) 10 (nI (ab 4 + 1))) (B 0) 31 1) (B 0) 31 = 1 := by simp only [zi_uI, true_and, ↓reduceIte]
  have k2 : ∀ k, zi (zuI (zuI (zuI (zuI (zuI s1 (B 0) 29 (nI (abC ab hd 5))) (B 0) 26 (nI (ser + 1))) (B 0) 24 (nI (ab 4 + 1))) (B 2) 10 (nI (ab 4 + 1))) (B 0) 31 1) (B 2) k = if k = 10 then nI (ab 4 + 1) else zi s1 (B 2) k := fun k => by
    by_cases y : k = 10
    · subst y
      simp only [zi_uI, n20, true_and, false_and, ↓reduceIte]
    · simp only [zi_uI, n20, y, true_and, false_and, and_false, ↓reduceIte]
  have k3 : ∀ k, zi (zuI (zuI (zuI (zuI (zuI s1 (B 0) 29 (nI (abC ab hd 5))) (B 0) 26 (nI (ser + 1))) (B 0) 24 (nI (ab 4 + 1))) (B 2) 10 (nI (ab 4 + 1))) (B 0) 31 1) (B 3) k = zi s1 (B 3) k := fun k => by
    have y1 : ¬ B 3 = B 0 := h.1.ne 3 0
    have y2 : ¬ B 3 = B 2 := h.1.ne 3 2
    simp only [zi_uI, y1, y2, false_and, ↓reduceIte]
  have k4 : ∀ k, zi (zuI (zuI (zuI (zuI (zuI s1 (B 0) 29 (nI (abC ab hd 5))) (B 0) 26 (nI (ser + 1))) (B 0) 24 (nI (ab 4 + 1))) (B 2) 10 (nI (ab 4 + 1))) (B 0) 31 1) (B 4) k = zi σ (B 4) k := fun k => by
    have y1 : ¬ B 4 = B 0 := h.1.ne 4 0
    have y2 : ¬ B 4 = B 2 := h.1.ne 4 2
    simp only [zi_uI, y1, y2, false_and, ↓reduceIte]
    exact m1.i (h.1.ne 4 3) k
  generalize zuI (zuI (zuI (zuI (zuI s1 (B 0) 29 (nI (abC ab hd 5))) (B 0) 26 (nI (ser + 1))) (B 0) 24 (nI (ab 4 + 1))) (B 2) 10 (nI (ab 4 + 1))) (B 0) 31 1 = s at e3 nf j0 j24 j26 j29 j31 k2 k3 k4
  refine ⟨s, oCw e3 (Or.inr rfl), nf, j0, j24, j26, j29, j31, fun k hk => ?_, fun g hg k hk => ?_, fun g hg => ?_⟩
  · rw [k2]
    by_cases y : k = 4
    · subst y; rw [if_pos rfl]; rfl
    · rw [if_neg (by omega), m1.i (h.1.ne 2 3), hR.1 k hk]
      show nI (ab k) = nI (if k = 4 then ab 4 + 1 else if k = 5 then (if hd = 0 then 1 else ab 5) else ab k)
      rw [if_neg y, if_neg (by omega)]
  · have hg' : g < ab 4 + 1 := hg
    rw [k3]
    unfold rgF
    by_cases y : g = ab 4
    · subst y
      rw [if_pos rfl]
      obtain ⟨v0, v1, v2, v3, v4, v5⟩ := rgC_v tp f
      obtain ⟨u0, u1, u2, u3, u4, u5⟩ := i1
      rcases (show k = 0 ∨ k = 1 ∨ k = 2 ∨ k = 3 ∨ k = 4 ∨ k = 5 by omega) with z | z | z | z | z | z <;> subst z
      · rw [v0]; exact u0.trans hbw.1
      · rw [v1]; exact u1.trans hbw.2.1
      · rw [v2]; exact u2.trans hbw.2.2.1
      · rw [v3]; exact u3.trans hbw.2.2.2.1
      · rw [v4]; exact u4.trans hbw.2.2.2.2.1
      · rw [v5]; exact u5.trans hbw.2.2.2.2.2
    · rw [if_neg y, o1 _ (Or.inl (by omega))]
      exact hR.2.1 g (by omega) k hk
  · obtain ⟨hg1, hg2, hg3⟩ := hg
    obtain ⟨g9, gp⟩ := hR.2.2 g hg1
    refine ⟨g9, fun i hi => ?_⟩
    have hpd : pdN (abC ab hd) (rgF rg (ab 4) (rgC tp f)) g = pdN ab rg g := by
      unfold pdN
      by_cases e8 : g = 8
      · rw [if_pos e8, if_pos e8]; rfl
      · rw [if_neg e8, if_neg e8]
        unfold rgF
        rw [if_neg (by omega), if_neg (by omega)]
    have hsl : slt (abC ab hd) g = slt ab g := by
      unfold slt
      have : abC ab hd 5 = ab 5 := by
        show (if hd = 0 then 1 else ab 5) = ab 5
        rw [if_neg (by omega)]
      rw [this]
    rw [hpd] at hi
    rw [hsl, k4]
    exact gp i hi
end PMTAKES
