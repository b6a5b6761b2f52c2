/-! the class's reader: what it may change, what it keeps -/
def zsq (C : Nat → Nat) (P : Nat → Prop) (σ s : zS) : Prop := zk s = zk σ ∧ zn s = zn σ ∧ zl s = zl σ ∧ zx s = zx σ ∧ (∀ a j, ¬ (a = C 5 ∧ j = 4) → zr s a j = zr σ a j) ∧ ∀ a j, ¬ (∃ i, i < 71 ∧ P i ∧ a = C i) → zi s a j = zi σ a j
def PRd (b : Nat) : Nat → Prop := fun i => i = 5 ∨ (6 ≤ i ∧ i < 25) ∨ (b ≤ i ∧ i < b + 20)
def pdN (ab : Nat → Nat) (rg : Nat → Nat → Nat) (f : Nat) : Nat := if f = 8 then ab 1 * ab 2 else rg f 0 * rg f 1
def RCw (σ : zS) (Q : Nat → Nat) (ab : Nat → Nat) (rg px : Nat → Nat → Nat) (fn : Nat → Prop) : Prop :=
  (zi σ (Q 0) 2 = nI (ab 0) ∧ zi σ (Q 0) 3 = nI (ab 5) ∧ zi σ (Q 0) 4 = nI (ab 1) ∧ zi σ (Q 0) 5 = nI (ab 2) ∧ zi σ (Q 0) 7 = nI (ab 4)) ∧ (zi σ (Q 18) 1 = nI (ab 1) ∧ zi σ (Q 18) 2 = nI (ab 2)) ∧ (∀ f, f < ab 4 → ∀ k, k < 6 → zi σ (Q (2 + 2 * f)) (1 + k) = nI (rg f k)) ∧ ∀ f, fn f → f < 9 ∧ ∀ i, i < pdN ab rg f → zi σ (Q (3 + 2 * f)) i = nI (px f i)
def KB (σ : zS) (C : Nat → Nat) (b : Nat) (tp : List Nat) : Prop := CLL σ C ∧ zr σ (C 5) 3 = some (C b) ∧ BL σ (C 3) (C 4) 8000 tp ∧ SMT σ (C 2)
def KT (σ : zS) (C : Nat → Nat) (b : Nat) (fn : Nat → Prop) : zRS → Prop
  | (_, bf, ser, tl, hd, ab, rg, px, pk) =>
    (zi σ (C 5) 8 = nI ser ∧ zi σ (C 5) 9 = nI tl ∧ zi σ (C 5) 10 = nI hd) ∧ (kd bf ≠ 0 → RCw σ (fun i => C (b + i)) ab rg px fn ∧ (tl ≠ 0 → zi σ (C b) 6 = nI (ab 3))) ∧ (kd bf = 1 ∨ kd bf = 2 → zr σ (C 5) 4 = some (C (b + (2 + 2 * gsR (kd bf) ab))) ∧ BL σ (C 7) (C 8) 8000 pk)
theorem oCw {x : Option (Int32 × zS)} {r : Int32} {s : zS} (h : x = some (r, s)) (hr : r = 0 ∨ r = 1) : oC x (fun r s => oA (r = 0 ∨ r = 1) (some (r, s))) = some (r, s) := by
  rw [oC_eq h, oA_eq hr]
section PCREAD
variable {σ s t : zS} {C : Nat → Nat} {P : Nat → Prop} {b : Nat} {tp : List Nat}
theorem zsq.rf : zsq C P σ σ := ⟨rfl, rfl, rfl, rfl, fun _ _ _ => rfl, fun _ _ _ => rfl⟩
theorem zsq.trans (h : zsq C P σ s) (h2 : zsq C P s t) : zsq C P σ t := ⟨h2.1.trans h.1, h2.2.1.trans h.2.1, h2.2.2.1.trans h.2.2.1, h2.2.2.2.1.trans h.2.2.2.1, fun a j q => (h2.2.2.2.2.1 a j q).trans (h.2.2.2.2.1 a j q), fun a j q => (h2.2.2.2.2.2 a j q).trans (h.2.2.2.2.2 a j q)⟩
theorem zsq.ofC (h : zsC C P σ s) : zsq C P σ s := ⟨zsm.k h, zsm.n h, zsm.l h, zsm.x h, fun a j _ => by rw [zsm.r h], fun a j q => zsm.i h q j⟩
theorem zsq.uI (h : zsq C P σ s) {i k : Nat} {v : Int32} (hi : i < 71) (hp : P i) : zsq C P σ (zuI s (C i) k v) := h.trans (zsq.ofC (zsC.rf.uI hi hp))
theorem zsq.uR (h : zsq C P σ s) {v : Option Nat} : zsq C P σ (zuR s (C 5) 4 v) := h.trans ⟨rfl, rfl, rfl, rfl, fun a j q => by rw [zr_uR, if_neg q], fun _ _ _ => rfl⟩
theorem zsq.i (h : zsq C P σ s) (hc : CLL σ C) {j : Nat} (hj : j < 71) (hp : ¬ P j) (k : Nat) : zi s (C j) k = zi σ (C j) k := h.2.2.2.2.2 _ _ (fun ⟨i, h1, h2, e⟩ => hp (by rw [hc.1 j i hj h1 e]; exact h2))
theorem zsq.r (h : zsq C P σ s) (hc : CLL σ C) {i : Nat} (hi : i < 71) (j : Nat) (hp : i ≠ 5 ∨ j ≠ 4) : zr s (C i) j = zr σ (C i) j := h.2.2.2.2.1 _ _ (fun z => by
  have := hc.1 i 5 hi (by decide) z.1
  omega)
theorem CLL.ofr (h : CLL σ C) (hk : zk s = zk σ) (hn : zn s = zn σ) (hr : ∀ i j, i < 71 → (i ≠ 5 ∨ j ≤ 2) → (i ≠ 0 ∨ j ≤ 3) → zr s (C i) j = zr σ (C i) j) : CLL s C := by
  have q : ∀ i j, i < 71 → i ≠ 5 → i ≠ 0 → zr s (C i) j = zr σ (C i) j := fun i j hi h5 h0 => hr i j hi (Or.inl h5) (Or.inl h0)
  have q0 : ∀ j, j ≤ 3 → zr s (C 0) j = zr σ (C 0) j := fun j hj => hr 0 j (by decide) (Or.inl (by decide)) (Or.inr hj)
  have q5 : ∀ j, j ≤ 2 → zr s (C 5) j = zr σ (C 5) j := fun j hj => hr 5 j (by decide) (Or.inr hj) (Or.inl (by decide))
  have hRL : ∀ b, isR b → RLL σ (fun i => C (b + i)) → RLL s (fun i => C (b + i)) := fun b hb hL => by
    have hlt := hb.lt
    have h25 : 25 ≤ b := by rcases hb with z | z <;> omega
    obtain ⟨r1, r2, r3, r4, r5, r6, r7⟩ := hL
    refine ⟨by rw [hk]; exact r1, (q b 0 (by omega) (by omega) (by omega)).trans r2, (q b 1 (by omega) (by omega) (by omega)).trans r3, by rw [hk]; exact r4, by rw [hn]; exact r5, fun f hf => (q (b + 1) f (by omega) (by omega) (by omega)).trans (r6 f hf), fun f hf => ?_⟩
    obtain ⟨p1, p2, p3, p4⟩ := r7 f hf
    exact ⟨by rw [hk]; exact p1, (q (b + (2 + 2 * f)) 0 (by omega) (by omega) (by omega)).trans p2, by rw [hk]; exact p3, by rw [hn]; exact p4⟩
  have hCO : ∀ i, 6 ≤ i → i + 3 < 25 → CO σ (C i) (C (i + 1)) (C (i + 2)) (C (i + 3)) → CO s (C i) (C (i + 1)) (C (i + 2)) (C (i + 3)) := fun i h6 h25 hc => by
    obtain ⟨c1, c2, c3, c4, c5⟩ := hc
    refine ⟨by rw [hk]; exact c1, (q i 0 (by omega) (by omega) (by omega)).trans c2, (q i 1 (by omega) (by omega) (by omega)).trans c3, (q i 2 (by omega) (by omega) (by omega)).trans c4, ?_⟩
    rw [hk, hn]
    exact c5
  have hBY : ∀ i j N, i < 71 → i ≠ 5 → i ≠ 0 → BYL σ (C i) (C j) N → BYL s (C i) (C j) N := fun i j N hi h5 h0 hB => by
    obtain ⟨c1, c2, c3, c4⟩ := hB
    exact ⟨by rw [hk]; exact c1, (q i 0 hi h5 h0).trans c2, by rw [hk]; exact c3, by rw [hn]; exact c4⟩
  obtain ⟨h1, ⟨a1, a2, a3, a4, a5⟩, ⟨b1, b2, b3, b4⟩, hB1, ⟨d1, d2, d3, d4⟩, hU, hB2, hB3, hR1, hR2, ⟨g1, g2, g3⟩, hB4, ⟨j1, j2, j3, j4⟩⟩ := h
  obtain ⟨u1, u2, u3, u4, u5, u6, u7, u8, u9, u10, u11, u12, u13, u14, u15, u16⟩ := hU
  refine ⟨h1, ⟨by rw [hk]; exact a1, (q0 0 (by decide)).trans a2, (q0 1 (by decide)).trans a3, (q0 2 (by decide)).trans a4, (q0 3 (by decide)).trans a5⟩, ⟨by rw [hk]; exact b1, (q 1 0 (by decide) (by decide) (by decide)).trans b2, by rw [hk]; exact b3, by rw [hn]; exact b4⟩, hBY 3 4 _ (by decide) (by decide) (by decide) hB1, ⟨by rw [hk]; exact d1, (q5 0 (by decide)).trans d2, (q5 1 (by decide)).trans d3, (q5 2 (by decide)).trans d4⟩, ?_, hBY 7 8 _ (by decide) (by decide) (by decide) hB2, hBY 9 10 _ (by decide) (by decide) (by decide) hB3, hRL 25 (Or.inl rfl) hR1, hRL 45 (Or.inr rfl) hR2, ⟨by rw [hk]; exact g1, (q 65 0 (by decide) (by decide) (by decide)).trans g2, (q 65 1 (by decide) (by decide) (by decide)).trans g3⟩, hBY 66 67 _ (by decide) (by decide) (by decide) hB4, ⟨by rw [hk]; exact j1, (q 68 0 (by decide) (by decide) (by decide)).trans j2, (q 68 1 (by decide) (by decide) (by decide)).trans j3, by rw [hk, hn]; exact j4⟩⟩
  exact ⟨u1, by rw [hk]; exact u2, (q 6 0 (by decide) (by decide) (by decide)).trans u3, (q 6 1 (by decide) (by decide) (by decide)).trans u4, (q 6 2 (by decide) (by decide) (by decide)).trans u5, (q 6 3 (by decide) (by decide) (by decide)).trans u6, (q 6 4 (by decide) (by decide) (by decide)).trans u7, (q 6 5 (by decide) (by decide) (by decide)).trans u8, (q 6 6 (by decide) (by decide) (by decide)).trans u9, by rw [hk]; exact u10, by rw [hn]; exact u11, by rw [hk]; exact u12, (q 11 0 (by decide) (by decide) (by decide)).trans u13, hCO 12 (by decide) (by decide) u14, hCO 16 (by decide) (by decide) u15, hCO 20 (by decide) (by decide) u16⟩
theorem CLL.ofq (h : CLL σ C) (hs : zsq C P σ s) : CLL s C := h.ofr hs.1 hs.2.1 (fun i j hi h5 _ => hs.r h hi j (by omega))
theorem BL.ofq {i j N : Nat} {l : List Nat} (h : BL σ (C i) (C j) N l) (hc : CLL σ C) (hs : zsq C P σ s) (hi : i < 71) (hj : j < 71) (h5 : i ≠ 5) (hpi : ¬ P i) (hpj : ¬ P j) : BL s (C i) (C j) N l := by
  obtain ⟨⟨h1, h2, h3, h4, h5', h6, h7⟩, h8⟩ := h
  refine ⟨⟨by rw [hs.1]; exact h1, (hs.r hc hi 0 (Or.inl h5)).trans h2, by rw [hs.1]; exact h3, by rw [hs.2.1]; exact h4, (hs.i hc hi hpi 1).trans h5', h6, h7⟩, fun k hk => ?_⟩
  unfold zby
  rw [hs.i hc hj hpj]
  exact h8 k hk
theorem PRd.no {j : Nat} (hb : isR b) (h : j < 5 ∨ 65 ≤ j) : ¬ PRd b j := fun z => by
  have := hb.lt
  have : 25 ≤ b := by rcases hb with z | z <;> omega
  rcases z with z | z | z <;> omega
theorem KB.of (h : KB σ C b tp) (hb : isR b) (hs : zsq C (PRd b) σ s) : KB s C b tp := ⟨h.1.ofq hs, by rw [hs.r h.1 (by decide) 3 (Or.inr (by decide))]; exact h.2.1, h.2.2.1.ofq h.1 hs (by decide) (by decide) (by decide) (PRd.no hb (by decide)) (PRd.no hb (by decide)), fun k hk => by rw [hs.i h.1 (by decide) (PRd.no hb (by decide))]; exact h.2.2.2 k hk⟩
theorem KB.k5 (h : KB σ C b tp) : zk σ (C 5) = 5 ∧ zr σ (C 5) 0 = some (C 3) ∧ zk σ (C 3) = 2 := ⟨h.1.k5, h.1.2.2.2.2.1.2.1, h.2.2.1.1.1⟩
theorem KB.len (h : KB σ C b tp) : tp.length ≤ 8000 := h.2.2.1.1.2.2.2.2.2.1
theorem KB.by (h : KB σ C b tp) (j : Nat) : tp.getD j 0 < 256 := by
  by_cases q : j < tp.length
  · exact h.2.2.1.lt q
  · rw [List.getD_eq_getElem?_getD, List.getElem?_eq_none (by omega)]; decide
theorem k_num (h : KB σ C b tp) {i : Nat} (hi : i + 4 ≤ tp.length) : fX1_number σ (C 3) (nI i) = some (nmS tp i) := by
  rw [s_number h.2.2.1.1 hi]
  unfold nmS zn4
  rw [h.2.2.1.2 i (by omega), h.2.2.1.2 (i + 1) (by omega), h.2.2.1.2 (i + 2) (by omega), h.2.2.1.2 (i + 3) (by omega)]
theorem k_at (h : KB σ C b tp) {i : Nat} (hi : i < tp.length) : fX1_at σ (C 3) (nI i) = some (nI (tp.getD i 0)) := by
  rw [s_atN h.2.2.1.1 hi, h.2.2.1.2 i hi]
theorem k_atE (h : KB σ C b tp) (i : Nat) {v : Nat} {vv : Int32} (hv : v < 256) (e : vv = nI v) : nI (tp.getD i 0) = vv ↔ tp.getD i 0 = v := by
  rw [e]
  exact nI_eq (by have := h.by i; omega) (by omega)
theorem KB.rl (h : KB σ C b tp) (hb : isR b) : RLL σ (fun i => C (b + i)) := h.1.rl hb
theorem k_head (h : KB σ C b tp) (hb : isR b) {f : Nat} (hf : f + 13 ≤ tp.length) : ∃ r s, fX4_takesHead σ (C 5) (nI f) = some (r, s) ∧ zsq C (PRd b) σ s ∧ (∀ k, zi s (C 5) k = zi σ (C 5) k) ∧ ((¬ okH tp f ∧ r = 0) ∨ (okH tp f ∧ r = 1 ∧ (zi s (C b) 2 = 1 ∧ zi s (C b) 3 = 0 ∧ zi s (C b) 4 = nmS tp f ∧ zi s (C b) 5 = nmS tp (f + 4) ∧ zi s (C b) 7 = 0) ∧ (zi s (C (b + 18)) 1 = nmS tp f ∧ zi s (C (b + 18)) 2 = nmS tp (f + 4)))) := by
  have t1 : (1 : Int32).toInt = 1 := by decide
  have t16 : (16 : Int32).toInt = 16 := by decide
  have hlt := hb.lt
  have h25 : 25 ≤ b := by rcases hb with z | z <;> omega
  have a4 : nI f + 4 = nI (f + 4) := nI_add f 4
  have hn1 := k_num h (i := f) (by omega)
  have hn2 := k_num h (i := f + 4) (by omega)
  have hok : okH tp f ↔ (((1 ≤ (nmS tp f).toInt ∧ (nmS tp f).toInt ≤ 16) ∧ (1 ≤ (nmS tp (f + 4)).toInt ∧ (nmS tp (f + 4)).toInt ≤ 16)) ∧ tp.getD (f + 8) 0 = 8 ∧ tp.getD (f + 9) 0 = 6 ∧ tp.getD (f + 10) 0 = 0 ∧ tp.getD (f + 11) 0 = 0 ∧ tp.getD (f + 12) 0 = 0) := Iff.rfl
  generalize nmS tp f = nW at hn1 hok ⊢
  generalize nmS tp (f + 4) = nH at hn2 hok ⊢
  have hno : ∀ {w : Prop}, ¬ okH tp f → gX4_takesHead σ (C 5) (nI f) = some (0, σ) → ∃ r s, fX4_takesHead σ (C 5) (nI f) = some (r, s) ∧ zsq C (PRd b) σ s ∧ (∀ k, zi s (C 5) k = zi σ (C 5) k) ∧ ((¬ okH tp f ∧ r = 0) ∨ (okH tp f ∧ r = 1 ∧ (zi s (C b) 2 = 1 ∧ zi s (C b) 3 = 0 ∧ zi s (C b) 4 = nW ∧ zi s (C b) 5 = nH ∧ zi s (C b) 7 = 0) ∧ (zi s (C (b + 18)) 1 = nW ∧ zi s (C (b + 18)) 2 = nH))) := fun hn e => ⟨0, σ, oCw e (Or.inl rfl), zsq.rf, fun _ => rfl, Or.inl ⟨hn, rfl⟩⟩
  have e0 : gX4_takesHead σ (C 5) (nI f) = (if nW < (1 : Int32) then some (0, σ) else (if (16 : Int32) < nW then some (0, σ) else (if nH < (1 : Int32) then some (0, σ) else (if nH ≤ (16 : Int32) then oGR σ 5 (C 5) 3 (fun a3 => oA (zk σ a3 = 6) (oB (fX5_start σ a3 (nW) (nH)) (fun σ1 => oGR σ1 5 (C 5) 0 (fun a4 => oA (zk σ1 a4 = 2) (oB (fX1_at σ1 a4 (nI f + (8 : Int32))) (fun x3 => (if x3 = (8 : Int32) then oGR σ1 5 (C 5) 0 (fun a5 => oA (zk σ1 a5 = 2) (oB (fX1_at σ1 a5 (nI f + (9 : Int32))) (fun x4 => (if x4 = (6 : Int32) then oGR σ1 5 (C 5) 0 (fun a6 => oA (zk σ1 a6 = 2) (oB (fX1_at σ1 a6 (nI f + (10 : Int32))) (fun x5 => (if x5 = 0 then oGR σ1 5 (C 5) 0 (fun a7 => oA (zk σ1 a7 = 2) (oB (fX1_at σ1 a7 (nI f + (11 : Int32))) (fun x6 => (if x6 = 0 then oGR σ1 5 (C 5) 0 (fun a8 => oA (zk σ1 a8 = 2) (oB (fX1_at σ1 a8 (nI f + (12 : Int32))) (fun x7 => (if x7 = 0 then some (1, σ1) else some (0, σ1))))) else some (0, σ1))))) else some (0, σ1))))) else some (0, σ1))))) else some (0, σ1)))))))) else some (0, σ))))) := by
    unfold gX4_takesHead
    rw [oGR_eq h.k5.1 h.k5.2.1, oA_eq h.k5.2.2, oB_eq hn1, oGR_eq h.k5.1 h.k5.2.1, oA_eq h.k5.2.2, a4, oB_eq hn2]
  by_cases d1 : nW < 1
  · refine hno (w := True) (fun z => ?_) (by rw [e0, if_pos d1])
    rw [zlt, t1] at d1
    have := (hok.mp z).1.1.1
    omega
  rw [if_neg d1] at e0
  rw [zlt, t1] at d1
  by_cases d2 : 16 < nW
  · refine hno (w := True) (fun z => ?_) (by rw [e0, if_pos d2])
    rw [zlt, t16] at d2
    have := (hok.mp z).1.1.2
    omega
  rw [if_neg d2] at e0
  rw [zlt, t16] at d2
  by_cases d3 : nH < 1
  · refine hno (w := True) (fun z => ?_) (by rw [e0, if_pos d3])
    rw [zlt, t1] at d3
    have := (hok.mp z).1.2.1
    omega
  rw [if_neg d3] at e0
  rw [zlt, t1] at d3
  by_cases d4 : nH ≤ 16
  rotate_left
  · refine hno (w := True) (fun z => ?_) (by rw [e0, if_neg d4])
    rw [zle, t16] at d4
    have := (hok.mp z).1.2.2
    omega
  rw [if_pos d4] at e0
  rw [zle, t16] at d4
  have hL := h.rl hb
  have kb : zk σ (C b) = 6 := hL.1
  have hst : fX5_start σ (C b) (nW) (nH) = _ := s_start hL (isR.inj h.1 hb) (nW) (nH)
  have pb : PRd b b := Or.inr (Or.inr (by omega))
  have p18 : PRd b (b + 18) := Or.inr (Or.inr (by omega))
  simp only [Nat.add_zero] at hst
  have z1 : zsq C (PRd b) σ (zuI (zuI (zuI (zuI (zuI (zuI (zuI σ (C b) 2 1) (C b) 3 0) (C b) 4 (nW)) (C b) 5 (nH)) (C (b + 18)) 1 (nW)) (C (b + 18)) 2 (nH)) (C b) 7 0) :=
    ((((((zsq.rf.uI (by omega) pb).uI (by omega) pb).uI (by omega) pb).uI (by omega) pb).uI (by omega) p18).uI (by omega) p18).uI (by omega) pb
  have nb : ¬ C b = C (b + 18) := fun e => by have := h.1.1 b (b + 18) (by omega) (by omega) e; omega
  have nb' : ¬ C (b + 18) = C b := fun e => nb e.symm
  have n5 : ¬ C 5 = C b := fun e => by have := h.1.1 5 b (by decide) (by omega) e; omega
  have n518 : ¬ C 5 = C (b + 18) := fun e => by have := h.1.1 5 (b + 18) (by decide) (by omega) e; omega
  rw [oGR_eq h.k5.1 h.2.1, oA_eq kb, oB_eq hst] at e0
  have hfin : (∀ k, zi (zuI (zuI (zuI (zuI (zuI (zuI (zuI σ (C b) 2 1) (C b) 3 0) (C b) 4 (nW)) (C b) 5 (nH)) (C (b + 18)) 1 (nW)) (C (b + 18)) 2 (nH)) (C b) 7 0) (C 5) k = zi σ (C 5) k) ∧ (zi (zuI (zuI (zuI (zuI (zuI (zuI (zuI σ (C b) 2 1) (C b) 3 0) (C b) 4 (nW)) (C b) 5 (nH)) (C (b + 18)) 1 (nW)) (C (b + 18)) 2 (nH)) (C b) 7 0) (C b) 2 = 1 ∧ zi (zuI (zuI (zuI (zuI (zuI (zuI (zuI σ (C b) 2 1) (C b) 3 0) (C b) 4 (nW)) (C b) 5 (nH)) (C (b + 18)) 1 (nW)) (C (b + 18)) 2 (nH)) (C b) 7 0) (C b) 3 = 0 ∧ zi (zuI (zuI (zuI (zuI (zuI (zuI (zuI σ (C b) 2 1) (C b) 3 0) (C b) 4 (nW)) (C b) 5 (nH)) (C (b + 18)) 1 (nW)) (C (b + 18)) 2 (nH)) (C b) 7 0) (C b) 4 = nW ∧ zi (zuI (zuI (zuI (zuI (zuI (zuI (zuI σ (C b) 2 1) (C b) 3 0) (C b) 4 (nW)) (C b) 5 (nH)) (C (b + 18)) 1 (nW)) (C (b + 18)) 2 (nH)) (C b) 7 0) (C b) 5 = nH ∧ zi (zuI (zuI (zuI (zuI (zuI (zuI (zuI σ (C b) 2 1) (C b) 3 0) (C b) 4 (nW)) (C b) 5 (nH)) (C (b + 18)) 1 (nW)) (C (b + 18)) 2 (nH)) (C b) 7 0) (C b) 7 = 0) ∧ (zi (zuI (zuI (zuI (zuI (zuI (zuI (zuI σ (C b) 2 1) (C b) 3 0) (C b) 4 (nW)) (C b) 5 (nH)) (C (b + 18)) 1 (nW)) (C (b + 18)) 2 (nH)) (C b) 7 0) (C (b + 18)) 1 = nW ∧ zi (zuI (zuI (zuI (zuI (zuI (zuI (zuI σ (C b) 2 1) (C b) 3 0) (C b) 4 (nW)) (C b) 5 (nH)) (C (b + 18)) 1 (nW)) (C (b + 18)) 2 (nH)) (C b) 7 0) (C (b + 18)) 2 = nH) := by
    refine ⟨fun k => ?_, ⟨?_, ?_, ?_, ?_, ?_⟩, ?_, ?_⟩ <;> simp only [zi_uI, nb, nb', n5, n518, true_and, false_and, ↓reduceIte, Nat.reduceEqDiff]
  generalize zuI (zuI (zuI (zuI (zuI (zuI (zuI σ (C b) 2 1) (C b) 3 0) (C b) 4 (nW)) (C b) 5 (nH)) (C (b + 18)) 1 (nW)) (C (b + 18)) 2 (nH)) (C b) 7 0 = s1 at e0 z1 hfin
  obtain ⟨hf5, hfb, hf18⟩ := hfin
  have h1 := h.of hb z1
  have hno1 : ∀ {w : Prop}, ¬ okH tp f → gX4_takesHead σ (C 5) (nI f) = some (0, s1) → ∃ r s, fX4_takesHead σ (C 5) (nI f) = some (r, s) ∧ zsq C (PRd b) σ s ∧ (∀ k, zi s (C 5) k = zi σ (C 5) k) ∧ ((¬ okH tp f ∧ r = 0) ∨ (okH tp f ∧ r = 1 ∧ (zi s (C b) 2 = 1 ∧ zi s (C b) 3 = 0 ∧ zi s (C b) 4 = nW ∧ zi s (C b) 5 = nH ∧ zi s (C b) 7 = 0) ∧ (zi s (C (b + 18)) 1 = nW ∧ zi s (C (b + 18)) 2 = nH))) := fun hn e => ⟨0, s1, oCw e (Or.inl rfl), z1, hf5, Or.inl ⟨hn, rfl⟩⟩
  have b8 : nI f + 8 = nI (f + 8) := nI_add f 8
  have b9 : nI f + 9 = nI (f + 9) := nI_add f 9
  have b10 : nI f + 10 = nI (f + 10) := nI_add f 10
  have b11 : nI f + 11 = nI (f + 11) := nI_add f 11
  have b12 : nI f + 12 = nI (f + 12) := nI_add f 12
  rw [oGR_eq h1.k5.1 h1.k5.2.1, oA_eq h1.k5.2.2, b8, oB_eq (k_at h1 (by omega))] at e0
  by_cases c1 : tp.getD (f + 8) 0 = 8
  rotate_left
  · exact hno1 (w := True) (fun z => c1 (hok.mp z).2.1) (by rw [e0, if_neg (fun z => c1 ((k_atE h (f + 8) (v := 8) (vv := 8) (by decide) rfl).mp z))])
  rw [if_pos ((k_atE h (f + 8) (v := 8) (vv := 8) (by decide) rfl).mpr c1), oGR_eq h1.k5.1 h1.k5.2.1, oA_eq h1.k5.2.2, b9, oB_eq (k_at h1 (by omega))] at e0
  by_cases c2 : tp.getD (f + 9) 0 = 6
  rotate_left
  · exact hno1 (w := True) (fun z => c2 (hok.mp z).2.2.1) (by rw [e0, if_neg (fun z => c2 ((k_atE h (f + 9) (v := 6) (vv := 6) (by decide) rfl).mp z))])
  rw [if_pos ((k_atE h (f + 9) (v := 6) (vv := 6) (by decide) rfl).mpr c2), oGR_eq h1.k5.1 h1.k5.2.1, oA_eq h1.k5.2.2, b10, oB_eq (k_at h1 (by omega))] at e0
  by_cases c3 : tp.getD (f + 10) 0 = 0
  rotate_left
  · exact hno1 (w := True) (fun z => c3 (hok.mp z).2.2.2.1) (by rw [e0, if_neg (fun z => c3 ((k_atE h (f + 10) (v := 0) (vv := 0) (by decide) rfl).mp z))])
  rw [if_pos ((k_atE h (f + 10) (v := 0) (vv := 0) (by decide) rfl).mpr c3), oGR_eq h1.k5.1 h1.k5.2.1, oA_eq h1.k5.2.2, b11, oB_eq (k_at h1 (by omega))] at e0
  by_cases c4 : tp.getD (f + 11) 0 = 0
  rotate_left
  · exact hno1 (w := True) (fun z => c4 (hok.mp z).2.2.2.2.1) (by rw [e0, if_neg (fun z => c4 ((k_atE h (f + 11) (v := 0) (vv := 0) (by decide) rfl).mp z))])
  rw [if_pos ((k_atE h (f + 11) (v := 0) (vv := 0) (by decide) rfl).mpr c4), oGR_eq h1.k5.1 h1.k5.2.1, oA_eq h1.k5.2.2, b12, oB_eq (k_at h1 (by omega))] at e0
  by_cases c5 : tp.getD (f + 12) 0 = 0
  rotate_left
  · exact hno1 (w := True) (fun z => c5 (hok.mp z).2.2.2.2.2) (by rw [e0, if_neg (fun z => c5 ((k_atE h (f + 12) (v := 0) (vv := 0) (by decide) rfl).mp z))])
  rw [if_pos ((k_atE h (f + 12) (v := 0) (vv := 0) (by decide) rfl).mpr c5)] at e0
  exact ⟨1, s1, oCw e0 (Or.inr rfl), z1, hf5, Or.inr ⟨hok.mpr ⟨⟨⟨by omega, by omega⟩, ⟨by omega, by omega⟩⟩, c1, c2, c3, c4, c5⟩, rfl, hfb, hf18⟩⟩
theorem k_serial (h : KB σ C b tp) {f ser : Nat} (hf : f + 4 ≤ tp.length) (h8 : zi σ (C 5) 8 = nI ser) : (nmS tp f = nI ser → fX4_takesSerial σ (C 5) (nI f) = some (1, zuI σ (C 5) 8 (nI (ser + 1)))) ∧ (¬ nmS tp f = nI ser → fX4_takesSerial σ (C 5) (nI f) = some (0, zuI σ (C 5) 8 (nI (ser + 1)))) := by
  have e0 : gX4_takesSerial σ (C 5) (nI f) = if nmS tp f = nI ser then some (1, zuI σ (C 5) 8 (nI (ser + 1))) else some (0, zuI σ (C 5) 8 (nI (ser + 1))) := by
    unfold gX4_takesSerial fX4_takesSerial_20
    rw [oGR_eq h.k5.1 h.k5.2.1, oA_eq h.k5.2.2, oB_eq (k_num h hf), oGI_eq h.k5.1 h8, oGI_eq h.k5.1 h8, oPI_eq h.k5.1, oGI_eq h.k5.1 h8, oPI_eq h.k5.1, nI_1]
  exact ⟨fun q => oCw (by rw [e0, if_pos q]) (Or.inr rfl), fun q => oCw (by rw [e0, if_neg q]) (Or.inl rfl)⟩
theorem k_counts (h : KB σ C b tp) (hb : isR b) {f tl hd : Nat} (hf : f + 8 ≤ tp.length) (h9 : zi σ (C 5) 9 = nI tl) (h10 : zi σ (C 5) 10 = nI hd) (htl : tl ≤ 8) (hhd : hd ≤ 1) : (tl = 0 ∧ hd = 0 ∧ 1 ≤ (nmS tp f).toInt ∧ (nmS tp f).toInt ≤ 8 → fX4_takesCounts σ (C 5) (nI f) = some (1, zuI (zuI σ (C 5) 9 (nmS tp f)) (C b) 6 (nmS tp (f + 4)))) ∧ (¬ (tl = 0 ∧ hd = 0 ∧ 1 ≤ (nmS tp f).toInt ∧ (nmS tp f).toInt ≤ 8) → fX4_takesCounts σ (C 5) (nI f) = some (0, σ)) := by
  have t1 : (1 : Int32).toInt = 1 := by decide
  have t8 : (8 : Int32).toInt = 8 := by decide
  have a4 : nI f + 4 = nI (f + 4) := nI_add f 4
  have q9 : nI tl = 0 ↔ tl = 0 := nI_eq (b := 0) (by omega) (by decide)
  have q10 : nI hd = 0 ↔ hd = 0 := nI_eq (b := 0) (by omega) (by decide)
  have kb : zk σ (C b) = 6 := (h.rl hb).1
  have z1 : zsq C (PRd b) σ (zuI σ (C 5) 9 (nmS tp f)) := zsq.rf.uI (by decide) (Or.inl rfl)
  have h1 := h.of hb z1
  have e0 : gX4_takesCounts σ (C 5) (nI f) = if nI tl = 0 then (if nI hd = 0 then (if nmS tp f < (1 : Int32) then some (0, σ) else (if nmS tp f ≤ (8 : Int32) then some (1, zuI (zuI σ (C 5) 9 (nmS tp f)) (C b) 6 (nmS tp (f + 4))) else some (0, σ))) else some (0, σ)) else some (0, σ) := by
    unfold gX4_takesCounts
    rw [oGR_eq h.k5.1 h.k5.2.1, oA_eq h.k5.2.2, oB_eq (k_num h (by omega)), oGI_eq h.k5.1 h9, oGI_eq h.k5.1 h10, oPI_eq h.k5.1, oGR_eq h1.k5.1 h1.2.1, oGR_eq h1.k5.1 h1.k5.2.1, oA_eq h1.k5.2.2, a4, oB_eq (k_num h1 (by omega)), oPI_eq (by exact kb)]
  refine ⟨fun q => oCw ?_ (Or.inr rfl), fun q => oCw ?_ (Or.inl rfl)⟩
  · have c3 : ¬ nmS tp f < 1 := by rw [zlt, t1]; omega
    have c4 : nmS tp f ≤ 8 := by rw [zle, t8]; omega
    rw [e0, if_pos (q9.mpr q.1), if_pos (q10.mpr q.2.1), if_neg c3, if_pos c4]
  · rw [e0]
    by_cases c1 : tl = 0
    · rw [if_pos (q9.mpr c1)]
      by_cases c2 : hd = 0
      · rw [if_pos (q10.mpr c2)]
        by_cases c3 : nmS tp f < 1
        · rw [if_pos c3]
        · rw [if_neg c3, if_neg (fun z => q ⟨c1, c2, by rw [zlt, t1] at c3; omega, by rw [zle, t8] at z; exact z⟩)]
      · rw [if_neg (fun z => c2 (q10.mp z))]
    · rw [if_neg (fun z => c1 (q9.mp z))]
end PCREAD
