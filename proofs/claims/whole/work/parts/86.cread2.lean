/-! the class's reader: control, data, what may be left out -/
def P578 : Nat → Prop := fun i => i = 5 ∨ i = 7 ∨ i = 8
def P5b (b : Nat) : Nat → Prop := fun i => i = 5 ∨ (b ≤ i ∧ i < b + 20)
section PCREAD2
variable {σ s t : zS} {C : Nat → Nat} {P : Nat → Prop} {b : Nat} {tp : List Nat} {ab : Nat → Nat} {rg px : Nat → Nat → Nat} {fn : Nat → Prop}
theorem zsq.mono {P' : Nat → Prop} (h : zsq C P σ s) (hp : ∀ i, P i → P' i) : zsq C P' σ s := ⟨h.1, h.2.1, h.2.2.1, h.2.2.2.1, h.2.2.2.2.1, fun a j q => h.2.2.2.2.2 a j (fun ⟨i, h1, h2, e⟩ => q ⟨i, h1, hp i h2, e⟩)⟩
theorem P578.rd {i : Nat} (h : P578 i) : PRd b i := by
  rcases h with z | z | z
  · exact Or.inl z
  · exact Or.inr (Or.inl (by omega))
  · exact Or.inr (Or.inl (by omega))
theorem P5b.rd {i : Nat} (h : P5b b i) : PRd b i := by
  rcases h with z | z
  · exact Or.inl z
  · exact Or.inr (Or.inr z)
theorem P578.no (hb : isR b) {j : Nat} (hj : j < 20) : ¬ P578 (b + j) := fun z => by
  have : 25 ≤ b := by rcases hb with z | z <;> omega
  rcases z with z | z | z <;> omega
theorem RCw.of (h : RCw σ (fun i => C (b + i)) ab rg px fn) (q : ∀ j, j < 20 → ∀ k, zi s (C (b + j)) k = zi σ (C (b + j)) k) (h4 : ab 4 ≤ 8) : RCw s (fun i => C (b + i)) ab rg px fn := by
  obtain ⟨⟨g1, g2, g3, g4, g6⟩, ⟨g7, g8⟩, g9, g10⟩ := h
  exact ⟨⟨(q 0 (by decide) 2).trans g1, (q 0 (by decide) 3).trans g2, (q 0 (by decide) 4).trans g3, (q 0 (by decide) 5).trans g4, (q 0 (by decide) 7).trans g6⟩, ⟨(q 18 (by decide) 1).trans g7, (q 18 (by decide) 2).trans g8⟩, fun f hf k hk => (q (2 + 2 * f) (by omega) _).trans (g9 f hf k hk), fun f hf => ⟨(g10 f hf).1, fun i hi => (q (3 + 2 * f) (by have := (g10 f hf).1; omega) _).trans ((g10 f hf).2 i hi)⟩⟩
theorem znI_iff {x : Int32} {W : Nat} (h : 1 ≤ x.toInt) (hW : W ≤ 16) : x = nI W ↔ x.toInt.toNat = W := by
  rw [zeq, zt_nI (by omega)]
  omega
theorem s_fcanW {Q : Nat → Nat} {n : Nat} (hL : RLL σ Q) (h7 : zi σ (Q 0) 7 = nI n) (hn : 0 < n) (hn8 : n ≤ 8) : (zi σ (Q 2) 1 = zi σ (Q 0) 4 ∧ zi σ (Q 2) 2 = zi σ (Q 0) 5 → fX5_firstIsCanvas σ (Q 0) = some 1) ∧ (¬ (zi σ (Q 2) 1 = zi σ (Q 0) 4 ∧ zi σ (Q 2) 2 = zi σ (Q 0) 5) → fX5_firstIsCanvas σ (Q 0) = some 0) := by
  obtain ⟨h1, h2, h3, h4, h5, h6, h7'⟩ := hL
  have c0 : ¬ nI n ≤ 0 := fun z => by
    have := (nI_leI (a := n) (b := 0) (by omega) (by decide)).mp z
    omega
  have kp : zk σ (Q 2) = 4 := (h7' 0 (by decide)).1
  have lr : ∀ f : Nat → Option Int32, oLr σ (Q 1) 0 f = f (Q 2) := fun f => oLr_eq (n := 0) h4 (by rw [h5]; decide) (by decide) (h6 0 (by decide))
  have e0 : gX5_firstIsCanvas σ (Q 0) = if zi σ (Q 2) 1 = zi σ (Q 0) 4 then (if zi σ (Q 2) 2 = zi σ (Q 0) 5 then some 1 else some 0) else some 0 := by
    unfold gX5_firstIsCanvas
    rw [oGI_eq h1 h7, if_neg c0, oGR_eq h1 h2, lr, oGI_eq kp rfl, oGI_eq h1 rfl, oGR_eq h1 h2, lr, oGI_eq kp rfl, oGI_eq h1 rfl]
  refine ⟨fun q => ?_, fun q => ?_⟩
  · unfold fX5_firstIsCanvas
    rw [e0, if_pos q.1, if_pos q.2]
    rfl
  · unfold fX5_firstIsCanvas
    rw [e0]
    by_cases c1 : zi σ (Q 2) 1 = zi σ (Q 0) 4
    · rw [if_pos c1, if_neg (fun z => q ⟨c1, z⟩)]; rfl
    · rw [if_neg c1]; rfl
theorem k_control (h : KB σ C b tp) (hb : isR b) {f ser tl hd : Nat} {bf : Int32} (hf : f + 26 ≤ tp.length) (h7 : zi σ (C 5) 7 = bf) (h8 : zi σ (C 5) 8 = nI ser) (h9 : zi σ (C 5) 9 = nI tl) (h10 : zi σ (C 5) 10 = nI hd) (hR : RCw σ (fun i => C (b + i)) ab rg px fn) (hw : WFr ab rg) (htl : tl ≤ 8) (hhd : hd ≤ 1) (h0 : hd = 0 → kd bf ≠ 3 → ab 4 = 0) :
    ∃ r s, fX4_takesControl σ (C 5) (nI f) = some (r, s) ∧ zsq C (P5b b) σ s ∧ (∀ k, k ≠ 8 → zi s (C 5) k = zi σ (C 5) k) ∧ ((¬ (kd bf ≠ 3 ∧ ab 4 < tl ∧ okC tp f ser ab hd) ∧ r = 0) ∨ ((kd bf ≠ 3 ∧ ab 4 < tl ∧ okC tp f ser ab hd) ∧ r = 1 ∧ zi s (C 5) 8 = nI (ser + 1) ∧ zi s (C b) 6 = zi σ (C b) 6 ∧ RCw s (fun i => C (b + i)) (abC ab hd) (rgF rg (ab 4) (rgC tp f)) px (fun g => fn g ∧ (g < ab 4 ∨ g = 8)))) := by
  obtain ⟨b0, b1, b2, b4, b5, -⟩ := hw.b
  have hlt := hb.lt
  have h25 : 25 ≤ b := by rcases hb with z | z <;> omega
  have hL := h.rl hb
  have kb : zk σ (C b) = 6 := hL.1
  obtain ⟨⟨g1, g2, g3, g4, g6⟩, ⟨g7, g8⟩, g9, g10⟩ := id hR
  have g6' : zi σ (C b) 7 = nI (ab 4) := g6
  have g3' : zi σ (C b) 4 = nI (ab 1) := g3
  have g4' : zi σ (C b) 5 = nI (ab 2) := g4
  have n5 : C 5 ≠ C b := fun e => by have := h.1.1 5 b (by decide) (by omega) e; omega
  suffices H : ∃ r s, gX4_takesControl σ (C 5) (nI f) = some (r, s) ∧ (r = 0 ∨ r = 1) ∧ zsq C (P5b b) σ s ∧ (∀ k, k ≠ 8 → zi s (C 5) k = zi σ (C 5) k) ∧ ((¬ (kd bf ≠ 3 ∧ ab 4 < tl ∧ okC tp f ser ab hd) ∧ r = 0) ∨ ((kd bf ≠ 3 ∧ ab 4 < tl ∧ okC tp f ser ab hd) ∧ r = 1 ∧ zi s (C 5) 8 = nI (ser + 1) ∧ zi s (C b) 6 = zi σ (C b) 6 ∧ RCw s (fun i => C (b + i)) (abC ab hd) (rgF rg (ab 4) (rgC tp f)) px (fun g => fn g ∧ (g < ab 4 ∨ g = 8)))) by
    obtain ⟨r, s, e, hr, hh⟩ := H
    exact ⟨r, s, oCw e hr, hh⟩
  unfold gX4_takesControl
  rw [oGI_eq h.k5.1 h7]
  by_cases d1 : bf = 1717785676
  · exact ⟨0, σ, by rw [if_pos d1], Or.inl rfl, zsq.rf, fun _ _ => rfl, Or.inl ⟨fun z => z.1 ((kdv bf).2.2.1.mpr d1), rfl⟩⟩
  have k3 : kd bf ≠ 3 := fun z => d1 ((kdv bf).2.2.1.mp z)
  rw [if_neg d1, oGR_eq h.k5.1 h.2.1, oGI_eq kb g6', oGI_eq h.k5.1 h9]
  have c2 : nI tl ≤ nI (ab 4) ↔ tl ≤ ab 4 := nI_leI (by omega) (by omega)
  by_cases d2 : tl ≤ ab 4
  · exact ⟨0, σ, by rw [if_pos (c2.mpr d2)], Or.inl rfl, zsq.rf, fun _ _ => rfl, Or.inl ⟨fun z => by omega, rfl⟩⟩
  rw [if_neg (fun z => d2 (c2.mp z)), oA_eq h.k5.1]
  obtain ⟨sy, sn⟩ := k_serial h (f := f) (by omega) h8
  have z1 : zsq C (P5b b) σ (zuI σ (C 5) 8 (nI (ser + 1))) := zsq.rf.uI (by decide) (Or.inl rfl)
  have z1i : ∀ k, k ≠ 8 → zi (zuI σ (C 5) 8 (nI (ser + 1))) (C 5) k = zi σ (C 5) k := fun k hk => by rw [zi_uI, if_neg (fun z => hk z.2)]
  have z18 : zi (zuI σ (C 5) 8 (nI (ser + 1))) (C 5) 8 = nI (ser + 1) := by rw [zi_uI, if_pos ⟨rfl, rfl⟩]
  have z1b : ∀ j, j < 20 → ∀ k, zi (zuI σ (C 5) 8 (nI (ser + 1))) (C (b + j)) k = zi σ (C (b + j)) k := fun j hj k => by
    rw [zi_uI, if_neg (fun z => by have := h.1.1 (b + j) 5 (by omega) (by decide) z.1; omega)]
  by_cases d3 : nmS tp f = nI ser
  rotate_left
  · exact ⟨0, _, by rw [oC_eq (sn d3), if_pos rfl], Or.inl rfl, z1, z1i, Or.inl ⟨fun z => d3 z.2.2.1, rfl⟩⟩
  rw [oC_eq (sy d3), if_neg (by decide)]
  generalize zuI σ (C 5) 8 (nI (ser + 1)) = s1 at z1 z1i z18 z1b
  have h1 := h.of hb (z1.mono (fun _ z => z.rd))
  have hR1 := hR.of z1b b4
  have kb1 : zk s1 (C b) = 6 := (h1.rl hb).1
  have a4 : nI f + 4 = nI (f + 4) := nI_add f 4
  have a8 : nI f + 8 = nI (f + 8) := nI_add f 8
  have a12 : nI f + 12 = nI (f + 12) := nI_add f 12
  have a16 : nI f + 16 = nI (f + 16) := nI_add f 16
  have a24 : nI f + 24 = nI (f + 24) := nI_add f 24
  have a25 : nI f + 25 = nI (f + 25) := nI_add f 25
  rw [oGR_eq h1.k5.1 h1.k5.2.1, oA_eq h1.k5.2.2, a4, oB_eq (k_num h1 (by omega)), oGR_eq h1.k5.1 h1.k5.2.1, oA_eq h1.k5.2.2, a8, oB_eq (k_num h1 (by omega)), oGR_eq h1.k5.1 h1.k5.2.1, oA_eq h1.k5.2.2, a12, oB_eq (k_num h1 (by omega)), oGR_eq h1.k5.1 h1.k5.2.1, oA_eq h1.k5.2.2, a16, oB_eq (k_num h1 (by omega)), oGR_eq h1.k5.1 h1.k5.2.1, oA_eq h1.k5.2.2, a24, oB_eq (k_at h1 (by omega)), oGR_eq h1.k5.1 h1.k5.2.1, oA_eq h1.k5.2.2, a25, oB_eq (k_at h1 (by omega)), oGR_eq h1.k5.1 h1.2.1, oA_eq kb1]
  obtain ⟨v, ev, hv⟩ := s_allows (r := C b) kb1 hR1.1.2.2.1 hR1.1.2.2.2.1 b1 b2 (nmS tp (f + 4)) (nmS tp (f + 8)) (nmS tp (f + 12)) (nmS tp (f + 16)) (nI (tp.getD (f + 24) 0)) (nI (tp.getD (f + 25) 0))
  rw [oB_eq ev]
  rcases hv with ⟨v1, hal⟩ | ⟨v0, hal⟩
  rotate_left
  · subst v0
    exact ⟨0, s1, by rw [if_pos rfl], Or.inl rfl, z1, z1i, Or.inl ⟨fun z => hal z.2.2.2.1, rfl⟩⟩
  subst v1
  rw [if_neg (by decide), oGR_eq h1.k5.1 h1.2.1, oA_eq kb1]
  obtain ⟨s2, e2, m2, i2, i27, i21, i22, i23, i24, i25, i26⟩ := s_add6 (Q := fun i => C (b + i)) (c := ab 4) (h1.rl hb) (isR.inj h1.1 hb) hR1.1.2.2.2.2 (by omega) (nmS tp (f + 4)) (nmS tp (f + 8)) (nmS tp (f + 12)) (nmS tp (f + 16)) (nI (tp.getD (f + 24) 0)) (nI (tp.getD (f + 25) 0))
  have e2' : fX5_add s1 (C b) (nmS tp (f + 4)) (nmS tp (f + 8)) (nmS tp (f + 12)) (nmS tp (f + 16)) (nI (tp.getD (f + 24) 0)) (nI (tp.getD (f + 25) 0)) = some s2 := e2
  have z2 : zsq C (P5b b) s1 s2 := zsq.ofC (m2.mono (fun a z => z.elim (fun z => ⟨b, by omega, Or.inr (by omega), z⟩) (fun z => ⟨b + (2 + 2 * ab 4), by omega, Or.inr (by omega), z⟩)))
  have n5b : ∀ j, j < 20 → C 5 ≠ C (b + j) := fun j hj e => by have := h.1.1 5 (b + j) (by decide) (by omega) e; omega
  have z25 : ∀ k, zi s2 (C 5) k = zi s1 (C 5) k := fun k => m2.i (fun z => z.elim (n5b 0 (by decide)) (n5b (2 + 2 * ab 4) (by omega))) k
  have z2b : ∀ j, j < 20 → j ≠ 0 → j ≠ 2 + 2 * ab 4 → ∀ k, zi s2 (C (b + j)) k = zi σ (C (b + j)) k := fun j hj j0 j1 k => by
    rw [m2.i (fun z => z.elim (fun z => by have := h.1.1 (b + j) (b + 0) (by omega) (by omega) z; omega) (fun z => by have := h.1.1 (b + j) (b + (2 + 2 * ab 4)) (by omega) (by omega) z; omega)), z1b j hj]
  have i2' : ∀ k, k ≠ 7 → zi s2 (C b) k = zi σ (C b) k := fun k hk => (i2 k hk).trans (z1b 0 (by decide) k)
  have h2 := h1.of hb (z2.mono (fun _ z => z.rd))
  have kb2 : zk s2 (C b) = 6 := (h2.rl hb).1
  have y10 : zi s2 (C 5) 10 = nI hd := by rw [z25, z1i 10 (by decide)]; exact h10
  have hbw := alw_b hal
  have hpic : ∀ k, k < 6 → zi s2 (C (b + (2 + 2 * ab 4))) (1 + k) = nI (rgC tp f k) := fun k hk => by
    obtain ⟨v0, v1, v2, v3, v4, v5⟩ := rgC_v tp f
    rcases (show k = 0 ∨ k = 1 ∨ k = 2 ∨ k = 3 ∨ k = 4 ∨ k = 5 by omega) with z | z | z | z | z | z <;> subst z
    · rw [v0]; exact i21.trans hbw.1
    · rw [v1]; exact i22.trans hbw.2.1
    · rw [v2]; exact i23.trans hbw.2.2.1
    · rw [v3]; exact i24.trans hbw.2.2.2.1
    · rw [v4]; exact i25.trans hbw.2.2.2.2.1
    · rw [v5]; exact i26.trans hbw.2.2.2.2.2
  have hRC : ∀ s3 : zS, (∀ k, k ≠ 3 → zi s3 (C b) k = zi s2 (C b) k) → zi s3 (C b) 3 = nI (abC ab hd 5) → (∀ j, j < 20 → j ≠ 0 → ∀ k, zi s3 (C (b + j)) k = zi s2 (C (b + j)) k) → RCw s3 (fun i => C (b + i)) (abC ab hd) (rgF rg (ab 4) (rgC tp f)) px (fun g => fn g ∧ (g < ab 4 ∨ g = 8)) := fun s3 q3 q33 qj => by
    refine ⟨⟨?_, q33, ?_, ?_, ?_⟩, ⟨?_, ?_⟩, fun g hg k hk => ?_, fun g hg => ⟨(g10 g hg.1).1, fun i hi => ?_⟩⟩
    · exact (q3 2 (by decide)).trans ((i2' 2 (by decide)).trans g1)
    · exact (q3 4 (by decide)).trans ((i2' 4 (by decide)).trans g3)
    · exact (q3 5 (by decide)).trans ((i2' 5 (by decide)).trans g4)
    · exact (q3 7 (by decide)).trans i27
    · exact (qj 18 (by decide) (by decide) 1).trans ((z2b 18 (by decide) (by decide) (by omega) 1).trans g7)
    · exact (qj 18 (by decide) (by decide) 2).trans ((z2b 18 (by decide) (by decide) (by omega) 2).trans g8)
    · have hg' : g < ab 4 + 1 := hg
      refine (qj (2 + 2 * g) (by omega) (by omega) _).trans ?_
      unfold rgF
      by_cases e : g = ab 4
      · subst e
        rw [if_pos rfl]
        exact hpic k hk
      · rw [if_neg e]
        exact (z2b (2 + 2 * g) (by omega) (by omega) (by omega) _).trans (g9 g (by omega) k hk)
    · obtain ⟨hg1, hg2⟩ := hg
      have hgg : pdN (abC ab hd) (rgF rg (ab 4) (rgC tp f)) g = pdN ab rg g := by
        unfold pdN
        by_cases e8 : g = 8
        · rw [if_pos e8, if_pos e8]; rfl
        · rw [if_neg e8, if_neg e8]
          unfold rgF
          rw [if_neg (by omega), if_neg (by omega)]
      rw [hgg] at hi
      have hg9 := (g10 g hg1).1
      exact (qj (3 + 2 * g) (by omega) (by omega) _).trans ((z2b (3 + 2 * g) (by omega) (by omega) (by omega) _).trans ((g10 g hg1).2 i hi))
  have z12 := z1.trans z2
  have q10 : nI hd = 0 ↔ hd = 0 := nI_eq (b := 0) (by omega) (by decide)
  rw [oB_eq e2', oGI_eq h2.k5.1 y10]
  by_cases dh : hd = 0
  rotate_left
  · rw [if_neg (fun z => dh (q10.mp z))]
    refine ⟨1, s2, rfl, Or.inr rfl, z12, fun k hk => (z25 k).trans (z1i k hk), Or.inr ⟨⟨k3, by omega, d3, hal, fun z => absurd z dh⟩, rfl, (z25 8).trans z18, i2' 6 (by decide), hRC s2 (fun _ _ => rfl) ?_ (fun _ _ _ _ => rfl)⟩⟩
    show zi s2 (C b) 3 = nI (if hd = 0 then 1 else ab 5)
    rw [if_neg dh]
    exact (i2' 3 (by decide)).trans g2
  rw [if_pos (q10.mpr dh), oGR_eq h2.k5.1 h2.2.1, oPZ_eq kb2 (Or.inr rfl)]
  have z3 : zsq C (P5b b) s2 (zuI s2 (C b) 3 1) := zsq.rf.uI (by omega) (Or.inr (by omega))
  have h3 := h2.of hb (z3.mono (fun _ z => z.rd))
  have kb3 : zk (zuI s2 (C b) 3 1) (C b) = 6 := kb2
  have y3 : ∀ k, k ≠ 3 → zi (zuI s2 (C b) 3 1) (C b) k = zi s2 (C b) k := fun k hk => by rw [zi_uI, if_neg (fun z => hk z.2)]
  have y33 : zi (zuI s2 (C b) 3 1) (C b) 3 = 1 := by rw [zi_uI, if_pos ⟨rfl, rfl⟩]
  have y3j : ∀ j, j < 20 → j ≠ 0 → ∀ k, zi (zuI s2 (C b) 3 1) (C (b + j)) k = zi s2 (C (b + j)) k := fun j hj j0 k => by
    rw [zi_uI, if_neg (fun z => by have := h.1.1 (b + j) b (by omega) (by omega) z.1; omega)]
  have y35 : ∀ k, zi (zuI s2 (C b) 3 1) (C 5) k = zi s2 (C 5) k := fun k => by rw [zi_uI, if_neg (fun z => n5 z.1)]
  generalize zuI s2 (C b) 3 1 = s3 at z3 h3 kb3 y3 y33 y3j y35
  have hc0 := h0 dh k3
  obtain ⟨fy, fno⟩ := s_fcanW (Q := fun i => C (b + i)) (n := ab 4 + 1) (h3.rl hb) ((y3 7 (by decide)).trans i27) (by omega) (by omega)
  have w1 : zi s3 (C (b + 2)) 1 = nmS tp (f + 4) := by
    rw [y3j 2 (by decide) (by decide)]
    have := i21
    rw [hc0] at this
    exact this
  have w2 : zi s3 (C (b + 2)) 2 = nmS tp (f + 8) := by
    rw [y3j 2 (by decide) (by decide)]
    have := i22
    rw [hc0] at this
    exact this
  have w4 : zi s3 (C b) 4 = nI (ab 1) := (y3 4 (by decide)).trans ((i2' 4 (by decide)).trans g3)
  have w5 : zi s3 (C b) 5 = nI (ab 2) := (y3 5 (by decide)).trans ((i2' 5 (by decide)).trans g4)
  have q1 : nmS tp (f + 4) = nI (ab 1) ↔ (nmS tp (f + 4)).toInt.toNat = ab 1 := znI_iff hal.1.1 b1
  have q2 : nmS tp (f + 8) = nI (ab 2) ↔ (nmS tp (f + 8)).toInt.toNat = ab 2 := znI_iff hal.2.2.1.1 b2
  have z123 := z12.trans z3
  have y5f : ∀ k, k ≠ 8 → zi s3 (C 5) k = zi σ (C 5) k := fun k hk => (y35 k).trans ((z25 k).trans (z1i k hk))
  rw [oGR_eq h3.k5.1 h3.2.1, oA_eq kb3]
  by_cases dc : (nmS tp (f + 4)).toInt.toNat = ab 1 ∧ (nmS tp (f + 8)).toInt.toNat = ab 2
  · have fy' : fX5_firstIsCanvas s3 (C b) = some 1 := fy ⟨by show zi s3 (C (b + 2)) 1 = zi s3 (C b) 4; rw [w1, w4]; exact q1.mpr dc.1, by show zi s3 (C (b + 2)) 2 = zi s3 (C b) 5; rw [w2, w5]; exact q2.mpr dc.2⟩
    rw [oB_eq fy']
    refine ⟨1, s3, rfl, Or.inr rfl, z123, y5f, Or.inr ⟨⟨k3, by omega, d3, hal, fun _ => dc⟩, rfl, (y35 8).trans ((z25 8).trans z18), (y3 6 (by decide)).trans (i2' 6 (by decide)), hRC s3 y3 ?_ y3j⟩⟩
    show zi s3 (C b) 3 = nI (if hd = 0 then 1 else ab 5)
    rw [if_pos dh]
    exact y33
  · have fn' : fX5_firstIsCanvas s3 (C b) = some 0 := fno (fun z => dc ⟨q1.mp (by
      have z1 : zi s3 (C (b + 2)) 1 = zi s3 (C b) 4 := z.1
      rw [w1, w4] at z1
      exact z1), q2.mp (by
      have z2 : zi s3 (C (b + 2)) 2 = zi s3 (C b) 5 := z.2
      rw [w2, w5] at z2
      exact z2)⟩)
    rw [oB_eq fn']
    exact ⟨0, s3, rfl, Or.inl rfl, z123, y5f, Or.inl ⟨fun z => dc (z.2.2.2.2 dh), rfl⟩⟩
end PCREAD2
