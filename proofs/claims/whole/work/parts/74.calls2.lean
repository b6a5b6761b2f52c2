/-! first, about, place, out: the class's -/
def fcan (ab : Nat → Nat) (rg : Nat → Nat → Nat) : Prop := 0 < ab 4 ∧ rg 0 0 = ab 1 ∧ rg 0 1 = ab 2
def abU (ab : Nat → Nat) (v : Nat) : Nat → Nat := fun k => if k = 5 then v else ab k
def aboutS (ab : Nat → Nat) (rg : Nat → Nat → Nat) (p i : Int32) : Int32 := if ab 0 = 0 then -11 else if p.toInt < 0 ∨ 10 < p.toInt then -12 else if p.toInt ≤ 4 then (if p.toInt = 0 then nI (ab 1) else if p.toInt = 1 then nI (ab 2) else if p.toInt = 2 then nI (ab 4) else if p.toInt = 3 then nI (ab 3) else nI (ab 5)) else if 0 ≤ i.toInt ∧ i.toInt < (ab 4 : Int) then nI (rg i.toInt.toNat (p.toInt.toNat - 5)) else -11
def outS (o : List Nat) (i : Int32) : Int32 := if 0 ≤ i.toInt ∧ i.toInt < (o.length : Int) then nI (o.getD i.toInt.toNat 0) else -1
section PCALLS2
variable {σ s t : zS} {C : Nat → Nat} {ab : Nat → Nat} {rg px : Nat → Nat → Nat} {b : Nat}
theorem s_fcan {Q : Nat → Nat} (hL : RLL σ Q) (hR : RC σ Q ab rg px) (hw4 : ab 4 ≤ 8) (hb : ab 1 ≤ 16 ∧ ab 2 ≤ 16) (hg : 0 < ab 4 → rg 0 0 ≤ 16 ∧ rg 0 1 ≤ 16) : ∃ v, fX5_firstIsCanvas σ (Q 0) = some v ∧ ((v = 1 ∧ fcan ab rg) ∨ (v = 0 ∧ ¬ fcan ab rg)) := by
  obtain ⟨h1, h2, h3, h4, h5, h6, h7⟩ := hL
  obtain ⟨⟨g1, g2, g3, g4, g5, g6⟩, -, g9, -⟩ := hR
  have c0 : nI (ab 4) ≤ 0 ↔ ab 4 ≤ 0 := nI_leI (b := 0) (by omega) (by decide)
  suffices H : ∃ v, gX5_firstIsCanvas σ (Q 0) = some v ∧ ((v = 1 ∧ fcan ab rg) ∨ (v = 0 ∧ ¬ fcan ab rg)) by
    obtain ⟨v, e, hv⟩ := H
    refine ⟨v, ?_, hv⟩
    unfold fX5_firstIsCanvas
    rw [oB_eq e, oA_eq (by rcases hv with ⟨z, -⟩ | ⟨z, -⟩ <;> simp [z])]
  unfold gX5_firstIsCanvas fcan
  rw [oGI_eq h1 g6]
  by_cases d0 : ab 4 ≤ 0
  · exact ⟨0, by rw [if_pos (c0.mpr d0)], Or.inr ⟨rfl, by omega⟩⟩
  · have k2 : zk σ (Q 2) = 4 := (h7 0 (by decide)).1
    have p1 : zi σ (Q 2) 1 = nI (rg 0 0) := g9 0 (by omega) 0 (by decide)
    have p2 : zi σ (Q 2) 2 = nI (rg 0 1) := g9 0 (by omega) 1 (by decide)
    obtain ⟨q1, q2⟩ := hg (by omega)
    have e1 : nI (rg 0 0) = nI (ab 1) ↔ rg 0 0 = ab 1 := nI_eq (by omega) (by omega)
    have e2 : nI (rg 0 1) = nI (ab 2) ↔ rg 0 1 = ab 2 := nI_eq (by omega) (by omega)
    have lr : ∀ f : Nat → Option Int32, oLr σ (Q 1) 0 f = f (Q 2) := fun f => oLr_eq (n := 0) h4 (by rw [h5]; decide) (by decide) (h6 0 (by decide))
    rw [if_neg (fun z => d0 (c0.mp z)), oGR_eq h1 h2, lr, oGI_eq k2 p1, oGI_eq h1 g3]
    by_cases d1 : rg 0 0 = ab 1
    · rw [if_pos (e1.mpr d1), oGR_eq h1 h2, lr, oGI_eq k2 p2, oGI_eq h1 g4]
      by_cases d2 : rg 0 1 = ab 2
      · exact ⟨1, by rw [if_pos (e2.mpr d2)], Or.inl ⟨rfl, by omega⟩⟩
      · exact ⟨0, by rw [if_neg (fun z => d2 (e2.mp z))], Or.inr ⟨rfl, by omega⟩⟩
    · exact ⟨0, by rw [if_neg (fun z => d1 (e1.mp z))], Or.inr ⟨rfl, by omega⟩⟩
theorem WFr.g0 (hw : WFr ab rg) : 0 < ab 4 → rg 0 0 ≤ 16 ∧ rg 0 1 ≤ 16 := fun h => by
  have hb := hw.b
  have := (hw.rgn h).b (by omega) (by omega)
  omega
theorem c_first (h : CLL σ C) (hb : isR b) (hr : zr σ (C 0) 4 = some (C b)) (hR : RC σ (fun i => C (b + i)) ab rg px) (hw : WFr ab rg) {v : Nat} (hv : v ≤ 1) :
    ∃ s, ((ab 0 = 0 ∨ (v = 1 ∧ ¬ fcan ab rg)) ∧ fX11_first σ (C 0) (nI v) = some (-13, s) ∧ s = σ) ∨ (¬ (ab 0 = 0 ∨ (v = 1 ∧ ¬ fcan ab rg)) ∧ ab 5 = v ∧ fX11_first σ (C 0) (nI v) = some (0, s) ∧ s = σ) ∨
      (¬ (ab 0 = 0 ∨ (v = 1 ∧ ¬ fcan ab rg)) ∧ ab 5 ≠ v ∧ fX11_first σ (C 0) (nI v) = some (1, s) ∧ zsC C (PR b) σ s ∧ RC s (fun i => C (b + i)) (abU ab v) rg (pxW px 8) ∧ SCc s C 0 0 (fun _ => 0)) := by
  obtain ⟨⟨g1, g2, g3, g4, g5, g6⟩, ⟨g7, g8⟩, g9, g10, g11⟩ := id hR
  have hbb := hw.b
  have hL := h.rl hb
  have hlt := hb.lt
  have kb : zk σ (C b) = 6 := hL.1
  have g1' : zi σ (C b) 2 = nI (ab 0) := g1
  have g2' : zi σ (C b) 3 = nI (ab 5) := g2
  have e0 : nI (ab 0) = 0 ↔ ab 0 = 0 := nI_eq (b := 0) (by omega) (by decide)
  have ev : nI v = 0 ↔ v = 0 := nI_eq (b := 0) (by omega) (by decide)
  have e5 : nI (ab 5) = nI v ↔ ab 5 = v := nI_eq (by omega) (by omega)
  have hv01 : nI v = 0 ∨ nI v = 1 := by
    rcases (show v = 0 ∨ v = 1 by omega) with z | z <;> subst z
    · exact Or.inl rfl
    · exact Or.inr rfl
  have h27 : (¬ (ab 0 = 0 ∨ (v = 1 ∧ ¬ fcan ab rg))) → ∃ s, (¬ (ab 0 = 0 ∨ (v = 1 ∧ ¬ fcan ab rg)) ∧ ab 5 = v ∧ fX11_first_27 σ (C 0) (nI v) = some (0, s) ∧ s = σ) ∨
      (¬ (ab 0 = 0 ∨ (v = 1 ∧ ¬ fcan ab rg)) ∧ ab 5 ≠ v ∧ fX11_first_27 σ (C 0) (nI v) = some (1, s) ∧ zsC C (PR b) σ s ∧ RC s (fun i => C (b + i)) (abU ab v) rg (pxW px 8) ∧ SCc s C 0 0 (fun _ => 0)) := fun hok => by
    unfold fX11_first_27
    rw [oGR_eq h.k0 hr, oGI_eq kb g2']
    by_cases d1 : ab 5 = v
    · rw [if_pos (e5.mpr d1)]
      exact ⟨σ, Or.inl ⟨hok, d1, rfl, rfl⟩⟩
    · rw [if_neg (fun z => d1 (e5.mp z)), oGR_eq h.k0 hr, oPZ_eq kb hv01]
      have z1 : zsC C (PR b) σ (zuI σ (C b) 3 (nI v)) := zsC.rf.uI (by omega) (Or.inl (by omega))
      have h1 : CLL (zuI σ (C b) 3 (nI v)) C := h.of (S := fun a => a = C b) zsm1
      have hL1 : RLL (zuI σ (C b) 3 (nI v)) (fun i => C (b + i)) := h1.rl hb
      have r18 : zr (zuI σ (C b) 3 (nI v)) (C b) 1 = some (C (b + 18)) := hL1.2.2.1
      have hP : PCL (zuI σ (C b) 3 (nI v)) (C (b + 18)) (C (b + 19)) := hL1.2.2.2.2.2.2 8 (by decide)
      obtain ⟨s2, e2, m2, q2⟩ := s_clearP hP
      have z2 : zsC C (PR b) (zuI σ (C b) 3 (nI v)) s2 := zsC.of1 (i := b + 19) (by omega) (Or.inl (by omega)) m2
      have h2 := h1.of m2
      rw [oGR_eq h1.k0 (by exact hr), oGR_eq (by exact kb) r18, oA_eq hP.1, oB_eq e2, oGR_eq h2.k0 h2.sc, oA_eq h2.scl.1, oB_eq (s_forget h2)]
      refine ⟨_, Or.inr ⟨hok, d1, rfl, ((z1.trans z2).uI (by decide) (Or.inr rfl)).uI (by decide) (Or.inr rfl), ?_, SCc.forget⟩⟩
      have n68 : ∀ j, j < 65 → ∀ k, zi (zuI (zuI s2 (C 68) 2 0) (C 68) 3 0) (C j) k = zi s2 (C j) k := fun j hj k => by
        have : C j ≠ C 68 := fun e => by have := h.1 j 68 (by omega) (by decide) e; omega
        rw [zi_uI, if_neg (fun z => this z.1), zi_uI, if_neg (fun z => this z.1)]
      have n19 : ∀ j, j < 20 → j ≠ 19 → ∀ k, zi (zuI (zuI s2 (C 68) 2 0) (C 68) 3 0) (C (b + j)) k = zi (zuI σ (C b) 3 (nI v)) (C (b + j)) k := fun j hj hn k => by
        rw [n68 (b + j) (by omega), m2.i (fun z => by have := h.1 (b + j) (b + 19) (by omega) (by omega) z; omega)]
      have nn : ∀ j, j < 20 → j ≠ 19 → j ≠ 0 → ∀ k, zi (zuI (zuI s2 (C 68) 2 0) (C 68) 3 0) (C (b + j)) k = zi σ (C (b + j)) k := fun j hj hn h0 k => by
        rw [n19 j hj hn, zi_uI, if_neg (fun z => by have := h.1 (b + j) b (by omega) (by omega) z.1; omega)]
      have n0 : ∀ k, k ≠ 3 → zi (zuI (zuI s2 (C 68) 2 0) (C 68) 3 0) (C (b + 0)) k = zi σ (C (b + 0)) k := fun k hk => by
        rw [n19 0 (by decide) (by decide), zi_uI, if_neg (fun z => hk z.2)]
      have en : ∀ k, k ≠ 5 → abU ab v k = ab k := fun k hk => by unfold abU; rw [if_neg hk]
      have e5' : abU ab v 5 = v := rfl
      refine ⟨⟨(n0 2 (by decide)).trans g1, ?_, (n0 4 (by decide)).trans g3, (n0 5 (by decide)).trans g4, (n0 6 (by decide)).trans g5, (n0 7 (by decide)).trans g6⟩, ⟨(nn 18 (by decide) (by decide) (by decide) 1).trans g7, (nn 18 (by decide) (by decide) (by decide) 2).trans g8⟩, fun f hf k hk => (nn (2 + 2 * f) (by have : f < ab 4 := hf; omega) (by omega) (by omega) (1 + k)).trans (g9 f hf k hk), fun f hf i hi => ?_, fun h5 i hi => ?_⟩
      · refine (n19 0 (by decide) (by decide) 3).trans ?_
        show zi (zuI σ (C b) 3 (nI v)) (C b) 3 = _
        rw [zi_uI, if_pos ⟨rfl, rfl⟩, e5']
      · have hf' : f < ab 4 := hf
        unfold pxW
        rw [if_neg (by omega)]
        exact (nn (3 + 2 * f) (by omega) (by omega) (by omega) i).trans (g10 f hf i hi)
      · have hi' : i < ab 1 * ab 2 := hi
        have : ab 1 * ab 2 ≤ 16 * 16 := Nat.mul_le_mul (by omega) (by omega)
        show zi (zuI (zuI s2 (C 68) 2 0) (C 68) 3 0) (C (b + 19)) i = _
        unfold pxW
        rw [if_pos rfl, n68 (b + 19) (by omega)]
        exact q2 i (by omega)
  unfold fX11_first
  rw [oGR_eq h.k0 hr, oGI_eq kb g1']
  by_cases d0 : ab 0 = 0
  · rw [if_pos (e0.mpr d0)]
    exact ⟨σ, Or.inl ⟨Or.inl d0, rfl, rfl⟩⟩
  · rw [if_neg (fun z => d0 (e0.mp z))]
    by_cases d1 : v = 0
    · rw [if_pos (ev.mpr d1)]
      obtain ⟨s, hs⟩ := h27 (by omega)
      exact ⟨s, Or.inr hs⟩
    · rw [if_neg (fun z => d1 (ev.mp z)), oGR_eq h.k0 hr, oA_eq kb]
      obtain ⟨u, eu, hu⟩ := s_fcan hL hR (by omega) (by omega) hw.g0
      have eu' : fX5_firstIsCanvas σ (C b) = some u := eu
      rw [oB_eq eu']
      rcases hu with ⟨u1, hf⟩ | ⟨u0, hf⟩
      · subst u1
        rw [if_neg (by decide)]
        obtain ⟨s, hs⟩ := h27 (fun z => z.elim (fun z => d0 z) (fun z => z.2 hf))
        exact ⟨s, Or.inr hs⟩
      · subst u0
        rw [if_pos rfl]
        exact ⟨σ, Or.inl ⟨Or.inr ⟨by omega, hf⟩, rfl, rfl⟩⟩
theorem c_about (h : CLL σ C) (hb : isR b) (hr : zr σ (C 0) 4 = some (C b)) (hR : RC σ (fun i => C (b + i)) ab rg px) (hw : WFr ab rg) (p i : Int32) : fX11_about σ (C 0) p i = some (aboutS ab rg p i) := by
  obtain ⟨⟨g1, g2, g3, g4, g5, g6⟩, ⟨g7, g8⟩, g9, g10, g11⟩ := id hR
  have hbb := hw.b
  have hL := h.rl hb
  have kb : zk σ (C b) = 6 := hL.1
  have g1' : zi σ (C b) 2 = nI (ab 0) := g1
  have e0 : nI (ab 0) = 0 ↔ ab 0 = 0 := nI_eq (b := 0) (by omega) (by decide)
  have t10 : (10 : Int32).toInt = 10 := by decide
  have t4 : (4 : Int32).toInt = 4 := by decide
  unfold fX11_about aboutS
  rw [oGR_eq h.k0 hr, oGI_eq kb g1']
  by_cases d0 : ab 0 = 0
  · rw [if_pos (e0.mpr d0), if_pos d0]
  · rw [if_neg (fun z => d0 (e0.mp z)), if_neg d0]
    by_cases d1 : p < 0
    · rw [if_pos d1, if_pos (by rw [zlt, zt0'] at d1; omega)]
    · rw [if_neg d1]
      rw [zlt, zt0'] at d1
      by_cases d2 : p ≤ 10
      · rw [if_pos d2]
        rw [zle, t10] at d2
        rw [if_neg (show ¬ (p.toInt < 0 ∨ 10 < p.toInt) by omega)]
        have ep : p = nI p.toInt.toNat := znI (by omega)
        have epk : ∀ k : Nat, k < 1000 → (p = nI k ↔ p.toInt = (k : Int)) := fun k hk => by
          rw [zeq, zt_nI (by omega)]
        by_cases d3 : 4 < p
        · rw [if_pos d3]
          rw [zlt, t4] at d3
          rw [if_neg (show ¬ p.toInt ≤ 4 by omega), oGR_eq h.k0 hr, oA_eq kb, oB_eq (s_hasFrame kb g1' g6 hw i)]
          by_cases d4 : 0 ≤ i.toInt ∧ i.toInt < (ab 4 : Int)
          · have hf : i = nI i.toInt.toNat := znI d4.1
            have hfl : i.toInt.toNat < ab 4 := by omega
            have hP := hL.2.2.2.2.2.2 i.toInt.toNat (by omega)
            have r0 : zr σ (C b) 0 = some (C (b + 1)) := hL.2.1
            have lr : ∀ f : Nat → Option Int32, oLr σ (C (b + 1)) i f = f (C (b + (2 + 2 * i.toInt.toNat))) := fun f => by
              conv => lhs; rw [hf]
              exact oLr_eq hL.2.2.2.1 (by rw [hL.2.2.2.2.1]; omega) (by omega) (hL.2.2.2.2.2.1 _ (by omega))
            rw [if_pos d4, if_pos d4, if_neg (by decide), oGR_eq h.k0 hr, oGR_eq kb r0, lr, oA_eq hP.1]
            have hfact : fX3_fact σ (C (b + (2 + 2 * i.toInt.toNat))) p = some (nI (rg i.toInt.toNat (p.toInt.toNat - 5))) := by
              unfold fX3_fact
              have q := fun k hk => g9 i.toInt.toNat hfl k hk
              have kp : zk σ (C (b + (2 + 2 * i.toInt.toNat))) = 4 := hP.1
              have q0 : zi σ (C (b + (2 + 2 * i.toInt.toNat))) 1 = nI (rg i.toInt.toNat 0) := q 0 (by decide)
              have q1 : zi σ (C (b + (2 + 2 * i.toInt.toNat))) 2 = nI (rg i.toInt.toNat 1) := q 1 (by decide)
              have q2 : zi σ (C (b + (2 + 2 * i.toInt.toNat))) 3 = nI (rg i.toInt.toNat 2) := q 2 (by decide)
              have q3 : zi σ (C (b + (2 + 2 * i.toInt.toNat))) 4 = nI (rg i.toInt.toNat 3) := q 3 (by decide)
              have q4 : zi σ (C (b + (2 + 2 * i.toInt.toNat))) 5 = nI (rg i.toInt.toNat 4) := q 4 (by decide)
              have q5 : zi σ (C (b + (2 + 2 * i.toInt.toNat))) 6 = nI (rg i.toInt.toNat 5) := q 5 (by decide)
              rw [oGI_eq kp q0, oGI_eq kp q1, oGI_eq kp q2, oGI_eq kp q3, oGI_eq kp q4, oGI_eq kp q5]
              have e5 : p = 5 ↔ p.toInt = 5 := epk 5 (by decide)
              have e6 : p = 6 ↔ p.toInt = 6 := epk 6 (by decide)
              have e7 : p = 7 ↔ p.toInt = 7 := epk 7 (by decide)
              have e8 : p = 8 ↔ p.toInt = 8 := epk 8 (by decide)
              have e9 : p = 9 ↔ p.toInt = 9 := epk 9 (by decide)
              simp only [e5, e6, e7, e8, e9]
              rcases (show p.toInt = 5 ∨ p.toInt = 6 ∨ p.toInt = 7 ∨ p.toInt = 8 ∨ p.toInt = 9 ∨ p.toInt = 10 by omega) with z | z | z | z | z | z <;> rw [z] <;> rfl
            rw [oB_eq hfact]
          · rw [if_neg d4, if_neg d4, if_pos rfl]
        · rw [if_neg d3]
          rw [zlt, t4] at d3
          rw [if_pos (show p.toInt ≤ 4 by omega), oGR_eq h.k0 hr, oA_eq kb]
          have hfact : fX5_fact σ (C b) p = some (if p.toInt = 0 then nI (ab 1) else if p.toInt = 1 then nI (ab 2) else if p.toInt = 2 then nI (ab 4) else if p.toInt = 3 then nI (ab 3) else nI (ab 5)) := by
            unfold fX5_fact
            have g3' : zi σ (C b) 4 = nI (ab 1) := g3
            have g4' : zi σ (C b) 5 = nI (ab 2) := g4
            have g5' : zi σ (C b) 6 = nI (ab 3) := g5
            have g6' : zi σ (C b) 7 = nI (ab 4) := g6
            have g2' : zi σ (C b) 3 = nI (ab 5) := g2
            rw [oGI_eq kb g3', oGI_eq kb g4', oGI_eq kb g6', oGI_eq kb g5', oGI_eq kb g2']
            have e0' : p = 0 ↔ p.toInt = 0 := epk 0 (by decide)
            have e1 : p = 1 ↔ p.toInt = 1 := epk 1 (by decide)
            have e2 : p = 2 ↔ p.toInt = 2 := epk 2 (by decide)
            have e3 : p = 3 ↔ p.toInt = 3 := epk 3 (by decide)
            have e5 : nI (ab 5) = 0 ↔ ab 5 = 0 := nI_eq (b := 0) (by omega) (by decide)
            simp only [e0', e1, e2, e3, e5]
            have hl : (if ab 5 = 0 then some (0 : Int32) else some 1) = some (nI (ab 5)) := by
              rcases (show ab 5 = 0 ∨ ab 5 = 1 by omega) with z | z <;> rw [z] <;> rfl
            rw [hl]
            rcases (show p.toInt = 0 ∨ p.toInt = 1 ∨ p.toInt = 2 ∨ p.toInt = 3 ∨ p.toInt = 4 by omega) with z | z | z | z | z <;> rw [z] <;> rfl
          rw [oB_eq hfact]
      · rw [if_neg d2, if_pos (by rw [zle, t10] at d2; omega)]
theorem c_out {o : List Nat} (h : CLL σ C) (ho : BL σ (C 66) (C 67) 9968 o) (i : Int32) : fX11_out σ (C 0) i = some (outS o i) := by
  unfold fX11_out outS
  rw [oGR_eq h.k0 h.wr, oGR_eq h.wrl.1 h.wrl.2.1, oA_eq ho.1.1, oB_eq (s_at ho.1 i)]
  by_cases d : 0 ≤ i.toInt ∧ i.toInt < (o.length : Int)
  · rw [if_pos d, if_pos d, ho.2 _ (by omega)]
  · rw [if_neg d, if_neg d]
end PCALLS2
