/-! show: both sides -/
def PS : Nat → Prop := fun i => i = 68 ∨ i = 69 ∨ i = 70
def PMs : Nat → Prop := fun i => i = 0 ∨ i = 5 ∨ i = 6
def FMs : Nat → Prop := fun j => j = 0 ∨ j = 7 ∨ j = 8 ∨ j = 9
def dfP (ab : Nat → Nat) : Nat := if ab 5 = 1 then 0 else 8
def rsS (W : Nat) (r bf : Nat → Nat) (cv : Nat → Nat) : Nat → Nat → Nat
  | 0 => cv
  | i + 1 => va_up (rsS W r bf cv i) (toS W r i) (bf (toS W r i))
theorem dr_out {W : Nat} {r pf cv : Nat → Nat} {t : Nat} : ∀ n, (∀ i, i < n → toS W r i ≠ t) → dr W r pf cv n t = cv t
  | 0, _ => rfl
  | n + 1, h => by
    rw [dr]
    unfold va_up
    rw [if_neg (fun z => h n (by omega) z.symm)]
    exact dr_out n (fun i hi => h i (by omega))
theorem rs_dr {W : Nat} {r pf bf : Nat → Nat} {n : Nat} (t : Nat) : ∀ k, k ≤ n → (∀ i, k ≤ i → i < n → toS W r i ≠ t) → rsS W r bf (dr W r pf bf n) k t = bf t
  | 0, _, h => dr_out n (fun i hi => h i (by omega) hi)
  | k + 1, hk, h => by
    rw [rsS]
    unfold va_up
    by_cases q : t = toS W r k
    · rw [if_pos q, ← q]
    · rw [if_neg q]
      exact rs_dr t k (by omega) (fun i h1 h2 => by
        by_cases z : i = k
        · rw [z]; exact fun w => q w.symm
        · exact h i (by omega) h2)
theorem zr_dr {W : Nat} {r pf : Nat → Nat} {n : Nat} (t : Nat) : ∀ k, k ≤ n → (∀ i, k ≤ i → i < n → toS W r i ≠ t) → zrS W r (dr W r pf (fun _ => 0) n) k t = 0
  | 0, _, h => dr_out n (fun i hi => h i (by omega) hi)
  | k + 1, hk, h => by
    rw [zrS]
    unfold va_up
    by_cases q : t = toS W r k
    · rw [if_pos q]
    · rw [if_neg q]
      exact zr_dr t k (by omega) (fun i h1 h2 => by
        by_cases z : i = k
        · rw [z]; exact fun w => q w.symm
        · exact h i (by omega) h2)
section PSHOW2
variable {σ s t : zS} {C B : Nat → Nat} {ab : Nat → Nat} {rg px : Nat → Nat → Nat} {b : Nat}
theorem CLL.scr (h : CLL σ C) {W : Nat} (hW : zi σ (C 68) 2 = nI W) : SCL σ (C 68) (C 69) W := ⟨h.scl.1, h.scl.2.1, h.scl.2.2.2.1.1, h.scl.2.2.2.1.2, hW⟩
theorem RC.pic (h : CLL σ C) (hb : isR b) (hR : RC σ (fun i => C (b + i)) ab rg px) {f : Nat} (hf : f < ab 4) (h8 : f < 8) : PCC σ (C (b + (2 + 2 * f))) (C (b + (3 + 2 * f))) (rg f) (px f) := ⟨(h.rl hb).2.2.2.2.2.2 f (by omega), fun k hk => hR.2.2.1 f hf k hk, fun i hi => hR.2.2.2.1 f hf i hi⟩
theorem RC.of (h : CLL σ C) (hb : isR b) (hR : RC σ (fun i => C (b + i)) ab rg px) {P : Nat → Prop} (hs : zsC C P σ s) (hp : ∀ j, b ≤ j → j < b + 20 → ¬ P j) (h4 : ab 4 ≤ 8) : RC s (fun i => C (b + i)) ab rg px := by
  have hlt := hb.lt
  have q : ∀ j, j < 20 → ∀ k, zi s (C (b + j)) k = zi σ (C (b + j)) k := fun j hj k => hs.i h (by omega) (hp _ (by omega) (by omega)) k
  obtain ⟨⟨g1, g2, g3, g4, g5, g6⟩, ⟨g7, g8⟩, g9, g10, g11⟩ := hR
  exact ⟨⟨(q 0 (by decide) 2).trans g1, (q 0 (by decide) 3).trans g2, (q 0 (by decide) 4).trans g3, (q 0 (by decide) 5).trans g4, (q 0 (by decide) 6).trans g5, (q 0 (by decide) 7).trans g6⟩, ⟨(q 18 (by decide) 1).trans g7, (q 18 (by decide) 2).trans g8⟩, fun f hf k hk => (q (2 + 2 * f) (by omega) _).trans (g9 f hf k hk), fun f hf i hi => (q (3 + 2 * f) (by omega) _).trans (g10 f hf i hi), fun h5 i hi => (q 19 (by decide) _).trans (g11 h5 i hi)⟩
theorem PS.no {j : Nat} (hb : isR b) (h2 : j < b + 20) : ¬ PS j := fun z => by
  have := hb.lt
  rcases z with z | z | z <;> omega
theorem s_compose (h : CLL σ C) (hb : isR b) (hR : RC σ (fun i => C (b + i)) ab rg px) (hw : WFr ab rg) {f : Nat} (hf : f < ab 4) : ∃ s, fX7_compose σ (C 68) (C b) (nI f) = some s ∧ zsC C PS σ s ∧ SCc s C (ab 1) (ab 2) (shS (ab 1) rg px f) := by
  have hbb := hw.b
  have hL := h.rl hb
  have hlt := hb.lt
  have kb : zk σ (C b) = 6 := hL.1
  have g3 : zi σ (C b) 4 = nI (ab 1) := hR.1.2.2.1
  have g4 : zi σ (C b) 5 = nI (ab 2) := hR.1.2.2.2.1
  have n68 : C b ≠ C 68 := fun e => by have := h.1 b 68 (by omega) (by decide) e; omega
  have z2 : zsC C PS σ (zuI (zuI σ (C 68) 2 (nI (ab 1))) (C 68) 3 (nI (ab 2))) := (zsC.rf.uI (by decide) (Or.inl rfl)).uI (by decide) (Or.inl rfl)
  have w2 : zi (zuI (zuI σ (C 68) 2 (nI (ab 1))) (C 68) 3 (nI (ab 2))) (C 68) 2 = nI (ab 1) := by rw [zi_uI, if_neg (by omega), zi_uI, if_pos ⟨rfl, rfl⟩]
  have w3 : zi (zuI (zuI σ (C 68) 2 (nI (ab 1))) (C 68) 3 (nI (ab 2))) (C 68) 3 = nI (ab 2) := by rw [zi_uI, if_pos ⟨rfl, rfl⟩]
  have h2 : CLL (zuI (zuI σ (C 68) 2 (nI (ab 1))) (C 68) 3 (nI (ab 2))) C := h.of z2
  unfold fX7_compose
  rw [oGI_eq kb g3, oPI_eq h.scl.1, oGI_eq (by exact kb) (show zi (zuI σ (C 68) 2 (nI (ab 1))) (C b) 5 = nI (ab 2) by rw [zi_uI, if_neg (fun z => n68 z.1)]; exact g4), oPI_eq (by exact h.scl.1)]
  generalize zuI (zuI σ (C 68) 2 (nI (ab 1))) (C 68) 3 (nI (ab 2)) = s2 at *
  obtain ⟨s3, e3, m3, f3⟩ := s_fill h2.scl.2.2.2.1.1 (by rw [h2.scl.2.2.2.1.2]; decide) 0
  have z3 : zsC C PS s2 s3 := zsC.of1 (i := 69) (by decide) (Or.inr (Or.inl rfl)) m3
  have h3 := h2.of m3
  rw [oGR_eq h2.scl.1 h2.scl.2.1, oB_eq e3]
  have cv3 : zCV s3 (C 69) (cvS (ab 1) rg px 0) := fun t ht => f3 t (by rw [h2.scl.2.2.2.1.2]; exact ht)
  have z23 := z2.trans z3
  have k68 : ∀ {s' : zS}, zsm (fun a => a = C 69 ∨ a = C 70) s3 s' → zi s' (C 68) 2 = nI (ab 1) ∧ zi s' (C 68) 3 = nI (ab 2) := fun hs => by
    have n1 : ¬ (C 68 = C 69 ∨ C 68 = C 70) := fun z => z.elim (h.ne 68 69) (h.ne 68 70)
    exact ⟨(hs.i n1 2).trans ((m3.i (h.ne 68 69) 2).trans w2), (hs.i n1 3).trans ((m3.i (h.ne 68 69) 3).trans w3)⟩
  obtain ⟨s4, e4, p1, p2⟩ := zloop_cnt (body := fun x => bX7_compose_26 (C 68) (C b) (nI f) x.1 x.2) (fun k x => x.1 = nI k ∧ zsm (fun a => a = C 69 ∨ a = C 70) s3 x.2 ∧ zCV x.2 (C 69) (cvS (ab 1) rg px k)) f (fun s => zsm (fun a => a = C 69 ∨ a = C 70) s3 s ∧ zCV s (C 69) (cvS (ab 1) rg px f))
    (fun k x hk hx => by
      obtain ⟨y, s⟩ := x
      obtain ⟨x1, x2, x3⟩ := hx
      dsimp only at x1 x2 x3
      subst x1
      have c1 : ¬ nI f ≤ nI k := by rw [nI_leI (by omega) (by omega)]; omega
      have c2 : ¬ (8 : Int32) ≤ nI k := fun z => by
        have := (nI_leI (a := 8) (b := k) (by decide) (by omega)).mp z
        omega
      have hs := h3.of x2
      have zs : zsC C PS σ s := z23.trans (zsC.of2 (i := 69) (j := 70) (by decide) (Or.inr (Or.inl rfl)) (by decide) (Or.inr (Or.inr rfl)) x2)
      have hLs := hs.rl hb
      have hRs := RC.of h hb hR zs (fun j _ h2 => PS.no hb h2) (by omega)
      have hP := RC.pic hs hb hRs (f := k) (by omega) (by omega)
      have hk68 := k68 x2
      have kbs : zk s (C b) = 6 := hLs.1
      have r0 : zr s (C b) 0 = some (C (b + 1)) := hLs.2.1
      -- saved
      have zc : zsm (fun a => a = C 69 ∨ a = C 70) s (zuC s (C 69) 0 (C 70) 0 256) := zsm.uC zsm.rf (Or.inr rfl)
      have hc := hs.of zc
      have cvc : zCV (zuC s (C 69) 0 (C 70) 0 256) (C 69) (cvS (ab 1) rg px k) := fun t ht => by rw [zuC_ne (h.ne 69 70)]; exact x3 t ht
      have cvb : zCV (zuC s (C 69) 0 (C 70) 0 256) (C 70) (cvS (ab 1) rg px k) := zCV_cp x3
      have npf : ∀ j, j < 20 → C (b + j) ≠ C 70 ∧ C (b + j) ≠ C 69 := fun j hj => ⟨fun e => by have := h.1 (b + j) 70 (by omega) (by decide) e; omega, fun e => by have := h.1 (b + j) 69 (by omega) (by decide) e; omega⟩
      have hPc := hP.of zc (fun z => z.elim (npf _ (by omega)).2 (npf _ (by omega)).1) (fun z => z.elim (npf _ (by omega)).2 (npf _ (by omega)).1)
      have hRG := hw.rgn (f := k) (by omega)
      obtain ⟨s5, e5, m5, c5⟩ := s_draw (hc.scr ((zc.i (fun z => z.elim (h.ne 68 69) (h.ne 68 70)) 2).trans hk68.1)) hPc (npf _ (by omega)).2 hRG (by omega) (by omega) cvc
      have h5 := hc.of m5
      have cvb5 : zCV s5 (C 70) (cvS (ab 1) rg px k) := fun t ht => by rw [m5.i (h.ne 70 69)]; exact cvb t ht
      have hP5 := hPc.of m5 (npf _ (by omega)).2 (npf _ (by omega)).2
      obtain ⟨s6, e6, m6, c6⟩ := s_dispose (h5.scr ((m5.i (h.ne 68 69) 2).trans ((zc.i (fun z => z.elim (h.ne 68 69) (h.ne 68 70)) 2).trans hk68.1))) h5.scl.2.2.1 h5.scl.2.2.2.2.1 h5.scl.2.2.2.2.2 hP5 (npf _ (by omega)).2 hRG (by omega) (by omega) c5 cvb5
      refine Or.inl ⟨(nI (k + 1), s6), ?_, rfl, ((x2.trans zc).trans (m5.mono (fun a z => Or.inl z))).trans (m6.mono (fun a z => Or.inl z)), ?_⟩
      · show bX7_compose_26 (C 68) (C b) (nI f) (nI k) s = _
        unfold bX7_compose_26
        rw [if_neg c1, if_neg c2, oGR_eq kbs r0, oLr_eq (v := C (b + (2 + 2 * k))) hLs.2.2.2.1 (by rw [hLs.2.2.2.2.1]; omega) (by omega) (hLs.2.2.2.2.2.1 k (by omega)), oGR_eq hs.scl.1 hs.scl.2.1, oGR_eq hs.scl.1 hs.scl.2.2.1, oCp_eq hs.scl.2.2.2.1.1 hs.scl.2.2.2.2.1 hs.scl.2.2.2.1.2 hs.scl.2.2.2.2.2, oA_eq hc.scl.1, oB_eq e5, oA_eq h5.scl.1, oB_eq e6, oL_eq, nI_1]
      · exact c6)
    (fun x hx => by
      obtain ⟨y, s⟩ := x
      obtain ⟨x1, x2, x3⟩ := hx
      dsimp only at x1 x2 x3
      subst x1
      refine ⟨s, ?_, x2, x3⟩
      show bX7_compose_26 (C 68) (C b) (nI f) (nI f) s = _
      unfold bX7_compose_26
      rw [if_pos (by rw [zle]; exact Int.le_refl _)]) zF (0, s3) ⟨nI_0.symm, zsm.rf, cv3⟩ (by unfold zF; omega)
  have h4 := h3.of p1
  have z4 : zsC C PS σ s4 := z23.trans (zsC.of2 (i := 69) (j := 70) (by decide) (Or.inr (Or.inl rfl)) (by decide) (Or.inr (Or.inr rfl)) p1)
  have hL4 := h4.rl hb
  have hR4 := RC.of h hb hR z4 (fun j _ h2 => PS.no hb h2) (by omega)
  have hP4 := RC.pic h4 hb hR4 hf (by omega)
  have kb4 : zk s4 (C b) = 6 := hL4.1
  have r04 : zr s4 (C b) 0 = some (C (b + 1)) := hL4.2.1
  have nf : C (b + (3 + 2 * f)) ≠ C 69 := fun e => by have := h.1 (b + (3 + 2 * f)) 69 (by omega) (by decide) e; omega
  obtain ⟨s5, e5, m5, c5⟩ := s_draw (h4.scr (k68 p1).1) hP4 nf (hw.rgn hf) (by omega) (by omega) p2
  have hwh : ab 1 * ab 2 ≤ 16 * 16 := Nat.mul_le_mul (by omega) (by omega)
  refine ⟨s5, ?_, z4.trans (zsC.of1 (i := 69) (by decide) (Or.inr (Or.inl rfl)) m5), (m5.i (h.ne 68 69) 2).trans (k68 p1).1, (m5.i (h.ne 68 69) 3).trans (k68 p1).2, fun i hi => c5 i (by omega)⟩
  rw [oB_eq e4]
  dsimp only
  rw [oGR_eq kb4 r04, oLr_eq (v := C (b + (2 + 2 * f))) hL4.2.2.2.1 (by rw [hL4.2.2.2.2.1]; omega) (by omega) (hL4.2.2.2.2.2.1 f (by omega)), oA_eq h4.scl.1, oB_eq e5]
def shwS (ab : Nat → Nat) (rg px : Nat → Nat → Nat) (f : Int32) : Option (Nat → Nat) := if 0 ≤ f.toInt ∧ f.toInt < (ab 4 : Int) then some (shS (ab 1) rg px f.toInt.toNat) else if f.toInt = -1 ∧ ab 0 = 1 then some (px (dfP ab)) else none
theorem s_default (h : CLL σ C) (hb : isR b) (hR : RC σ (fun i => C (b + i)) ab rg px) (hw : WFr ab rg) (h0 : ab 0 = 1) : fX5_defaultPicture σ (C b) = some (C (b + (2 + 2 * dfP ab))) ∧ zi σ (C (b + (2 + 2 * dfP ab))) 1 = nI (ab 1) ∧ zi σ (C (b + (2 + 2 * dfP ab))) 2 = nI (ab 2) ∧ (∀ i, i < ab 1 * ab 2 → zi σ (C (b + (3 + 2 * dfP ab))) i = nI (px (dfP ab) i)) ∧ dfP ab < 9 := by
  have hbb := hw.b
  have hL := h.rl hb
  have kb : zk σ (C b) = 6 := hL.1
  have g2 : zi σ (C b) 3 = nI (ab 5) := hR.1.2.1
  have r0 : zr σ (C b) 0 = some (C (b + 1)) := hL.2.1
  have r1 : zr σ (C b) 1 = some (C (b + 18)) := hL.2.2.1
  have e5 : nI (ab 5) = 0 ↔ ab 5 = 0 := nI_eq (b := 0) (by omega) (by decide)
  unfold fX5_defaultPicture dfP
  rw [oGI_eq kb g2]
  by_cases d : ab 5 = 0
  · rw [if_pos (e5.mpr d), oGR_eq kb r1, if_neg (by omega)]
    exact ⟨rfl, hR.2.1.1, hR.2.1.2, fun i hi => hR.2.2.2.2 d i hi, by decide⟩
  · have d1 : ab 5 = 1 := by omega
    have hf : 0 < ab 4 ∧ rg 0 0 = ab 1 ∧ rg 0 1 = ab 2 := by
      rcases hw with ⟨q, -⟩ | ⟨-, -, -, -, -, -, q⟩
      · omega
      · exact q d1
    have lr : ∀ f : Nat → Option Nat, oLr σ (C (b + 1)) 0 f = f (C (b + 2)) := fun f => oLr_eq (n := 0) hL.2.2.2.1 (by rw [hL.2.2.2.2.1]; decide) (by decide) (hL.2.2.2.2.2.1 0 (by decide))
    have q0 := hR.2.2.1 0 hf.1 0 (by decide)
    have q1 := hR.2.2.1 0 hf.1 1 (by decide)
    rw [hf.2.1] at q0
    rw [hf.2.2] at q1
    rw [if_neg (fun z => d (e5.mp z)), oGR_eq kb r0, lr, if_pos d1]
    refine ⟨rfl, q0, q1, fun i hi => hR.2.2.2.1 0 hf.1 i (by rw [hf.2.1, hf.2.2]; exact hi), by decide⟩
theorem c_show (h : CLL σ C) (hb : isR b) (hr : zr σ (C 0) 4 = some (C b)) (hR : RC σ (fun i => C (b + i)) ab rg px) (hw : WFr ab rg) (f : Int32) :
    ∃ s, (shwS ab rg px f = none ∧ fX11_show σ (C 0) f = some (-11, s) ∧ s = σ) ∨ ∃ cv, shwS ab rg px f = some cv ∧ ab 0 = 1 ∧ fX11_show σ (C 0) f = some (1, s) ∧ zsC C PS σ s ∧ SCc s C (ab 1) (ab 2) cv := by
  have hbb := hw.b
  have hL := h.rl hb
  have kb : zk σ (C b) = 6 := hL.1
  have g1 : zi σ (C b) 2 = nI (ab 0) := hR.1.1
  have e0 : nI (ab 0) = 0 ↔ ab 0 = 0 := nI_eq (b := 0) (by omega) (by decide)
  have em : f = -1 ↔ f.toInt = -1 := by rw [zeq]; rfl
  unfold fX11_show shwS
  rw [oGR_eq h.k0 hr, oA_eq kb, oB_eq (s_hasFrame kb g1 hR.1.2.2.2.2.2 hw f)]
  by_cases d0 : 0 ≤ f.toInt ∧ f.toInt < (ab 4 : Int)
  · have hf : f = nI f.toInt.toNat := znI d0.1
    obtain ⟨s, e, p1, p2⟩ := s_compose h hb hR hw (f := f.toInt.toNat) (by omega)
    rw [← hf] at e
    rw [if_pos d0, if_pos d0, if_neg (by decide), oGR_eq h.k0 h.sc, oGR_eq h.k0 hr, oA_eq h.scl.1, oB_eq e]
    exact ⟨s, Or.inr ⟨_, rfl, by have := hbb.2.2.2.2.2; omega, rfl, p1, p2⟩⟩
  · rw [if_neg d0, if_neg d0, if_pos rfl]
    by_cases d1 : f.toInt = -1
    · rw [if_pos (em.mpr d1), oGR_eq h.k0 hr, oGI_eq kb g1]
      by_cases d2 : ab 0 = 0
      · rw [if_pos (e0.mpr d2), if_neg (by omega)]
        exact ⟨σ, Or.inl ⟨rfl, rfl, rfl⟩⟩
      · have d3 : ab 0 = 1 := by omega
        obtain ⟨q1, q2, q3, q4, q5⟩ := s_default h hb hR hw d3
        have hlt := hb.lt
        have hP := hL.2.2.2.2.2.2 (dfP ab) q5
        have kp : zk σ (C (b + (2 + 2 * dfP ab))) = 4 := hP.1
        have np : C (b + (2 + 2 * dfP ab)) ≠ C 68 := fun e => by have := h.1 (b + (2 + 2 * dfP ab)) 68 (by omega) (by decide) e; omega
        have na : C (b + (3 + 2 * dfP ab)) ≠ C 68 := fun e => by have := h.1 (b + (3 + 2 * dfP ab)) 68 (by omega) (by decide) e; omega
        have hwh : ab 1 * ab 2 ≤ 16 * 16 := Nat.mul_le_mul (by omega) (by omega)
        have ks : zk σ (C 68) = 7 := h.scl.1
        have rs : zr σ (C 68) 0 = some (C 69) := h.scl.2.1
        have k69 : zk σ (C 69) = 21 := h.scl.2.2.2.1.1
        have n69 : zn σ (C 69) = 256 := h.scl.2.2.2.1.2
        have rp : zr σ (C (b + (2 + 2 * dfP ab))) 0 = some (C (b + (3 + 2 * dfP ab))) := hP.2.1
        rw [if_neg (fun z => d2 (e0.mp z)), oGR_eq h.k0 h.sc, oGR_eq h.k0 hr, oA_eq kb, oB_eq q1, oA_eq h.scl.1, if_pos ⟨d1, d3⟩]
        refine ⟨zuC (zuI (zuI σ (C 68) 2 (nI (ab 1))) (C 68) 3 (nI (ab 2))) (C (b + (3 + 2 * dfP ab))) 0 (C 69) 0 256, Or.inr ⟨_, rfl, d3, ?_, ?_, ?_, ?_, fun i hi => ?_⟩⟩
        · have ec : fX7_copy σ (C 68) (C (b + (2 + 2 * dfP ab))) = some (zuC (zuI (zuI σ (C 68) 2 (nI (ab 1))) (C 68) 3 (nI (ab 2))) (C (b + (3 + 2 * dfP ab))) 0 (C 69) 0 256) := by
            unfold fX7_copy
            rw [oGI_eq kp q2, oPI_eq ks, oGI_eq (by exact kp) (show zi (zuI σ (C 68) 2 (nI (ab 1))) (C (b + (2 + 2 * dfP ab))) 2 = nI (ab 2) by rw [zi_uI, if_neg (fun z => np z.1)]; exact q3), oPI_eq (by exact ks), oGR_eq (by exact kp) (by exact rp), oGR_eq (by exact ks) (by exact rs), oCp_eq (by exact hP.2.2.1) (by exact k69) (by exact hP.2.2.2) (by exact n69)]
          rw [oB_eq ec]
        · have z2 : zsC C PS σ (zuI (zuI σ (C 68) 2 (nI (ab 1))) (C 68) 3 (nI (ab 2))) := (zsC.rf.uI (by decide) (Or.inl rfl)).uI (by decide) (Or.inl rfl)
          exact zsm.uC (S := fun a => ∃ i, i < 71 ∧ PS i ∧ a = C i) z2 ⟨69, by decide, Or.inr (Or.inl rfl), rfl⟩
        · rw [zuC_ne (h.ne 68 69), zi_uI, if_neg (by omega), zi_uI, if_pos ⟨rfl, rfl⟩]
        · rw [zuC_ne (h.ne 68 69), zi_uI, if_pos ⟨rfl, rfl⟩]
        · rw [zuC_at, sb_cpy0 (by omega), zi_uI, if_neg (fun z => na z.1), zi_uI, if_neg (fun z => na z.1)]
          exact q4 i hi
    · rw [if_neg (fun z => d1 (em.mp z)), if_neg (by omega)]
      exact ⟨σ, Or.inl ⟨rfl, rfl, rfl⟩⟩
/-! the reference's -/
theorem zML.cv (h : zML σ B) : zr σ (B 0) 10 = some (B 5) ∧ zr σ (B 0) 11 = some (B 6) ∧ (zk σ (B 5) = 21 ∧ zn σ (B 5) = 256) ∧ (zk σ (B 6) = 21 ∧ zn σ (B 6) = 256) := by
  obtain ⟨l0, l1, l2, l4, l5, l6, l10, l11, -, -, -, -, -, -, -, -, -, h5, h6, -⟩ := h
  exact ⟨l10, l11, h5, h6⟩
theorem m_to (h : zML σ B) (hR : MR σ B ab rg px) (hw : WFr ab rg) {g i : Nat} (hg : g < ab 4) (hi : i < rg g 0 * rg g 1) : ((nI (ab 1) * (nI (rg g 3) + (nI i / nI (rg g 0)))) + nI (rg g 2)) + (nI i - nI i / nI (rg g 0) * nI (rg g 0)) = nI (toS (ab 1) (rg g) i) ∧ toS (ab 1) (rg g) i < 256 ∧ ¬ nI (rg g 0) = 0 := by
  have hbb := hw.b
  have hr := hw.rgn hg
  have hb := hr.b (by omega) (by omega)
  have hd : nI i / nI (rg g 0) = nI (i / rg g 0) := pk_div (by omega) (by have := hr.1; omega) (by omega)
  have hm : nI i - nI i / nI (rg g 0) * nI (rg g 0) = nI (i % rg g 0) := pk_rem (by omega) (by have := hr.1; omega) (by omega)
  refine ⟨?_, toS_lt hr (by omega) (by omega) hi, nI_ne0 (by have := hr.1; omega) (by omega)⟩
  rw [hm, hd, nI_add, pk_mul, nI_add, nI_add]
  rfl
theorem m_lay (h : zML σ B) (hR : MR σ B ab rg px) (hw : WFr ab rg) (h8 : zi σ (B 0) 8 = nI (ab 1)) {g : Nat} (hg : g < ab 4) {cv : Nat → Nat} (hcv : zCV σ (B 5) cv) : ∃ s, fX12_lay σ (B 0) (nI g) = some s ∧ zsm (fun a => a = B 5) σ s ∧ zCV s (B 5) (dr (ab 1) (rg g) (px g) cv (rg g 0 * rg g 1)) := by
  have hbb := hw.b
  have hr := hw.rgn hg
  have hb := hr.b (by omega) (by omega)
  have q0 : fX12_region σ (B 0) 0 (nI g) 0 = some (nI (rg g 0)) := m_reg0 (k := 0) h hR hg (by omega) (by decide)
  have q1 : fX12_region σ (B 0) 0 (nI g) 1 = some (nI (rg g 1)) := m_reg0 (k := 1) h hR hg (by omega) (by decide)
  obtain ⟨s, e, p1, p2⟩ := zloop_cnt (body := fun x => bX12_lay_19 (B 0) (nI g) (nI (rg g 0)) (nI (rg g 1)) x.1 x.2) (fun i x => x.1 = nI i ∧ zsm (fun a => a = B 5) σ x.2 ∧ zCV x.2 (B 5) (dr (ab 1) (rg g) (px g) cv i)) (rg g 0 * rg g 1) (fun s => zsm (fun a => a = B 5) σ s ∧ zCV s (B 5) (dr (ab 1) (rg g) (px g) cv (rg g 0 * rg g 1)))
    (fun i x hi hx => by
      obtain ⟨k, s⟩ := x
      obtain ⟨x1, x2, x3⟩ := hx
      dsimp only at x1 x2 x3
      subst x1
      have hs := h.of x2
      have hRs := hR.of (s := s) (fun k => x2.i (h.ne 2 5) k) (fun k => x2.i (h.ne 3 5) k) (fun k => x2.i (h.ne 4 5) k)
      have h8s : zi s (B 0) 8 = nI (ab 1) := (x2.i (h.ne 0 5) 8).trans h8
      obtain ⟨eto, hlt, hne⟩ := m_to hs hRs hw hg hi
      have c1 : ¬ nI (rg g 0 * rg g 1) ≤ nI i := by rw [nI_leI (by omega) (by omega)]; omega
      have r2 : fX12_region s (B 0) 0 (nI g) 2 = some (nI (rg g 2)) := m_reg0 (k := 2) hs hRs hg (by omega) (by decide)
      have r3 : fX12_region s (B 0) 0 (nI g) 3 = some (nI (rg g 3)) := m_reg0 (k := 3) hs hRs hg (by omega) (by decide)
      have r5 : fX12_region s (B 0) 0 (nI g) 5 = some (nI (rg g 5)) := m_reg0 (k := 5) hs hRs hg (by omega) (by decide)
      obtain ⟨cr, -, ⟨k5, n5⟩, -⟩ := hs.cv
      obtain ⟨w0, w1, w2, w3⟩ := hs.r6
      have e256 : (256 : Int32) * nI g + nI i = nI (256 * g + i) := by
        have : (256 : Int32) * nI g = nI (256 * g) := pk_mul 256 g
        rw [this, nI_add]
      have hpx := hRs.2.2.1 g hg i hi
      have hct := x3 _ hlt
      have e1 : nI (rg g 5) = 1 ↔ rg g 5 = 1 := nI_eq (b := 1) (by omega) (by decide)
      have h108 : ∀ v : Int32, v = nI (if rg g 5 = 0 then px g i else mixS (px g i) (dr (ab 1) (rg g) (px g) cv i (toS (ab 1) (rg g) i))) → ∃ s', fX12_lay_108 s (B 0) (nI g) (nI (rg g 0)) (nI (rg g 1)) (nI i) v (nI (toS (ab 1) (rg g) i)) (B 5) = some (.inl (nI (i + 1), s')) ∧ zsm (fun a => a = B 5) σ s' ∧ zCV s' (B 5) (dr (ab 1) (rg g) (px g) cv (i + 1)) := fun v hv => by
        refine ⟨zuI s (B 5) (toS (ab 1) (rg g) i) v, ?_, x2.uI rfl, fun t ht => ?_⟩
        · unfold fX12_lay_108
          rw [oSt_eq k5 (by rw [n5]; exact hlt) (by omega), oL_eq, nI_1]
        · show zi (zuI s (B 5) _ _) (B 5) t = nI (dr (ab 1) (rg g) (px g) cv (i + 1) t)
          rw [zi_uI, dr]
          unfold va_up
          by_cases q : t = toS (ab 1) (rg g) i
          · rw [if_pos ⟨rfl, q⟩, if_pos q]; exact hv
          · rw [if_neg (fun z => q z.2), if_neg q]; exact x3 t ht
      have hpre : bX12_lay_19 (B 0) (nI g) (nI (rg g 0)) (nI (rg g 1)) (nI i) s = (if nI (rg g 5) = 1 then fX12_lay_108 s (B 0) (nI g) (nI (rg g 0)) (nI (rg g 1)) (nI i) (blnS (nI (px g i)) (nI (dr (ab 1) (rg g) (px g) cv i (toS (ab 1) (rg g) i)))) (nI (toS (ab 1) (rg g) i)) (B 5) else fX12_lay_108 s (B 0) (nI g) (nI (rg g 0)) (nI (rg g 1)) (nI i) (nI (px g i)) (nI (toS (ab 1) (rg g) i)) (B 5)) := by
        unfold bX12_lay_19
        rw [pk_mul, if_neg c1, oGI_eq hs.2.1 h8s, oA_eq hs.2.1, oB_eq r3, oA_eq hne, oA_eq hs.2.1, oB_eq r2, oA_eq hne, oL_eq, eto, oGR_eq w0 w1, e256, oLd_eq w2 (by rw [w3]; omega) (by omega) hpx, oGR_eq hs.2.1 cr, oA_eq hs.2.1, oB_eq r5, oGR_eq hs.2.1 cr, oLd_eq k5 (by rw [n5]; exact hlt) (by omega) hct, oB_eq (m_over _ _)]
      by_cases d : rg g 5 = 1
      · obtain ⟨s', t1, t2, t3⟩ := h108 (blnS (nI (px g i)) (nI (dr (ab 1) (rg g) (px g) cv i (toS (ab 1) (rg g) i)))) (by rw [if_neg (by omega)]; exact zof _)
        rw [if_pos (e1.mpr d), t1] at hpre
        exact Or.inl ⟨_, hpre, rfl, t2, t3⟩
      · obtain ⟨s', t1, t2, t3⟩ := h108 (nI (px g i)) (by rw [if_pos (by omega)])
        rw [if_neg (fun z => d (e1.mp z)), t1] at hpre
        exact Or.inl ⟨_, hpre, rfl, t2, t3⟩)
    (fun x hx => by
      obtain ⟨k, s⟩ := x
      obtain ⟨x1, x2, x3⟩ := hx
      dsimp only at x1 x2 x3
      subst x1
      refine ⟨s, ?_, x2, x3⟩
      show bX12_lay_19 (B 0) (nI g) (nI (rg g 0)) (nI (rg g 1)) (nI (rg g 0 * rg g 1)) s = _
      unfold bX12_lay_19
      rw [pk_mul, if_pos (by rw [zle]; exact Int.le_refl _)]) zF (0, σ) ⟨nI_0.symm, zsm.rf, hcv⟩ (by unfold zF; omega)
  refine ⟨s, ?_, p1, p2⟩
  unfold fX12_lay
  rw [oA_eq h.2.1, oB_eq q0, oA_eq h.2.1, oB_eq q1, oB_eq e]
end PSHOW2
