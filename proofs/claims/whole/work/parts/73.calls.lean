/-! frame, paint, first, about, place, out: the class's -/
def alw (W H : Nat) (w h x y d b : Int32) : Prop := (1 ≤ w.toInt ∧ w.toInt ≤ W) ∧ (0 ≤ x.toInt ∧ x.toInt + w.toInt ≤ W) ∧ (1 ≤ h.toInt ∧ h.toInt ≤ H) ∧ (0 ≤ y.toInt ∧ y.toInt + h.toInt ≤ H) ∧ (0 ≤ d.toInt ∧ d.toInt ≤ 2) ∧ (0 ≤ b.toInt ∧ b.toInt ≤ 1)
def frg (w h x y d b : Int32) : Nat → Nat
  | 0 => w.toInt.toNat
  | 1 => h.toInt.toNat
  | 2 => x.toInt.toNat
  | 3 => y.toInt.toNat
  | 4 => d.toInt.toNat
  | _ => b.toInt.toNat
def abF (ab : Nat → Nat) : Nat → Nat := fun k => if k = 4 then ab 4 + 1 else ab k
def rgF (rg : Nat → Nat → Nat) (c : Nat) (r : Nat → Nat) : Nat → Nat → Nat := fun f k => if f = c then r k else rg f k
section PCALLS
variable {σ s t : zS} {C : Nat → Nat} {ab : Nat → Nat} {rg px : Nat → Nat → Nat} {b : Nat}
theorem oLr_eq {ρ : Type} {a n v : Nat} {f : Nat → Option ρ} (hk : zk σ a = 22) (hn : n < zn σ a) (h : n < 2147483648) (hv : zr σ a n = some v) : oLr σ a (nI n) f = f v := by
  have t : (nI n).toInt = (n : Int) := zt_nI h
  unfold oLr
  rw [if_pos ⟨hk, by rw [zle, zt0', t]; omega, by rw [znat, t, Int.toNat_natCast]; exact hn⟩, znat, t, Int.toNat_natCast, hv]
  rfl
theorem s_allows {r W H : Nat} (hk : zk σ r = 6) (h4 : zi σ r 4 = nI W) (h5 : zi σ r 5 = nI H) (hW : W ≤ 16) (hH : H ≤ 16) (w h x y d bl : Int32) : ∃ v, fX5_allows σ r w h x y d bl = some v ∧ ((v = 1 ∧ alw W H w h x y d bl) ∨ (v = 0 ∧ ¬ alw W H w h x y d bl)) := by
  have tW : (nI W).toInt = (W : Int) := zt_nI (by omega)
  have tH : (nI H).toInt = (H : Int) := zt_nI (by omega)
  have t1 : (1 : Int32).toInt = 1 := by decide
  have t2 : (2 : Int32).toInt = 2 := by decide
  have hrw := zrange w
  have hrh := zrange h
  suffices H : ∃ v, gX5_allows σ r w h x y d bl = some v ∧ ((v = 1 ∧ alw W H w h x y d bl) ∨ (v = 0 ∧ ¬ alw W H w h x y d bl)) by
    obtain ⟨v, e, hv⟩ := H
    refine ⟨v, ?_, hv⟩
    unfold fX5_allows
    rw [oB_eq e, oA_eq (by rcases hv with ⟨z, -⟩ | ⟨z, -⟩ <;> simp [z])]
  unfold gX5_allows alw
  by_cases d1 : w < 1
  · exact ⟨0, by rw [if_pos d1], Or.inr ⟨rfl, by rw [zlt, t1] at d1; omega⟩⟩
  · rw [if_neg d1, oGI_eq hk h4]
    rw [zlt, t1] at d1
    by_cases d2 : nI W < w
    · exact ⟨0, by rw [if_pos d2], Or.inr ⟨rfl, by rw [zlt, tW] at d2; omega⟩⟩
    · rw [if_neg d2]
      rw [zlt, tW] at d2
      by_cases d3 : x < 0
      · exact ⟨0, by rw [if_pos d3], Or.inr ⟨rfl, by rw [zlt, zt0'] at d3; omega⟩⟩
      · rw [if_neg d3, oGI_eq hk h4]
        rw [zlt, zt0'] at d3
        have tWw : (nI W - w).toInt = (W : Int) - w.toInt := by rw [zt_sub (by rw [tW]; omega) (by rw [tW]; omega), tW]
        by_cases d4 : nI W - w < x
        · exact ⟨0, by rw [if_pos d4], Or.inr ⟨rfl, by rw [zlt, tWw] at d4; omega⟩⟩
        · rw [if_neg d4]
          rw [zlt, tWw] at d4
          by_cases d5 : h < 1
          · exact ⟨0, by rw [if_pos d5], Or.inr ⟨rfl, by rw [zlt, t1] at d5; omega⟩⟩
          · rw [if_neg d5, oGI_eq hk h5]
            rw [zlt, t1] at d5
            by_cases d6 : nI H < h
            · exact ⟨0, by rw [if_pos d6], Or.inr ⟨rfl, by rw [zlt, tH] at d6; omega⟩⟩
            · rw [if_neg d6]
              rw [zlt, tH] at d6
              by_cases d7 : y < 0
              · exact ⟨0, by rw [if_pos d7], Or.inr ⟨rfl, by rw [zlt, zt0'] at d7; omega⟩⟩
              · rw [if_neg d7, oGI_eq hk h5]
                rw [zlt, zt0'] at d7
                have tHh : (nI H - h).toInt = (H : Int) - h.toInt := by rw [zt_sub (by rw [tH]; omega) (by rw [tH]; omega), tH]
                by_cases d8 : nI H - h < y
                · exact ⟨0, by rw [if_pos d8], Or.inr ⟨rfl, by rw [zlt, tHh] at d8; omega⟩⟩
                · rw [if_neg d8]
                  rw [zlt, tHh] at d8
                  by_cases d9 : d < 0
                  · exact ⟨0, by rw [if_pos d9], Or.inr ⟨rfl, by rw [zlt, zt0'] at d9; omega⟩⟩
                  · rw [if_neg d9]
                    rw [zlt, zt0'] at d9
                    by_cases da : 2 < d
                    · exact ⟨0, by rw [if_pos da], Or.inr ⟨rfl, by rw [zlt, t2] at da; omega⟩⟩
                    · rw [if_neg da]
                      rw [zlt, t2] at da
                      by_cases db : bl < 0
                      · exact ⟨0, by rw [if_pos db], Or.inr ⟨rfl, by rw [zlt, zt0'] at db; omega⟩⟩
                      · rw [if_neg db]
                        rw [zlt, zt0'] at db
                        by_cases dc : 1 < bl
                        · exact ⟨0, by rw [if_pos dc], Or.inr ⟨rfl, by rw [zlt, t1] at dc; omega⟩⟩
                        · rw [if_neg dc]
                          rw [zlt, t1] at dc
                          exact ⟨1, rfl, Or.inl ⟨rfl, by omega⟩⟩
/-- one picture more; the pixels stay as they are -/
theorem s_add6 {Q : Nat → Nat} {c : Nat} (hL : RLL σ Q) (hj : ∀ i j, i < 20 → j < 20 → Q i = Q j → i = j) (h7 : zi σ (Q 0) 7 = nI c) (hc : c < 8) (w h x y d bl : Int32) : ∃ s, fX5_add σ (Q 0) w h x y d bl = some s ∧ zsm (fun a => a = Q 0 ∨ a = Q (2 + 2 * c)) σ s ∧ (∀ k, k ≠ 7 → zi s (Q 0) k = zi σ (Q 0) k) ∧ zi s (Q 0) 7 = nI (c + 1) ∧ zi s (Q (2 + 2 * c)) 1 = w ∧ zi s (Q (2 + 2 * c)) 2 = h ∧ zi s (Q (2 + 2 * c)) 3 = x ∧ zi s (Q (2 + 2 * c)) 4 = y ∧ zi s (Q (2 + 2 * c)) 5 = d ∧ zi s (Q (2 + 2 * c)) 6 = bl := by
  obtain ⟨h1, h2, h3, h4, h5, h6, h7'⟩ := hL
  have kp : zk σ (Q (2 + 2 * c)) = 4 := (h7' c (by omega)).1
  have n0 : ¬ Q 0 = Q (2 + 2 * c) := fun e => by have := hj 0 (2 + 2 * c) (by decide) (by omega) e; omega
  have n0' : ¬ Q (2 + 2 * c) = Q 0 := fun e => n0 e.symm
  have c8 : nI c < 8 := (nI_ltI (b := 8) (by omega) (by decide)).mpr hc
  refine ⟨zuI (zuI (zuI (zuI (zuI (zuI (zuI σ (Q (2 + 2 * c)) 1 w) (Q (2 + 2 * c)) 2 h) (Q (2 + 2 * c)) 3 x) (Q (2 + 2 * c)) 4 y) (Q (2 + 2 * c)) 5 d) (Q (2 + 2 * c)) 6 bl) (Q 0) 7 (nI (c + 1)), ?_, ?_, ?_, ?_, ?_, ?_, ?_, ?_, ?_, ?_⟩
  · have i7 : zi (zuI (zuI (zuI (zuI (zuI (zuI σ (Q (2 + 2 * c)) 1 w) (Q (2 + 2 * c)) 2 h) (Q (2 + 2 * c)) 3 x) (Q (2 + 2 * c)) 4 y) (Q (2 + 2 * c)) 5 d) (Q (2 + 2 * c)) 6 bl) (Q 0) 7 = nI c := by
      simp only [zi_uI, n0, false_and, ↓reduceIte]; exact h7
    unfold fX5_add
    rw [oGI_eq h1 h7, if_pos c8, oGR_eq h1 h2, oGI_eq h1 h7, oLr_eq h4 (by rw [h5]; exact hc) (by omega) (h6 c hc), oPI_eq kp, oPI_eq (by exact kp), oPI_eq (by exact kp), oPI_eq (by exact kp), oPI_eq (by exact kp), oPI_eq (by exact kp), oGI_eq (by exact h1) i7, oPI_eq (by exact h1)]
    have : nI c + 1 = nI (c + 1) := nI_1 c
    rw [this]
  · exact ((((((zsm.rf.uI (Or.inr rfl)).uI (Or.inr rfl)).uI (Or.inr rfl)).uI (Or.inr rfl)).uI (Or.inr rfl)).uI (Or.inr rfl)).uI (Or.inl rfl)
  · intro k hk
    simp only [zi_uI, n0, false_and, true_and, hk, ↓reduceIte]
  all_goals simp only [zi_uI, n0', true_and, false_and, ↓reduceIte, Nat.reduceEqDiff]
theorem isR.inj (hc : CLL σ C) (hb : isR b) : ∀ i j, i < 20 → j < 20 → (fun i => C (b + i)) i = (fun i => C (b + i)) j → i = j := fun i j hi hj e => by
  have hlt := hb.lt
  have := hc.1 (b + i) (b + j) (by omega) (by omega) e
  omega
theorem c_frame (h : CLL σ C) (hb : isR b) (hr : zr σ (C 0) 4 = some (C b)) (hR : RC σ (fun i => C (b + i)) ab rg px) (hw : WFr ab rg) (w hh x y d bl : Int32) :
    ∃ s, ((ab 0 = 0 ∧ fX11_frame σ (C 0) w hh x y d bl = some (-13, s) ∧ s = σ) ∨ (ab 0 ≠ 0 ∧ ¬ alw (ab 1) (ab 2) w hh x y d bl ∧ fX11_frame σ (C 0) w hh x y d bl = some (-12, s) ∧ s = σ) ∨ (ab 0 ≠ 0 ∧ alw (ab 1) (ab 2) w hh x y d bl ∧ ab 4 = 8 ∧ fX11_frame σ (C 0) w hh x y d bl = some (-14, s) ∧ s = σ) ∨
      (ab 0 ≠ 0 ∧ alw (ab 1) (ab 2) w hh x y d bl ∧ ab 4 < 8 ∧ fX11_frame σ (C 0) w hh x y d bl = some (nI (ab 4 + 1), s) ∧ zsC C (PR b) σ s ∧ RC s (fun i => C (b + i)) (abF ab) (rgF rg (ab 4) (frg w hh x y d bl)) (pxW px (ab 4)) ∧ SCc s C 0 0 (fun _ => 0))) := by
  obtain ⟨⟨g1, g2, g3, g4, g5, g6⟩, ⟨g7, g8⟩, g9, g10, g11⟩ := id hR
  have hbb := hw.b
  have hL := h.rl hb
  have hlt := hb.lt
  have kb : zk σ (C b) = 6 := hL.1
  have e0 : nI (ab 0) = 0 ↔ ab 0 = 0 := nI_eq (b := 0) (by omega) (by decide)
  have g1' : zi σ (C b) 2 = nI (ab 0) := g1
  have g6' : zi σ (C b) 7 = nI (ab 4) := g6
  unfold fX11_frame
  rw [oGR_eq h.k0 hr, oGI_eq kb g1']
  by_cases d0 : ab 0 = 0
  · rw [if_pos (e0.mpr d0)]
    exact ⟨σ, Or.inl ⟨d0, rfl, rfl⟩⟩
  · rw [if_neg (fun z => d0 (e0.mp z)), oGR_eq h.k0 hr, oA_eq kb]
    obtain ⟨v, ev, hv⟩ := s_allows (r := C b) kb g3 g4 (by omega) (by omega) w hh x y d bl
    rw [oB_eq ev]
    rcases hv with ⟨v1, hal⟩ | ⟨v0, hal⟩
    · subst v1
      rw [if_neg (by decide), oGR_eq h.k0 hr, oGI_eq kb g6']
      have c8 : nI (ab 4) < 8 ↔ ab 4 < 8 := nI_ltI (b := 8) (by omega) (by decide)
      by_cases d1 : ab 4 < 8
      · rw [if_pos (c8.mpr d1), oGR_eq h.k0 hr, oA_eq kb]
        obtain ⟨s1, e1, m1, f1, f2, f3⟩ := s_add6 hL (isR.inj h hb) g6 d1 w hh x y d bl
        have e1' : fX5_add σ (C b) w hh x y d bl = some s1 := e1
        have z1 : zsC C (PR b) σ s1 := zsC.of2 (i := b + 0) (j := b + (2 + 2 * ab 4)) (by omega) (Or.inl (by omega)) (by omega) (Or.inl (by omega)) m1
        have h1 : CLL s1 C := h.of m1
        have hr1 : zr s1 (C 0) 4 = some (C b) := by rw [m1.r]; exact hr
        have kb1 : zk s1 (C b) = 6 := by rw [m1.k]; exact kb
        have hL1 : RLL s1 (fun i => C (b + i)) := hL.of m1
        have f2' : zi s1 (C b) 7 = nI (ab 4 + 1) := f2
        have es : nI (ab 4 + 1) - 1 = nI (ab 4) := pk_sub (b := 1) (by omega)
        rw [oB_eq e1', oGR_eq h1.k0 hr1, oGR_eq kb1 hL1.2.1, oGR_eq h1.k0 hr1, oGI_eq kb1 f2', es, oLr_eq hL1.2.2.2.1 (by rw [hL1.2.2.2.2.1]; exact d1) (by omega) (hL1.2.2.2.2.2.1 _ d1)]
        have hp1 := hL1.2.2.2.2.2.2 (ab 4) (by omega)
        obtain ⟨s2, e2, m2, q2⟩ := s_clearP hp1
        have z2 : zsC C (PR b) s1 s2 := zsC.of1 (i := b + (3 + 2 * ab 4)) (by omega) (Or.inl (by omega)) m2
        have h2 := h1.of m2
        have z12 := z1.trans z2
        have z3 : zsC C (PR b) σ (zuI (zuI s2 (C 68) 2 0) (C 68) 3 0) := (z12.uI (by decide) (Or.inr rfl)).uI (by decide) (Or.inr rfl)
        have ns : ∀ j, j < 65 → ∀ k, zi (zuI (zuI s2 (C 68) 2 0) (C 68) 3 0) (C j) k = zi s2 (C j) k := fun j hj k => by
          have : C j ≠ C 68 := fun e => by have := h.1 j 68 (by omega) (by decide) e; omega
          rw [zi_uI, if_neg (fun z => this z.1), zi_uI, if_neg (fun z => this z.1)]
        have n2 : ∀ j, j < 20 → j ≠ 3 + 2 * ab 4 → ∀ k, zi (zuI (zuI s2 (C 68) 2 0) (C 68) 3 0) (C (b + j)) k = zi s1 (C (b + j)) k := fun j hj hn k => by
          rw [ns (b + j) (by omega), m2.i (fun z => by have := h.1 (b + j) (b + (3 + 2 * ab 4)) (by omega) (by omega) z; omega)]
        have n1 : ∀ j, j < 20 → j ≠ 3 + 2 * ab 4 → j ≠ 0 → j ≠ 2 + 2 * ab 4 → ∀ k, zi (zuI (zuI s2 (C 68) 2 0) (C 68) 3 0) (C (b + j)) k = zi σ (C (b + j)) k := fun j hj ha hb0 hc k => by
          rw [n2 j hj ha, m1.i (fun z => z.elim (fun z => by have := h.1 (b + j) (b + 0) (by omega) (by omega) z; omega) (fun z => by have := h.1 (b + j) (b + (2 + 2 * ab 4)) (by omega) (by omega) z; omega))]
        have hs2 : zr (zuI (zuI s2 (C 68) 2 0) (C 68) 3 0) (C 0) 4 = some (C b) := by rw [zsm.r z3]; exact hr
        have i7 : zi (zuI (zuI s2 (C 68) 2 0) (C 68) 3 0) (C b) 7 = nI (ab 4 + 1) := (n2 0 (by decide) (by omega) 7).trans f2
        have hn0 : ∀ k, k ≠ 7 → zi (zuI (zuI s2 (C 68) 2 0) (C 68) 3 0) (C (b + 0)) k = zi σ (C (b + 0)) k := fun k hk => (n2 0 (by decide) (by omega) k).trans (f1 k hk)
        refine ⟨_, Or.inr (Or.inr (Or.inr ⟨d0, hal, d1, ?_, z3, ?_, SCc.forget⟩))⟩
        · rw [oA_eq hp1.1, oB_eq e2, oGR_eq h2.k0 h2.sc, oA_eq h2.scl.1, oB_eq (s_forget h2), oGR_eq (by exact h2.k0) hs2, oGI_eq (by rw [zsm.k z3]; exact kb) i7]
        · obtain ⟨a1, a2, a3, a4, a5, a6⟩ := hal
          have e4 : abF ab 4 = ab 4 + 1 := rfl
          have en : ∀ k, k ≠ 4 → abF ab k = ab k := fun k hk => by unfold abF; rw [if_neg hk]
          refine ⟨⟨?_, ?_, ?_, ?_, ?_, ?_⟩, ⟨?_, ?_⟩, fun f hf k hk => ?_, fun f hf i hi => ?_, fun h5 i hi => ?_⟩
          · exact (hn0 2 (by decide)).trans g1
          · exact (hn0 3 (by decide)).trans g2
          · exact (hn0 4 (by decide)).trans g3
          · exact (hn0 5 (by decide)).trans g4
          · exact (hn0 6 (by decide)).trans g5
          · exact i7
          · exact (n1 18 (by decide) (by omega) (by decide) (by omega) 1).trans g7
          · exact (n1 18 (by decide) (by omega) (by decide) (by omega) 2).trans g8
          · rw [e4] at hf
            show zi _ (C (b + (2 + 2 * f))) (1 + k) = _
            unfold rgF
            by_cases q : f = ab 4
            · subst q
              rw [if_pos rfl, n2 (2 + 2 * ab 4) (by omega) (by omega)]
              obtain ⟨p1, p2, p3, p4, p5, p6⟩ := f3
              have hk' : k = 0 ∨ k = 1 ∨ k = 2 ∨ k = 3 ∨ k = 4 ∨ k = 5 := by omega
              rcases hk' with rfl | rfl | rfl | rfl | rfl | rfl
              · exact p1.trans (znI (by omega))
              · exact p2.trans (znI (by omega))
              · exact p3.trans (znI (by omega))
              · exact p4.trans (znI (by omega))
              · exact p5.trans (znI (by omega))
              · exact p6.trans (znI (by omega))
            · rw [if_neg q, n1 (2 + 2 * f) (by omega) (by omega) (by omega) (by omega)]
              exact g9 f (by omega) k hk
          · rw [e4] at hf
            show zi _ (C (b + (3 + 2 * f))) i = _
            unfold rgF at hi
            unfold pxW
            by_cases q : f = ab 4
            · subst q
              rw [if_pos rfl, if_pos rfl] at hi
              have hi' : i < w.toInt.toNat * hh.toInt.toNat := hi
              have : w.toInt.toNat * hh.toInt.toNat ≤ 16 * 16 := Nat.mul_le_mul (by omega) (by omega)
              rw [if_pos rfl, ns (b + (3 + 2 * ab 4)) (by omega)]
              exact q2 i (by omega)
            · rw [if_neg q, if_neg q] at hi
              rw [if_neg q, n1 (3 + 2 * f) (by omega) (by omega) (by omega) (by omega)]
              exact g10 f (by omega) i hi
          · rw [en 1 (by decide), en 2 (by decide)] at hi
            rw [en 5 (by decide)] at h5
            show zi _ (C (b + 19)) i = _
            unfold pxW
            rw [if_neg (by omega), n1 19 (by decide) (by omega) (by decide) (by omega)]
            exact g11 h5 i hi
      · rw [if_neg (fun z => d1 (c8.mp z))]
        exact ⟨σ, Or.inr (Or.inr (Or.inl ⟨d0, hal, by omega, rfl, rfl⟩))⟩
    · subst v0
      rw [if_pos rfl]
      exact ⟨σ, Or.inr (Or.inl ⟨d0, hal, rfl, rfl⟩)⟩
/-! paint -/
/-- which picture: a frame, or the own one (8) -/
def pnt (ab : Nat → Nat) (f : Int32) : Option Nat := if 0 ≤ f.toInt ∧ f.toInt < (ab 4 : Int) then some f.toInt.toNat else if f.toInt = -1 ∧ ab 0 = 1 ∧ ab 5 = 0 then some 8 else none
def pdW (ab : Nat → Nat) (rg : Nat → Nat → Nat) (g : Nat) : Nat := if g = 8 then ab 1 else rg g 0
def pdH (ab : Nat → Nat) (rg : Nat → Nat → Nat) (g : Nat) : Nat := if g = 8 then ab 2 else rg g 1
def pxP (px : Nat → Nat → Nat) (g i v : Nat) : Nat → Nat → Nat := fun f j => if f = g ∧ j = i then v else px f j
theorem s_hasFrame (hL : zk σ (C b) = 6) (h2 : zi σ (C b) 2 = nI (ab 0)) (h7 : zi σ (C b) 7 = nI (ab 4)) (hw : WFr ab rg) (i : Int32) : fX5_hasFrame σ (C b) i = some (if 0 ≤ i.toInt ∧ i.toInt < (ab 4 : Int) then 1 else 0) := by
  have hbb := hw.b
  have e0 : nI (ab 0) = 0 ↔ ab 0 = 0 := nI_eq (b := 0) (by omega) (by decide)
  have t4 : (nI (ab 4)).toInt = (ab 4 : Int) := zt_nI (by omega)
  suffices H : gX5_hasFrame σ (C b) i = some (if 0 ≤ i.toInt ∧ i.toInt < (ab 4 : Int) then 1 else 0) by
    unfold fX5_hasFrame
    rw [oB_eq H, oA_eq (by split <;> simp)]
  unfold gX5_hasFrame
  rw [oGI_eq hL h2]
  by_cases d0 : ab 0 = 0
  · rw [if_pos (e0.mpr d0), if_neg (by have := hbb.2.2.2.2.2 d0; omega)]
  · rw [if_neg (fun z => d0 (e0.mp z))]
    by_cases d1 : i < 0
    · rw [if_pos d1, if_neg (by rw [zlt, zt0'] at d1; omega)]
    · rw [if_neg d1, oGI_eq hL h7]
      rw [zlt, zt0'] at d1
      by_cases d2 : nI (ab 4) ≤ i
      · rw [if_pos d2, if_neg (by rw [zle, t4] at d2; omega)]
      · rw [if_neg d2, if_pos (by rw [zle, t4] at d2; omega)]
theorem s_paintable (h : CLL σ C) (hb : isR b) (hr : zr σ (C 0) 4 = some (C b)) (hR : RC σ (fun i => C (b + i)) ab rg px) (hw : WFr ab rg) (f : Int32) : fX11_paintable σ (C 0) f = some ((pnt ab f).map (fun g => C (b + (2 + 2 * g)))) := by
  obtain ⟨⟨g1, g2, g3, g4, g5, g6⟩, -⟩ := id hR
  have hbb := hw.b
  have hL := h.rl hb
  have kb : zk σ (C b) = 6 := hL.1
  have g1' : zi σ (C b) 2 = nI (ab 0) := g1
  have g2' : zi σ (C b) 3 = nI (ab 5) := g2
  have e0 : nI (ab 0) = 0 ↔ ab 0 = 0 := nI_eq (b := 0) (by omega) (by decide)
  have e5 : nI (ab 5) = 0 ↔ ab 5 = 0 := nI_eq (b := 0) (by omega) (by decide)
  have em : f = -1 ↔ f.toInt = -1 := by rw [zeq]; rfl
  have r0 : zr σ (C b) 0 = some (C (b + 1)) := hL.2.1
  have r1 : zr σ (C b) 1 = some (C (b + 18)) := hL.2.2.1
  unfold fX11_paintable fX11_paintable_56 pnt
  rw [oGR_eq h.k0 hr, oA_eq kb, oB_eq (s_hasFrame kb g1' g6 hw f)]
  by_cases d0 : 0 ≤ f.toInt ∧ f.toInt < (ab 4 : Int)
  · have hf : f = nI f.toInt.toNat := znI d0.1
    rw [if_pos d0, if_pos d0, if_neg (by decide), oGR_eq h.k0 hr, oGR_eq kb r0, hf, oLr_eq (v := C (b + (2 + 2 * f.toInt.toNat))) hL.2.2.2.1 (by rw [hL.2.2.2.2.1]; omega) (by omega) (hL.2.2.2.2.2.1 _ (by omega)), ← hf]
    rfl
  · rw [if_neg d0, if_neg d0, if_pos rfl]
    by_cases d1 : f.toInt = -1
    · rw [if_pos (em.mpr d1), oGR_eq h.k0 hr, oGI_eq kb g1']
      by_cases d2 : ab 0 = 0
      · rw [if_pos (e0.mpr d2), if_neg (by omega)]
        rfl
      · rw [if_neg (fun z => d2 (e0.mp z)), oGR_eq h.k0 hr, oGI_eq kb g2']
        by_cases d3 : ab 5 = 0
        · rw [if_pos (e5.mpr d3), oGR_eq h.k0 hr, oGR_eq kb r1, if_pos ⟨d1, by omega, d3⟩]
          rfl
        · rw [if_neg (fun z => d3 (e5.mp z)), if_neg (by omega)]
          rfl
    · rw [if_neg (fun z => d1 (em.mp z)), if_neg (by omega)]
      rfl
theorem pnt_some {f : Int32} {g : Nat} (hw : WFr ab rg) (h : pnt ab f = some g) : (g < ab 4 ∨ (g = 8 ∧ ab 5 = 0 ∧ ab 0 = 1)) ∧ g < 9 := by
  have hbb := hw.b
  unfold pnt at h
  split at h
  · cases h
    omega
  · split at h
    · cases h
      omega
    · cases h
theorem pd_le {g : Nat} (hw : WFr ab rg) (h : g < ab 4 ∨ (g = 8 ∧ ab 5 = 0 ∧ ab 0 = 1)) : pdW ab rg g ≤ 16 ∧ pdH ab rg g ≤ 16 := by
  have hbb := hw.b
  unfold pdW pdH
  rcases h with h | h
  · have := (hw.rgn h).b (by omega) (by omega)
    rw [if_neg (by omega), if_neg (by omega)]
    omega
  · rw [if_pos h.1, if_pos h.1]
    omega
theorem c_paint (h : CLL σ C) (hb : isR b) (hr : zr σ (C 0) 4 = some (C b)) (hR : RC σ (fun i => C (b + i)) ab rg px) (hw : WFr ab rg) (f x y c : Int32) :
    ∃ s, (pnt ab f = none ∧ fX11_paint σ (C 0) f x y c = some (-11, s) ∧ s = σ) ∨ (∃ g, pnt ab f = some g ∧ ((¬ (0 ≤ x.toInt ∧ x.toInt < (pdW ab rg g : Int) ∧ 0 ≤ y.toInt ∧ y.toInt < (pdH ab rg g : Int)) ∧ fX11_paint σ (C 0) f x y c = some (-12, s) ∧ s = σ) ∨
      ((0 ≤ x.toInt ∧ x.toInt < (pdW ab rg g : Int) ∧ 0 ≤ y.toInt ∧ y.toInt < (pdH ab rg g : Int)) ∧ fX11_paint σ (C 0) f x y c = some (1, s) ∧ zsC C (PR b) σ s ∧ RC s (fun i => C (b + i)) ab rg (pxP px g (pdW ab rg g * y.toInt.toNat + x.toInt.toNat) c.toBitVec.toNat) ∧ SCc s C 0 0 (fun _ => 0)))) := by
  obtain ⟨⟨g1, g2, g3, g4, g5, g6⟩, ⟨g7, g8⟩, g9, g10, g11⟩ := id hR
  have hL := h.rl hb
  have hlt := hb.lt
  unfold fX11_paint
  rw [oA_eq h.k0, oB_eq (s_paintable h hb hr hR hw f)]
  cases hp : pnt ab f with
  | none => exact ⟨σ, Or.inl ⟨rfl, rfl, rfl⟩⟩
  | some g =>
    obtain ⟨hg, hg9⟩ := pnt_some hw hp
    obtain ⟨hW, hH⟩ := pd_le hw hg
    have hP := hL.2.2.2.2.2.2 g hg9
    have kp : zk σ (C (b + (2 + 2 * g))) = 4 := hP.1
    have w1 : zi σ (C (b + (2 + 2 * g))) 1 = nI (pdW ab rg g) := by
      unfold pdW
      rcases hg with hg | hg
      · rw [if_neg (by have := hw.b; omega)]; exact g9 g hg 0 (by decide)
      · rw [if_pos hg.1, hg.1]; exact g7
    have w2 : zi σ (C (b + (2 + 2 * g))) 2 = nI (pdH ab rg g) := by
      unfold pdH
      rcases hg with hg | hg
      · rw [if_neg (by have := hw.b; omega)]; exact g9 g hg 1 (by decide)
      · rw [if_pos hg.1, hg.1]; exact g8
    have tW : (nI (pdW ab rg g)).toInt = (pdW ab rg g : Int) := zt_nI (by omega)
    have tH : (nI (pdH ab rg g)).toInt = (pdH ab rg g : Int) := zt_nI (by omega)
    show ∃ s, _ ∨ ∃ g', some g = some g' ∧ _
    have key : ∃ s, ((¬ (0 ≤ x.toInt ∧ x.toInt < (pdW ab rg g : Int) ∧ 0 ≤ y.toInt ∧ y.toInt < (pdH ab rg g : Int)) ∧ (if x < 0 then some ((-12 : Int32), σ) else oGI σ 4 (C (b + (2 + 2 * g))) 1 (fun x1 => (if x1 ≤ x then some ((-12 : Int32), σ) else (if y < 0 then some ((-12 : Int32), σ) else oGI σ 4 (C (b + (2 + 2 * g))) 2 (fun x2 => (if y < x2 then oGR σ 4 (C (b + (2 + 2 * g))) 0 (fun a3 => oGI σ 4 (C (b + (2 + 2 * g))) 1 (fun x3 => oSt σ 21 a3 ((y * x3) + x) c (fun σ1 => oGR σ1 11 (C 0) 3 (fun a4 => oA (zk σ1 a4 = 7) (oB (fX7_forget σ1 a4) (fun σ2 => some (1, σ2))))))) else some ((-12 : Int32), σ))))))) = some (-12, s) ∧ s = σ) ∨ ((0 ≤ x.toInt ∧ x.toInt < (pdW ab rg g : Int) ∧ 0 ≤ y.toInt ∧ y.toInt < (pdH ab rg g : Int)) ∧ (if x < 0 then some ((-12 : Int32), σ) else oGI σ 4 (C (b + (2 + 2 * g))) 1 (fun x1 => (if x1 ≤ x then some ((-12 : Int32), σ) else (if y < 0 then some ((-12 : Int32), σ) else oGI σ 4 (C (b + (2 + 2 * g))) 2 (fun x2 => (if y < x2 then oGR σ 4 (C (b + (2 + 2 * g))) 0 (fun a3 => oGI σ 4 (C (b + (2 + 2 * g))) 1 (fun x3 => oSt σ 21 a3 ((y * x3) + x) c (fun σ1 => oGR σ1 11 (C 0) 3 (fun a4 => oA (zk σ1 a4 = 7) (oB (fX7_forget σ1 a4) (fun σ2 => some (1, σ2))))))) else some ((-12 : Int32), σ))))))) = some (1, s) ∧ zsC C (PR b) σ s ∧ RC s (fun i => C (b + i)) ab rg (pxP px g (pdW ab rg g * y.toInt.toNat + x.toInt.toNat) c.toBitVec.toNat) ∧ SCc s C 0 0 (fun _ => 0))) := by
      by_cases d1 : x < 0
      · exact ⟨σ, Or.inl ⟨by rw [zlt, zt0'] at d1; omega, by rw [if_pos d1], rfl⟩⟩
      · rw [if_neg d1, oGI_eq kp w1]
        rw [zlt, zt0'] at d1
        by_cases d2 : nI (pdW ab rg g) ≤ x
        · exact ⟨σ, Or.inl ⟨by rw [zle, tW] at d2; omega, by rw [if_pos d2], rfl⟩⟩
        · rw [if_neg d2]
          rw [zle, tW] at d2
          by_cases d3 : y < 0
          · exact ⟨σ, Or.inl ⟨by rw [zlt, zt0'] at d3; omega, by rw [if_pos d3], rfl⟩⟩
          · rw [if_neg d3, oGI_eq kp w2]
            rw [zlt, zt0'] at d3
            by_cases d4 : y < nI (pdH ab rg g)
            · rw [if_pos d4, oGR_eq kp hP.2.1, oGI_eq kp w1]
              rw [zlt, tH] at d4
              have ex : x = nI x.toInt.toNat := znI (by omega)
              have ey : y = nI y.toInt.toNat := znI (by omega)
              have eidx : y * nI (pdW ab rg g) + x = nI (pdW ab rg g * y.toInt.toNat + x.toInt.toNat) := by
                conv => lhs; rw [ex, ey]
                rw [pk_mul, nI_add, Nat.mul_comm]
              have hix : pdW ab rg g * y.toInt.toNat + x.toInt.toNat < 256 := by
                have q1 : pdW ab rg g * (y.toInt.toNat + 1) ≤ pdW ab rg g * 16 := Nat.mul_le_mul_left _ (by omega)
                rw [Nat.mul_succ] at q1
                omega
              generalize hii : pdW ab rg g * y.toInt.toNat + x.toInt.toNat = ii at *
              have n68 : ∀ j, j < 65 → ∀ s' : zS, ∀ k, zi (zuI (zuI s' (C 68) 2 0) (C 68) 3 0) (C j) k = zi s' (C j) k := fun j hj s' k => by
                have : C j ≠ C 68 := fun e => by have := h.1 j 68 (by omega) (by decide) e; omega
                rw [zi_uI, if_neg (fun z => this z.1), zi_uI, if_neg (fun z => this z.1)]
              have h1 : CLL (zuI σ (C (b + (3 + 2 * g))) ii c) C := h.of (S := fun a => a = C (b + (3 + 2 * g))) zsm1
              have z1 : zsC C (PR b) σ (zuI σ (C (b + (3 + 2 * g))) ii c) := zsC.rf.uI (by omega) (Or.inl (by omega))
              rw [eidx, oSt_eq hP.2.2.1 (by rw [hP.2.2.2]; exact hix) (by omega), oGR_eq (by exact h1.k0) h1.sc, oA_eq h1.scl.1, oB_eq (s_forget h1)]
              refine ⟨_, Or.inr ⟨by omega, rfl, (z1.uI (by decide) (Or.inr rfl)).uI (by decide) (Or.inr rfl), ?_, SCc.forget⟩⟩
              have nz : ∀ j, j < 20 → j ≠ 3 + 2 * g → ∀ k, zi (zuI (zuI (zuI σ (C (b + (3 + 2 * g))) ii c) (C 68) 2 0) (C 68) 3 0) (C (b + j)) k = zi σ (C (b + j)) k := fun j hj hn k => by
                rw [n68 (b + j) (by omega), zi_uI, if_neg (fun z => by have := h.1 (b + j) (b + (3 + 2 * g)) (by omega) (by omega) z.1; omega)]
              have nz3 : ∀ k, zi (zuI (zuI (zuI σ (C (b + (3 + 2 * g))) ii c) (C 68) 2 0) (C 68) 3 0) (C (b + (3 + 2 * g))) k = if k = ii then c else zi σ (C (b + (3 + 2 * g))) k := fun k => by
                rw [n68 (b + (3 + 2 * g)) (by omega), zi_uI]
                by_cases q : k = ii
                · rw [if_pos ⟨rfl, q⟩, if_pos q]
                · rw [if_neg (fun z => q z.2), if_neg q]
              refine ⟨⟨(nz 0 (by decide) (by omega) 2).trans g1, (nz 0 (by decide) (by omega) 3).trans g2, (nz 0 (by decide) (by omega) 4).trans g3, (nz 0 (by decide) (by omega) 5).trans g4, (nz 0 (by decide) (by omega) 6).trans g5, (nz 0 (by decide) (by omega) 7).trans g6⟩, ⟨(nz 18 (by decide) (by omega) 1).trans g7, (nz 18 (by decide) (by omega) 2).trans g8⟩, fun f' hf' k hk => (nz (2 + 2 * f') (by have := hw.b; omega) (by omega) (1 + k)).trans (g9 f' hf' k hk), fun f' hf' i hi => ?_, fun h5 i hi => ?_⟩
              · unfold pxP
                by_cases q : f' = g
                · subst q
                  refine (nz3 i).trans ?_
                  by_cases q2 : i = ii
                  · rw [if_pos q2, if_pos ⟨rfl, q2⟩]; exact zof c
                  · rw [if_neg q2, if_neg (fun z => q2 z.2)]; exact g10 f' hf' i hi
                · rw [if_neg (fun z => q z.1)]
                  exact (nz (3 + 2 * f') (by have := hw.b; omega) (by omega) i).trans (g10 f' hf' i hi)
              · unfold pxP
                by_cases q : g = 8
                · subst q
                  refine (nz3 i).trans ?_
                  by_cases q2 : i = ii
                  · rw [if_pos q2, if_pos ⟨rfl, q2⟩]; exact zof c
                  · rw [if_neg q2, if_neg (fun z => q2 z.2)]; exact g11 h5 i hi
                · rw [if_neg (fun z => q z.1.symm)]
                  exact (nz 19 (by decide) (by omega) i).trans (g11 h5 i hi)
            · exact ⟨σ, Or.inl ⟨by rw [zlt, tH] at d4; omega, by rw [if_neg d4], rfl⟩⟩
    obtain ⟨s, hs⟩ := key
    exact ⟨s, Or.inr ⟨g, rfl, hs⟩⟩
end PCALLS
