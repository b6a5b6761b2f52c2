/-! begin, frame, paint, first, about, place, out: the reference's -/
def PM : Nat → Prop := fun i => i = 0 ∨ i = 2 ∨ i = 3 ∨ i = 4
def FM : Nat → Prop := fun j => j = 0 ∨ j = 7
section PMCALLS
variable {σ s t : zS} {B : Nat → Nat} {ab : Nat → Nat} {rg px : Nat → Nat → Nat}
theorem zML.r4 (h : zML σ B) : zk σ (B 0) = 12 ∧ zr σ (B 0) 4 = some (B 2) ∧ zk σ (B 2) = 21 ∧ zn σ (B 2) = 12 := ⟨h.2.1, h.2.2.2.1, h.2.2.2.2.2.2.2.2.2.2.2.2.2.2.1.1, h.2.2.2.2.2.2.2.2.2.2.2.2.2.2.1.2⟩
theorem zML.r5 (h : zML σ B) : zk σ (B 0) = 12 ∧ zr σ (B 0) 5 = some (B 3) ∧ zk σ (B 3) = 21 ∧ zn σ (B 3) = 96 := ⟨h.2.1, h.2.2.2.2.1, h.2.2.2.2.2.2.2.2.2.2.2.2.2.2.2.1.1, h.2.2.2.2.2.2.2.2.2.2.2.2.2.2.2.1.2⟩
theorem zML.r6 (h : zML σ B) : zk σ (B 0) = 12 ∧ zr σ (B 0) 6 = some (B 4) ∧ zk σ (B 4) = 21 ∧ zn σ (B 4) = 4608 := ⟨h.2.1, h.2.2.2.2.2.1, h.2.2.2.2.2.2.2.2.2.2.2.2.2.2.2.2.1.1, h.2.2.2.2.2.2.2.2.2.2.2.2.2.2.2.2.1.2⟩
theorem zAB {ρ : Type} (h : zML σ B) {k : Nat} {kk v : Int32} (hk : k < 12) (e : kk = nI k) (hv : zi σ (B 2) k = v) {f : Int32 → Option ρ} : oGR σ 12 (B 0) 4 (fun a => oLd σ 21 a kk f) = f v := by
  subst e
  obtain ⟨h0, h1, h2, h3⟩ := h.r4
  rw [oGR_eq h0 h1, oLd_eq h2 (by rw [h3]; exact hk) (by omega) hv]
theorem zABs {ρ : Type} (h : zML σ B) {k : Nat} {kk v : Int32} (hk : k < 12) (e : kk = nI k) {f : zS → Option ρ} : oGR σ 12 (B 0) 4 (fun a => oSt σ 21 a kk v f) = f (zuI σ (B 2) k v) := by
  subst e
  obtain ⟨h0, h1, h2, h3⟩ := h.r4
  rw [oGR_eq h0 h1, oSt_eq h2 (by rw [h3]; exact hk) (by omega)]
theorem zRGs {ρ : Type} (h : zML σ B) {k : Nat} {kk v : Int32} (hk : k < 96) (e : kk = nI k) {f : zS → Option ρ} : oGR σ 12 (B 0) 5 (fun a => oSt σ 21 a kk v f) = f (zuI σ (B 3) k v) := by
  subst e
  obtain ⟨h0, h1, h2, h3⟩ := h.r5
  rw [oGR_eq h0 h1, oSt_eq h2 (by rw [h3]; exact hk) (by omega)]
theorem zML.u (h : zML σ B) {a k : Nat} {v : Int32} : zML (zuI σ a k v) B := h.of (S := fun x => x = a) zsm1
theorem m_region (h : zML σ B) {r f k : Nat} (hr : r ≤ 1) (hf : f < 8) (hk : k < 6) : fX12_region σ (B 0) (nI r) (nI f) (nI k) = some (zi σ (B 3) (48 * r + 6 * f + k)) := by
  obtain ⟨h0, h1, h2, h3⟩ := h.r5
  have e1 : (48 : Int32) * nI r = nI (48 * r) := pk_mul 48 r
  have e2 : (6 : Int32) * nI f = nI (6 * f) := pk_mul 6 f
  unfold fX12_region
  rw [oGR_eq h0 h1, e1, e2, nI_add, nI_add, oLd_eq h2 (by rw [h3]; omega) (by omega) rfl]
theorem m_reg0 (h : zML σ B) (hR : MR σ B ab rg px) {f k : Nat} (hf : f < ab 4) (hf8 : f < 8) (hk : k < 6) : fX12_region σ (B 0) 0 (nI f) (nI k) = some (nI (rg f k)) := by
  have := m_region h (r := 0) (by decide) hf8 hk
  rw [show 48 * 0 + 6 * f + k = 6 * f + k by omega, hR.2.1 f hf k hk] at this
  exact this
theorem MR.of (h : MR σ B ab rg px) (h2 : ∀ k, zi s (B 2) k = zi σ (B 2) k) (h3 : ∀ k, zi s (B 3) k = zi σ (B 3) k) (h4 : ∀ k, zi s (B 4) k = zi σ (B 4) k) : MR s B ab rg px := ⟨fun k hk => (h2 k).trans (h.1 k hk), fun f hf k hk => (h3 _).trans (h.2.1 f hf k hk), fun f hf i hi => (h4 _).trans (h.2.2.1 f hf i hi), fun h5 i hi => (h4 _).trans (h.2.2.2 h5 i hi)⟩
theorem MR.u0 (h : MR σ B ab rg px) (hB : zML σ B) {k : Nat} {v : Int32} : MR (zuI σ (B 0) k v) B ab rg px := h.of (fun j => by rw [zi_uI, if_neg (fun z => absurd z.1 (hB.ne 2 0))]) (fun j => by rw [zi_uI, if_neg (fun z => absurd z.1 (hB.ne 3 0))]) (fun j => by rw [zi_uI, if_neg (fun z => absurd z.1 (hB.ne 4 0))])
theorem m_wipe (h : zML σ B) {g : Nat} (hg : g < 18) : ∃ s, fX12_wipe σ (B 0) (nI g) = some s ∧ zsm (fun a => a = B 4) σ s ∧ (∀ i, i < 256 → zi s (B 4) (256 * g + i) = 0) ∧ ∀ j, (j < 256 * g ∨ 256 * g + 256 ≤ j) → zi s (B 4) j = zi σ (B 4) j := by
  obtain ⟨h0, h1, h2, h3⟩ := h.r6
  obtain ⟨s, e, p1, p2, p3⟩ := zloop_cnt (body := fun x => bX12_wipe_2 (B 0) (nI g) x.1 x.2) (fun i x => x.1 = nI i ∧ zsm (fun a => a = B 4) σ x.2 ∧ (∀ j, j < i → zi x.2 (B 4) (256 * g + j) = 0) ∧ ∀ j, (j < 256 * g ∨ 256 * g + i ≤ j) → zi x.2 (B 4) j = zi σ (B 4) j) 256 (fun s => zsm (fun a => a = B 4) σ s ∧ (∀ i, i < 256 → zi s (B 4) (256 * g + i) = 0) ∧ ∀ j, (j < 256 * g ∨ 256 * g + 256 ≤ j) → zi s (B 4) j = zi σ (B 4) j)
    (fun i x hi hx => by
      obtain ⟨k, s⟩ := x
      obtain ⟨x1, x2, x3, x4⟩ := hx
      dsimp only at x1 x2 x3 x4
      subst x1
      have c1 : ¬ (256 : Int32) ≤ nI i := fun z => by
        have := (nI_leI (a := 256) (b := i) (by decide) (by omega)).mp z
        omega
      have e1 : (256 : Int32) * nI g + nI i = nI (256 * g + i) := by
        have : (256 : Int32) * nI g = nI (256 * g) := pk_mul 256 g
        rw [this, nI_add]
      refine Or.inl ⟨(nI (i + 1), zuI s (B 4) (256 * g + i) 0), ?_, rfl, x2.uI rfl, fun j hj => ?_, fun j hj => ?_⟩
      · show bX12_wipe_2 (B 0) (nI g) (nI i) s = _
        unfold bX12_wipe_2
        rw [if_neg c1, oGR_eq (by rw [x2.k]; exact h0) (by rw [x2.r]; exact h1), e1, oSt_eq (by rw [x2.k]; exact h2) (by rw [x2.n, h3]; omega) (by omega), oL_eq, nI_1]
      · show zi (zuI s _ _ _) _ _ = _
        rw [zi_uI]
        by_cases q : j = i
        · rw [if_pos ⟨rfl, by omega⟩]
        · rw [if_neg (fun z => by omega)]; exact x3 j (by omega)
      · show zi (zuI s _ _ _) _ _ = _
        rw [zi_uI, if_neg (fun z => by omega)]; exact x4 j (by omega))
    (fun x hx => by
      obtain ⟨k, s⟩ := x
      obtain ⟨x1, x2, x3, x4⟩ := hx
      dsimp only at x1 x2 x3 x4
      subst x1
      refine ⟨s, ?_, x2, x3, x4⟩
      show bX12_wipe_2 (B 0) (nI g) (nI 256) s = _
      unfold bX12_wipe_2
      have hd : (256 : Int32) ≤ nI 256 := by decide
      exact if_pos hd) zF (0, σ) ⟨nI_0.symm, zsm.rf, fun j hj => absurd hj (Nat.not_lt_zero j), fun _ _ => rfl⟩ (by unfold zF; omega)
  refine ⟨s, ?_, p1, p2, p3⟩
  unfold fX12_wipe
  rw [oB_eq e]
theorem SCm.forget {s : zS} {cv : Nat → Nat} : SCm (zuI s (B 0) 7 0) B 0 0 cv := Or.inl ⟨by rw [zi_uI, if_pos ⟨rfl, rfl⟩], rfl, rfl⟩
theorem m_begin (h : zML σ B) (rg px : Nat → Nat → Nat) (w hh p : Int32) :
    ∃ s, ((badB w hh p ∧ fX12_begin σ (B 0) w hh p = some (-12, s) ∧ s = zuI σ (B 0) 0 0) ∨ (¬ badB w hh p ∧ fX12_begin σ (B 0) w hh p = some (1, s) ∧ zsB B PM FM σ s ∧ MR s B (abB w.toInt.toNat hh.toInt.toNat p.toInt.toNat) rg (pxW px 8) ∧ SCm s B 0 0 (fun _ => 0))) := by
  have t1 : (1 : Int32).toInt = 1 := by decide
  have t16 : (16 : Int32).toInt = 16 := by decide
  unfold badB fX12_begin
  rw [oPI_eq h.2.1]
  by_cases d1 : w < 1
  · rw [if_pos d1]
    rw [zlt, t1] at d1
    exact ⟨_, Or.inl ⟨Or.inl d1, rfl, rfl⟩⟩
  · rw [if_neg d1]
    rw [zlt, t1] at d1
    by_cases d2 : 16 < w
    · rw [if_pos d2]
      rw [zlt, t16] at d2
      exact ⟨_, Or.inl ⟨Or.inr (Or.inl d2), rfl, rfl⟩⟩
    · rw [if_neg d2]
      rw [zlt, t16] at d2
      by_cases d3 : hh < 1
      · rw [if_pos d3]
        rw [zlt, t1] at d3
        exact ⟨_, Or.inl ⟨Or.inr (Or.inr (Or.inl d3)), rfl, rfl⟩⟩
      · rw [if_neg d3]
        rw [zlt, t1] at d3
        by_cases d4 : 16 < hh
        · rw [if_pos d4]
          rw [zlt, t16] at d4
          exact ⟨_, Or.inl ⟨Or.inr (Or.inr (Or.inr (Or.inl d4))), rfl, rfl⟩⟩
        · rw [if_neg d4]
          rw [zlt, t16] at d4
          by_cases d5 : 0 ≤ p
          · rw [if_pos d5]
            rw [zle, zt0'] at d5
            have p2 : PM 2 := Or.inr (Or.inl rfl)
            have z7 : zsB B PM FM σ (zuI (zuI (zuI (zuI (zuI (zuI (zuI σ (B 0) 0 0) (B 2) 0 1) (B 2) 1 w) (B 2) 2 hh) (B 2) 3 p) (B 2) 4 0) (B 2) 5 0) := ((((((zsB.rf.u0 (Or.inl rfl) (Or.inl rfl)).uI h (by decide) p2 (by decide)).uI h (by decide) p2 (by decide)).uI h (by decide) p2 (by decide)).uI h (by decide) p2 (by decide)).uI h (by decide) p2 (by decide)).uI h (by decide) p2 (by decide)
            have hf : ∀ s2 : zS, (∀ k, zi s2 (B 2) k = zi (zuI (zuI (zuI (zuI (zuI (zuI (zuI σ (B 0) 0 0) (B 2) 0 1) (B 2) 1 w) (B 2) 2 hh) (B 2) 3 p) (B 2) 4 0) (B 2) 5 0) (B 2) k) → zi s2 (B 2) 0 = nI 1 ∧ zi s2 (B 2) 1 = w ∧ zi s2 (B 2) 2 = hh ∧ zi s2 (B 2) 3 = p ∧ zi s2 (B 2) 4 = nI 0 ∧ zi s2 (B 2) 5 = nI 0 := fun s2 hs => by
              refine ⟨?_, ?_, ?_, ?_, ?_, ?_⟩ <;> (rw [hs]; simp only [zi_uI, true_and, false_and, ↓reduceIte, Nat.reduceEqDiff]) <;> rfl
            have h7 : zML (zuI (zuI (zuI (zuI (zuI (zuI (zuI σ (B 0) 0 0) (B 2) 0 1) (B 2) 1 w) (B 2) 2 hh) (B 2) 3 p) (B 2) 4 0) (B 2) 5 0) B := h.u.u.u.u.u.u.u
            rw [zABs h.u (kk := 0) (k := 0) (by decide) rfl, zABs h.u.u (kk := 1) (k := 1) (by decide) rfl, zABs h.u.u.u (kk := 2) (k := 2) (by decide) rfl, zABs h.u.u.u.u (kk := 3) (k := 3) (by decide) rfl, zABs h.u.u.u.u.u (kk := 4) (k := 4) (by decide) rfl, zABs h.u.u.u.u.u.u (kk := 5) (k := 5) (by decide) rfl]
            generalize zuI (zuI (zuI (zuI (zuI (zuI (zuI σ (B 0) 0 0) (B 2) 0 1) (B 2) 1 w) (B 2) 2 hh) (B 2) 3 p) (B 2) 4 0) (B 2) 5 0 = s7 at z7 hf h7
            obtain ⟨s8, e8, m8, q8, r8⟩ := m_wipe h7 (g := 8) (by decide)
            have e8' : fX12_wipe s7 (B 0) 8 = some s8 := e8
            have h8 := h7.of m8
            have z8 : zsB B PM FM s7 s8 := zsB.of1 h7 (by decide) (Or.inr (Or.inr (Or.inr rfl))) (by decide) m8
            rw [oA_eq h7.2.1, oB_eq e8', oPZ_eq h8.2.1 (Or.inl rfl)]
            refine ⟨_, Or.inr ⟨by omega, rfl, (z7.trans z8).u0 (Or.inl rfl) (Or.inr rfl), ?_, SCm.forget⟩⟩
            obtain ⟨g0, g1, g2, g3, g4, g5⟩ := hf s7 (fun _ => rfl)
            have n2 : ∀ k, zi (zuI s8 (B 0) 7 0) (B 2) k = zi s7 (B 2) k := fun k => by rw [zi_uI, if_neg (fun z => absurd z.1 (h.ne 2 0)), m8.i (h.ne 2 4)]
            have n4 : ∀ k, zi (zuI s8 (B 0) 7 0) (B 4) k = zi s8 (B 4) k := fun k => by rw [zi_uI, if_neg (fun z => absurd z.1 (h.ne 4 0))]
            refine ⟨fun k hk => ?_, fun f hf' => absurd hf' (Nat.not_lt_zero f), fun f hf' => absurd hf' (Nat.not_lt_zero f), fun _ i hi => ?_⟩
            · rw [n2]
              rcases (show k = 0 ∨ k = 1 ∨ k = 2 ∨ k = 3 ∨ k = 4 ∨ k = 5 by omega) with rfl | rfl | rfl | rfl | rfl | rfl
              · exact g0
              · exact g1.trans (znI (by omega))
              · exact g2.trans (znI (by omega))
              · exact g3.trans (znI (by omega))
              · exact g4
              · exact g5
            · have hi' : i < w.toInt.toNat * hh.toInt.toNat := hi
              have : w.toInt.toNat * hh.toInt.toNat ≤ 16 * 16 := Nat.mul_le_mul (by omega) (by omega)
              rw [n4]
              unfold pxW
              rw [if_pos rfl]
              exact q8 i (by omega)
          · rw [if_neg d5]
            rw [zle, zt0'] at d5
            exact ⟨_, Or.inl ⟨Or.inr (Or.inr (Or.inr (Or.inr (by omega)))), rfl, rfl⟩⟩
/-- a region of a canvas of W and H -/
theorem m_isRegion (h : zML σ B) {r W H : Nat} (hr : r ≤ 1) (h1 : zi σ (B 2) (6 * r + 1) = nI W) (h2 : zi σ (B 2) (6 * r + 2) = nI H) (hW : W ≤ 16) (hH : H ≤ 16) (w hh x y : Int32) : ∃ v, fX12_isRegion σ (B 0) (nI r) w hh x y = some v ∧ ((v = 1 ∧ alw W H w hh x y 0 0) ∨ (v = 0 ∧ ¬ alw W H w hh x y 0 0)) := by
  have tW : (nI W).toInt = (W : Int) := zt_nI (by omega)
  have tH : (nI H).toInt = (H : Int) := zt_nI (by omega)
  have e1 : (6 : Int32) * nI r + 1 = nI (6 * r + 1) := by
    have : (6 : Int32) * nI r = nI (6 * r) := pk_mul 6 r
    rw [this]; exact nI_1 _
  have e2 : (6 : Int32) * nI r + 2 = nI (6 * r + 2) := by
    have : (6 : Int32) * nI r = nI (6 * r) := pk_mul 6 r
    rw [this]; exact nI_add _ 2
  have hrw := zrange w
  have hrh := zrange hh
  suffices HH : ∃ v, gX12_isRegion σ (B 0) (nI r) w hh x y = some v ∧ ((v = 1 ∧ alw W H w hh x y 0 0) ∨ (v = 0 ∧ ¬ alw W H w hh x y 0 0)) by
    obtain ⟨v, e, hv⟩ := HH
    refine ⟨v, ?_, hv⟩
    unfold fX12_isRegion
    rw [oB_eq e, oA_eq (by rcases hv with ⟨z, -⟩ | ⟨z, -⟩ <;> simp [z])]
  unfold gX12_isRegion alw
  rw [e1, e2, zAB h (k := 6 * r + 1) (by omega) rfl h1, zAB h (k := 6 * r + 2) (by omega) rfl h2, zt0']
  by_cases d1 : w ≤ 0
  · exact ⟨0, by rw [if_pos d1], Or.inr ⟨rfl, by rw [zle, zt0'] at d1; omega⟩⟩
  · rw [if_neg d1]
    rw [zle, zt0'] at d1
    by_cases d2 : hh ≤ 0
    · exact ⟨0, by rw [if_pos d2], Or.inr ⟨rfl, by rw [zle, zt0'] at d2; omega⟩⟩
    · rw [if_neg d2]
      rw [zle, zt0'] at d2
      by_cases d3 : x < 0
      · exact ⟨0, by rw [if_pos d3], Or.inr ⟨rfl, by rw [zlt, zt0'] at d3; omega⟩⟩
      · rw [if_neg d3]
        rw [zlt, zt0'] at d3
        by_cases d4 : y < 0
        · exact ⟨0, by rw [if_pos d4], Or.inr ⟨rfl, by rw [zlt, zt0'] at d4; omega⟩⟩
        · rw [if_neg d4]
          rw [zlt, zt0'] at d4
          by_cases d5 : nI W < w
          · exact ⟨0, by rw [if_pos d5], Or.inr ⟨rfl, by rw [zlt, tW] at d5; omega⟩⟩
          · rw [if_neg d5]
            rw [zlt, tW] at d5
            by_cases d6 : nI H < hh
            · exact ⟨0, by rw [if_pos d6], Or.inr ⟨rfl, by rw [zlt, tH] at d6; omega⟩⟩
            · rw [if_neg d6]
              rw [zlt, tH] at d6
              have tWw : (nI W - w).toInt = (W : Int) - w.toInt := by rw [zt_sub (by rw [tW]; omega) (by rw [tW]; omega), tW]
              have tHh : (nI H - hh).toInt = (H : Int) - hh.toInt := by rw [zt_sub (by rw [tH]; omega) (by rw [tH]; omega), tH]
              by_cases d7 : nI W - w < x
              · exact ⟨0, by rw [if_pos d7], Or.inr ⟨rfl, by rw [zlt, tWw] at d7; omega⟩⟩
              · rw [if_neg d7]
                rw [zlt, tWw] at d7
                by_cases d8 : nI H - hh < y
                · exact ⟨0, by rw [if_pos d8], Or.inr ⟨rfl, by rw [zlt, tHh] at d8; omega⟩⟩
                · rw [if_neg d8]
                  rw [zlt, tHh] at d8
                  exact ⟨1, rfl, Or.inl ⟨rfl, by omega⟩⟩
theorem m_setRegion (h : zML σ B) {r f : Nat} (hr : r ≤ 1) (hf : f < 8) (w hh x y d bl : Int32) : ∃ s, fX12_setRegion σ (B 0) (nI r) (nI f) w hh x y d bl = some s ∧ zsm (fun a => a = B 3) σ s ∧ (zi s (B 3) (48 * r + 6 * f + 0) = w ∧ zi s (B 3) (48 * r + 6 * f + 1) = hh ∧ zi s (B 3) (48 * r + 6 * f + 2) = x ∧ zi s (B 3) (48 * r + 6 * f + 3) = y ∧ zi s (B 3) (48 * r + 6 * f + 4) = d ∧ zi s (B 3) (48 * r + 6 * f + 5) = bl) ∧ ∀ j, (j < 48 * r + 6 * f ∨ 48 * r + 6 * f + 6 ≤ j) → zi s (B 3) j = zi σ (B 3) j := by
  have e1 : (48 : Int32) * nI r + (6 : Int32) * nI f = nI (48 * r + 6 * f) := by
    have q1 : (48 : Int32) * nI r = nI (48 * r) := pk_mul 48 r
    have q2 : (6 : Int32) * nI f = nI (6 * f) := pk_mul 6 f
    rw [q1, q2, nI_add]
  generalize hv : 48 * r + 6 * f = v at *
  have hv90 : v + 6 ≤ 96 := by omega
  refine ⟨zuI (zuI (zuI (zuI (zuI (zuI σ (B 3) v w) (B 3) (v + 1) hh) (B 3) (v + 2) x) (B 3) (v + 3) y) (B 3) (v + 4) d) (B 3) (v + 5) bl, ?_, ?_, ?_, ?_⟩
  · unfold fX12_setRegion
    rw [oL_eq, e1, zRGs h (k := v) (by omega) rfl, zRGs h.u (kk := nI v + 1) (k := v + 1) (by omega) (nI_1 v), zRGs h.u.u (kk := nI v + 2) (k := v + 2) (by omega) (nI_add v 2), zRGs h.u.u.u (kk := nI v + 3) (k := v + 3) (by omega) (nI_add v 3), zRGs h.u.u.u.u (kk := nI v + 4) (k := v + 4) (by omega) (nI_add v 4), zRGs h.u.u.u.u.u (kk := nI v + 5) (k := v + 5) (by omega) (nI_add v 5)]
  · have q : ∀ {s' : zS} {k : Nat} {u : Int32}, zsm (fun a => a = B 3) σ s' → zsm (fun a => a = B 3) σ (zuI s' (B 3) k u) := fun hs => zsm.uI (S := fun a => a = B 3) hs rfl
    exact q (q (q (q (q (q zsm.rf)))))
  · refine ⟨?_, ?_, ?_, ?_, ?_, ?_⟩ <;> simp only [zi_uI, true_and, Nat.add_zero, Nat.add_eq_left, Nat.left_eq_add, Nat.add_left_cancel_iff, ↓reduceIte, Nat.reduceEqDiff]
  · intro j hj
    rw [zi_uI, if_neg (fun z => by omega), zi_uI, if_neg (fun z => by omega), zi_uI, if_neg (fun z => by omega), zi_uI, if_neg (fun z => by omega), zi_uI, if_neg (fun z => by omega), zi_uI, if_neg (fun z => by omega)]
theorem m_frame (h : zML σ B) (hR : MR σ B ab rg px) (hw : WFr ab rg) (w hh x y d bl : Int32) :
    ∃ s, ((ab 0 = 0 ∧ fX12_frame σ (B 0) w hh x y d bl = some (-13, s) ∧ s = zuI σ (B 0) 0 0) ∨ (ab 0 ≠ 0 ∧ ¬ alw (ab 1) (ab 2) w hh x y d bl ∧ fX12_frame σ (B 0) w hh x y d bl = some (-12, s) ∧ s = zuI σ (B 0) 0 0) ∨ (ab 0 ≠ 0 ∧ alw (ab 1) (ab 2) w hh x y d bl ∧ ab 4 = 8 ∧ fX12_frame σ (B 0) w hh x y d bl = some (-14, s) ∧ s = zuI σ (B 0) 0 0) ∨
      (ab 0 ≠ 0 ∧ alw (ab 1) (ab 2) w hh x y d bl ∧ ab 4 < 8 ∧ fX12_frame σ (B 0) w hh x y d bl = some (nI (ab 4 + 1), s) ∧ zsB B PM FM σ s ∧ MR s B (abF ab) (rgF rg (ab 4) (frg w hh x y d bl)) (pxW px (ab 4)) ∧ SCm s B 0 0 (fun _ => 0))) := by
  have hbb := hw.b
  have t1 : (1 : Int32).toInt = 1 := by decide
  have t2 : (2 : Int32).toInt = 2 := by decide
  have e0 : nI (ab 0) = 0 ↔ ab 0 = 0 := nI_eq (b := 0) (by omega) (by decide)
  have hR1 := hR.u0 h (k := 0) (v := 0)
  have h1 : zML (zuI σ (B 0) 0 0) B := h.u
  have z1 : zsB B PM FM σ (zuI σ (B 0) 0 0) := zsB.rf.u0 (Or.inl rfl) (Or.inl rfl)
  unfold fX12_frame
  rw [oPI_eq h.2.1]
  generalize zuI σ (B 0) 0 0 = s1 at *
  have g4 : zi s1 (B 2) 4 = nI (ab 4) := hR1.1 4 (by decide)
  rw [zAB h1 (kk := 0) (k := 0) (by decide) rfl (hR1.1 0 (by decide))]
  by_cases d0 : ab 0 = 0
  · rw [if_pos (e0.mpr d0)]
    exact ⟨_, Or.inl ⟨d0, rfl, rfl⟩⟩
  · rw [if_neg (fun z => d0 (e0.mp z)), oA_eq h1.2.1]
    obtain ⟨v, ev, hv⟩ := m_isRegion (r := 0) h1 (by decide) (hR1.1 1 (by decide)) (hR1.1 2 (by decide)) (by omega) (by omega) w hh x y
    have ev' : fX12_isRegion s1 (B 0) 0 w hh x y = some v := ev
    rw [oB_eq ev']
    have hal0 : ∀ z : Int32, (0 : Int32).toInt = 0 := fun _ => zt0'
    rcases hv with ⟨v1, hal⟩ | ⟨v0, hal⟩
    · subst v1
      rw [if_neg (by decide)]
      unfold alw at hal
      rw [zt0'] at hal
      by_cases d1 : d < 0
      · rw [if_pos d1]
        exact ⟨_, Or.inr (Or.inl ⟨d0, by unfold alw; rw [zlt, zt0'] at d1; omega, rfl, rfl⟩)⟩
      · rw [if_neg d1]
        rw [zlt, zt0'] at d1
        by_cases d2 : 2 < d
        · rw [if_pos d2]
          exact ⟨_, Or.inr (Or.inl ⟨d0, by unfold alw; rw [zlt, t2] at d2; omega, rfl, rfl⟩)⟩
        · rw [if_neg d2]
          rw [zlt, t2] at d2
          by_cases d3 : bl < 0
          · rw [if_pos d3]
            exact ⟨_, Or.inr (Or.inl ⟨d0, by unfold alw; rw [zlt, zt0'] at d3; omega, rfl, rfl⟩)⟩
          · rw [if_neg d3]
            rw [zlt, zt0'] at d3
            by_cases d4 : bl ≤ 1
            · rw [if_pos d4, zAB h1 (kk := 4) (k := 4) (by decide) rfl g4]
              rw [zle, t1] at d4
              have hall : alw (ab 1) (ab 2) w hh x y d bl := by unfold alw; omega
              have e8 : nI (ab 4) = 8 ↔ ab 4 = 8 := nI_eq (b := 8) (by omega) (by decide)
              by_cases d5 : ab 4 = 8
              · rw [if_pos (e8.mpr d5)]
                exact ⟨_, Or.inr (Or.inr (Or.inl ⟨d0, hall, d5, rfl, rfl⟩))⟩
              · have d5' : ab 4 < 8 := by omega
                rw [if_neg (fun z => d5 (e8.mp z)), zAB h1 (kk := 4) (k := 4) (by decide) rfl g4, oA_eq h1.2.1]
                obtain ⟨s2, e2, m2, q2, r2⟩ := m_setRegion (r := 0) h1 (by decide) d5' w hh x y d bl
                have e2' : fX12_setRegion s1 (B 0) 0 (nI (ab 4)) w hh x y d bl = some s2 := e2
                have h2 := h1.of m2
                have z2 : zsB B PM FM s1 s2 := zsB.of1 h1 (by decide) (Or.inr (Or.inr (Or.inl rfl))) (by decide) m2
                have g42 : zi s2 (B 2) 4 = nI (ab 4) := (m2.i (h1.ne 2 3) 4).trans g4
                rw [oB_eq e2', zAB h2 (kk := 4) (k := 4) (by decide) rfl g42, oA_eq h2.2.1]
                obtain ⟨s3, e3, m3, q3, r3⟩ := m_wipe h2 (g := ab 4) (by omega)
                have h3 := h2.of m3
                have z3 : zsB B PM FM s2 s3 := zsB.of1 h2 (by decide) (Or.inr (Or.inr (Or.inr rfl))) (by decide) m3
                have g43 : zi s3 (B 2) 4 = nI (ab 4) := (m3.i (h1.ne 2 4) 4).trans g42
                have hst : ∀ f : zS → Option (Int32 × zS), oGR s3 12 (B 0) 4 (fun a5 => oLd s3 21 a5 4 (fun x6 => oSt s3 21 a5 4 (x6 + 1) f)) = f (zuI s3 (B 2) 4 (nI (ab 4 + 1))) := fun f => by
                  obtain ⟨w0, w1, w2, w3⟩ := h3.r4
                  have : nI (ab 4) + 1 = nI (ab 4 + 1) := nI_1 _
                  have l1 : ∀ f : Int32 → Option (Int32 × zS), oLd s3 21 (B 2) 4 f = f (nI (ab 4)) := fun f => oLd_eq (n := 4) w2 (by rw [w3]; decide) (by decide) g43
                  have l2 : ∀ (v : Int32) (f : zS → Option (Int32 × zS)), oSt s3 21 (B 2) 4 v f = f (zuI s3 (B 2) 4 v) := fun v f => oSt_eq (n := 4) w2 (by rw [w3]; decide) (by decide)
                  rw [oGR_eq w0 w1, l1, l2, this]
                have h4 : zML (zuI s3 (B 2) 4 (nI (ab 4 + 1))) B := h3.u
                have z4 : zsB B PM FM σ (zuI (zuI s3 (B 2) 4 (nI (ab 4 + 1))) (B 0) 7 0) := ((((z1.trans z2).trans z3).uI h (by decide) (Or.inr (Or.inl rfl)) (by decide)).u0 (Or.inl rfl) (Or.inr rfl))
                have n2 : ∀ k, zi (zuI (zuI s3 (B 2) 4 (nI (ab 4 + 1))) (B 0) 7 0) (B 2) k = if k = 4 then nI (ab 4 + 1) else zi s1 (B 2) k := fun k => by
                  rw [zi_uI, if_neg (fun z => absurd z.1 (h.ne 2 0)), zi_uI]
                  by_cases q : k = 4
                  · rw [if_pos ⟨rfl, q⟩, if_pos q]
                  · rw [if_neg (fun z => q z.2), if_neg q, m3.i (h.ne 2 4), m2.i (h.ne 2 3)]
                have n3 : ∀ k, zi (zuI (zuI s3 (B 2) 4 (nI (ab 4 + 1))) (B 0) 7 0) (B 3) k = zi s2 (B 3) k := fun k => by
                  rw [zi_uI, if_neg (fun z => absurd z.1 (h.ne 3 0)), zi_uI, if_neg (fun z => absurd z.1 (h.ne 3 2)), m3.i (h.ne 3 4)]
                have n4 : ∀ k, zi (zuI (zuI s3 (B 2) 4 (nI (ab 4 + 1))) (B 0) 7 0) (B 4) k = zi s3 (B 4) k := fun k => by
                  rw [zi_uI, if_neg (fun z => absurd z.1 (h.ne 4 0)), zi_uI, if_neg (fun z => absurd z.1 (h.ne 4 2))]
                have h5 : zML (zuI (zuI s3 (B 2) 4 (nI (ab 4 + 1))) (B 0) 7 0) B := h4.u
                refine ⟨_, Or.inr (Or.inr (Or.inr ⟨d0, hall, d5', ?_, z4, ?_, SCm.forget⟩))⟩
                · rw [oB_eq e3, hst, oPZ_eq h4.2.1 (Or.inl rfl), zAB h5 (kk := 4) (k := 4) (by decide) rfl (n2 4), if_pos rfl]
                · have e4 : abF ab 4 = ab 4 + 1 := rfl
                  have en : ∀ k, k ≠ 4 → abF ab k = ab k := fun k hk => by unfold abF; rw [if_neg hk]
                  refine ⟨fun k hk => ?_, fun f hf k hk => ?_, fun f hf i hi => ?_, fun h5 i hi => ?_⟩
                  · rw [n2]
                    by_cases q : k = 4
                    · rw [if_pos q, q, e4]
                    · rw [if_neg q, en k q]; exact hR1.1 k hk
                  · rw [e4] at hf
                    rw [n3]
                    unfold rgF
                    by_cases q : f = ab 4
                    · subst q
                      rw [if_pos rfl]
                      obtain ⟨p0, p1, p2, p3, p4, p5⟩ := q2
                      have hz : 48 * 0 + 6 * ab 4 = 6 * ab 4 := by omega
                      rw [hz] at p0 p1 p2 p3 p4 p5
                      rcases (show k = 0 ∨ k = 1 ∨ k = 2 ∨ k = 3 ∨ k = 4 ∨ k = 5 by omega) with rfl | rfl | rfl | rfl | rfl | rfl
                      · exact p0.trans (znI (by omega))
                      · exact p1.trans (znI (by omega))
                      · exact p2.trans (znI (by omega))
                      · exact p3.trans (znI (by omega))
                      · exact p4.trans (znI (by omega))
                      · exact p5.trans (znI (by omega))
                    · rw [if_neg q, r2 _ (by omega)]
                      exact hR1.2.1 f (by omega) k hk
                  · rw [e4] at hf
                    rw [n4]
                    unfold rgF at hi
                    unfold pxW
                    by_cases q : f = ab 4
                    · subst q
                      rw [if_pos rfl, if_pos rfl] at hi
                      have hi' : i < w.toInt.toNat * hh.toInt.toNat := hi
                      have : w.toInt.toNat * hh.toInt.toNat ≤ 16 * 16 := Nat.mul_le_mul (by omega) (by omega)
                      rw [if_pos rfl]
                      exact q3 i (by omega)
                    · rw [if_neg q, if_neg q] at hi
                      have hb256 := ((hw.rgn (f := f) (by omega)).b (by omega) (by omega)).2.2.2.2.2.2
                      rw [if_neg q, r3 _ (by omega), m2.i (h.ne 4 3)]
                      exact hR1.2.2.1 f (by omega) i hi
                  · rw [en 1 (by decide), en 2 (by decide)] at hi
                    rw [en 5 (by decide)] at h5
                    have : ab 1 * ab 2 ≤ 16 * 16 := Nat.mul_le_mul (by omega) (by omega)
                    rw [n4]
                    unfold pxW
                    rw [if_neg (by omega), r3 _ (by omega), m2.i (h.ne 4 3)]
                    exact hR1.2.2.2 h5 i hi
            · rw [if_neg d4]
              exact ⟨_, Or.inr (Or.inl ⟨d0, by unfold alw; rw [zle, t1] at d4; omega, rfl, rfl⟩)⟩
    · subst v0
      rw [if_pos rfl]
      refine ⟨_, Or.inr (Or.inl ⟨d0, fun z => hal ?_, rfl, rfl⟩)⟩
      unfold alw at z ⊢
      rw [zt0']
      omega
end PMCALLS
