/-! the class's pixel, and the invariant point by point -/
def gpix (σ : zS) (p0 : Nat) (x y : Int32) : Option (Option Int32) := oGR σ 11 p0 3 (fun a1 => oA (zk σ a1 = 7) (oB (fX7_has σ a1 x y) (fun r => (if r = 0 then some none else oGR σ 11 p0 3 (fun a2 => oGR σ 7 a2 0 (fun a3 => oGR σ 11 p0 3 (fun a4 => oGI σ 7 a4 2 (fun w => oLd σ 21 a3 (y * w + x) (fun v => some (some v))))))))))
def zAG (σ s : zS) (a : Nat) : Prop := zk s a = zk σ a ∧ zn s a = zn σ a ∧ (∀ j, zi s a j = zi σ a j) ∧ ∀ j, zr s a j = zr σ a j
section PPIX
theorem oB_e {α ρ : Type} {a : α} {f : α → Option ρ} : oB (some a) f = f a := rfl
variable {σ s t : zS} {C B : Nat → Nat} {sw sh : Nat} {cv : Nat → Nat}
theorem s_has (h : CLL σ C) (b1 : sw ≤ 16) (b2 : sh ≤ 16) (hS : SCc σ C sw sh cv) (x y : Int32) : (pixS sw sh x y ∧ fX7_has σ (C 68) x y = some 1) ∨ (¬ pixS sw sh x y ∧ fX7_has σ (C 68) x y = some 0) := by
  have l1 := h.scl.1
  have tW : (nI sw).toInt = (sw : Int) := zt_nI (by omega)
  have tH : (nI sh).toInt = (sh : Int) := zt_nI (by omega)
  have q1 : oB (some (1 : Int32)) (fun r => oA (r = 0 ∨ r = 1) (some r)) = some 1 := by rw [oB_e]; exact if_pos (Or.inr rfl)
  have q0 : oB (some (0 : Int32)) (fun r => oA (r = 0 ∨ r = 1) (some r)) = some 0 := by rw [oB_e]; exact if_pos (Or.inl rfl)
  unfold fX7_has gX7_has pixS
  by_cases d1 : x < 0
  · rw [if_pos d1]
    exact Or.inr ⟨by rw [zlt, zt0'] at d1; omega, q0⟩
  · rw [if_neg d1, oGI_eq l1 hS.1]
    rw [zlt, zt0'] at d1
    by_cases d3 : nI sw ≤ x
    · rw [if_pos d3]
      exact Or.inr ⟨by rw [zle, tW] at d3; omega, q0⟩
    · rw [if_neg d3]
      rw [zle, tW] at d3
      by_cases d2 : y < 0
      · rw [if_pos d2]
        exact Or.inr ⟨by rw [zlt, zt0'] at d2; omega, q0⟩
      · rw [if_neg d2, oGI_eq l1 hS.2.1]
        rw [zlt, zt0'] at d2
        by_cases d4 : nI sh ≤ y
        · rw [if_pos d4]
          exact Or.inr ⟨by rw [zle, tH] at d4; omega, q0⟩
        · rw [if_neg d4]
          rw [zle, tH] at d4
          exact Or.inl ⟨by omega, q1⟩
theorem c_pixel (h : CLL σ C) (b1 : sw ≤ 16) (b2 : sh ≤ 16) (hS : SCc σ C sw sh cv) (x y : Int32) : (pixS sw sh x y ∧ gpix σ (C 0) x y = some (some (nI (cv (sw * y.toInt.toNat + x.toInt.toNat))))) ∨ (¬ pixS sw sh x y ∧ gpix σ (C 0) x y = some none) := by
  have l0 : zk σ (C 0) = 11 := h.2.1.1
  have r3 : zr σ (C 0) 3 = some (C 68) := h.2.1.2.2.2.2
  obtain ⟨l1, r0, -, ⟨k69, n69⟩, -⟩ := h.scl
  unfold gpix
  rw [oGR_eq l0 r3, oA_eq l1]
  rcases s_has h b1 b2 hS x y with ⟨hp, e⟩ | ⟨hp, e⟩
  · refine Or.inl ⟨hp, ?_⟩
    rw [e, oB_e, if_neg (show ¬ (1 : Int32) = 0 by decide), oGR_eq l0 r3, oGR_eq l1 r0, oGR_eq l0 r3, oGI_eq l1 hS.1]
    obtain ⟨p1, p2, p3, p4⟩ := hp
    have ex : x = nI x.toInt.toNat := znI (by omega)
    have ey : y = nI y.toInt.toNat := znI (by omega)
    have hix : sw * y.toInt.toNat + x.toInt.toNat < sw * sh := by
      have q1 : sw * (y.toInt.toNat + 1) ≤ sw * sh := Nat.mul_le_mul_left _ (by omega)
      rw [Nat.mul_succ] at q1
      omega
    have hwh : sw * sh ≤ 16 * 16 := Nat.mul_le_mul b1 b2
    have eidx : y * nI sw + x = nI (sw * y.toInt.toNat + x.toInt.toNat) := by
      conv => lhs; rw [ex, ey]
      rw [pk_mul, nI_add, Nat.mul_comm]
    rw [eidx, oLd_eq k69 (by rw [n69]; omega) (by omega) (hS.2.2 _ hix)]
  · refine Or.inr ⟨hp, ?_⟩
    rw [e, oB_e, if_pos rfl]
/-- the two answers at a pixel -/
theorem v_pixel (h : INV σ C B) (x y : Int32) : (∃ v, gpix σ (C 0) x y = some (some v) ∧ fX12_pixel σ (B 0) x y = some (v, zuI σ (B 0) 0 0) ∧ INV (zuI σ (B 0) 0 0) C B ∧ FR C B σ (zuI σ (B 0) 0 0)) ∨ (gpix σ (C 0) x y = some none ∧ fX12_pixel σ (B 0) x y = some (0, zuI σ (B 0) 0 1) ∧ INV (zuI σ (B 0) 0 1) C B ∧ FR C B σ (zuI σ (B 0) 0 1)) := by
  obtain ⟨hd, b, b', tp, ab, rg, px, sw, sh, cv, o, pl, hb, hb', hn, hw, hC, hB⟩ := id h
  have hb1 : sw ≤ 16 ∧ sh ≤ 16 := by
    rcases hB.2.2.2.1 with ⟨-, y1, y2⟩ | ⟨-, ⟨-, y1, -, y2⟩, -⟩ <;> exact ⟨by omega, by omega⟩
  have hm := m_pixel hB.1 hB.2.2.2.1 x y
  rcases c_pixel hC.1 hb1.1 hb1.2 hC.2.2.2.2.2.2.1 x y with ⟨hp, e⟩ | ⟨hp, e⟩
  · refine Or.inl ⟨_, e, ?_, INV.mk hd zsO.rf hb hb' hn hw hC (zsB.z σ).all hB.z⟩
    rcases hm with ⟨-, e2⟩ | ⟨hp', -⟩
    · exact e2
    · exact absurd hp hp'
  · refine Or.inr ⟨e, ?_, INV.mk hd zsO.rf hb hb' hn hw hC (zsB.z σ).all hB.z⟩
    rcases hm with ⟨hp', -⟩ | ⟨-, e2⟩
    · exact absurd hp' hp
    · exact e2
theorem v_thrown (h : INV σ C B) : zk σ (B 0) = 12 := by
  obtain ⟨hd, b, b', tp, ab, rg, px, sw, sh, cv, o, pl, hb, hb', hn, hw, hC, hB⟩ := id h
  exact hB.1.2.1
theorem v_main (h : INV σ C B) : zk σ (C 0) = 11 := by
  obtain ⟨hd, b, b', tp, ab, rg, px, sw, sh, cv, o, pl, hb, hb', hn, hw, hC, hB⟩ := id h
  exact hC.1.2.1.1
theorem INV.pt (h : INV σ C B) (q : ∀ i, i < 71 → zAG σ s (C i)) (p : ∀ j, j < 12 → zAG σ s (B j)) : INV s C B := by
  obtain ⟨hd, b, b', tp, ab, rg, px, sw, sh, cv, o, pl, hb, hb', hn, hw, hC, hB⟩ := id h
  have hlt := hb.lt
  refine ⟨hd, b, b', tp, ab, rg, px, sw, sh, cv, o, pl, hb, hb', hn, hw, ?_, ?_⟩
  · obtain ⟨g1, g2, g3, g4, g5, g6, g7, g8, g9⟩ := hC
    refine ⟨g1.pt (fun i hi => (q i hi).1) (fun i hi => (q i hi).2.1) (fun i hi => (q i hi).2.2.2), ((q 0 (by decide)).2.2.2 4).trans g2, ((q 5 (by decide)).2.2.2 3).trans g3, fun k hk => ((q 2 (by decide)).2.2.1 k).trans (g4 k hk), g5.pt (q 3 (by decide)).1 (q 4 (by decide)).1 (q 4 (by decide)).2.1 ((q 3 (by decide)).2.2.2 0) ((q 3 (by decide)).2.2.1 1) (q 4 (by decide)).2.2.1, ?_, ⟨((q 68 (by decide)).2.2.1 2).trans g7.1, ((q 68 (by decide)).2.2.1 3).trans g7.2.1, fun i hi => ((q 69 (by decide)).2.2.1 i).trans (g7.2.2 i hi)⟩, g8.pt (q 66 (by decide)).1 (q 67 (by decide)).1 (q 67 (by decide)).2.1 ((q 66 (by decide)).2.2.2 0) ((q 66 (by decide)).2.2.1 1) (q 67 (by decide)).2.2.1, ((q 0 (by decide)).2.2.1 5).trans g9⟩
    have h4 : ab 4 ≤ 8 := hw.b.2.2.2.1
    obtain ⟨⟨z1, z2, z3, z4, z5, z6⟩, ⟨z7, z8⟩, z9, z10, z11⟩ := g6
    have qq : ∀ j, j < 20 → ∀ k, zi s (C (b + j)) k = zi σ (C (b + j)) k := fun j hj k => (q (b + j) (by omega)).2.2.1 k
    exact ⟨⟨(qq 0 (by decide) 2).trans z1, (qq 0 (by decide) 3).trans z2, (qq 0 (by decide) 4).trans z3, (qq 0 (by decide) 5).trans z4, (qq 0 (by decide) 6).trans z5, (qq 0 (by decide) 7).trans z6⟩, ⟨(qq 18 (by decide) 1).trans z7, (qq 18 (by decide) 2).trans z8⟩, fun f hf k hk => (qq (2 + 2 * f) (by omega) _).trans (z9 f hf k hk), fun f hf i hi => (qq (3 + 2 * f) (by omega) _).trans (z10 f hf i hi), fun h5 i hi => (qq 19 (by decide) _).trans (z11 h5 i hi)⟩
  · obtain ⟨h1, h2, h3, h4, h5, h6⟩ := hB
    have pi : ∀ j, j < 12 → ∀ k, zi s (B j) k = zi σ (B j) k := fun j hj k => (p j hj).2.2.1 k
    have pk : ∀ j, j < 12 → zk s (B j) = zk σ (B j) := fun j hj => (p j hj).1
    have pn : ∀ j, j < 12 → zn s (B j) = zn σ (B j) := fun j hj => (p j hj).2.1
    have pr : ∀ k, zr s (B 0) k = zr σ (B 0) k := (p 0 (by decide)).2.2.2
    refine ⟨?_, ⟨(pi 0 (by decide) 1).trans h2.1, h2.2.1, fun j hj => ⟨(pi 1 (by decide) j).trans (h2.2.2 j hj).1, (h2.2.2 j hj).2⟩⟩, h3.of (pi 2 (by decide)) (pi 3 (by decide)) (pi 4 (by decide)), ?_, ⟨(pi 0 (by decide) 12).trans h5.1, h5.2.1, fun j hj => ?_⟩, (pi 0 (by decide) 3).trans h6⟩
    · unfold zML
      rw [pk 0 (by decide), pk 1 (by decide), pk 2 (by decide), pk 3 (by decide), pk 4 (by decide), pk 5 (by decide), pk 6 (by decide), pk 7 (by decide), pk 8 (by decide), pk 9 (by decide), pk 10 (by decide), pk 11 (by decide), pn 1 (by decide), pn 2 (by decide), pn 3 (by decide), pn 4 (by decide), pn 5 (by decide), pn 6 (by decide), pn 7 (by decide), pn 8 (by decide), pn 9 (by decide), pn 10 (by decide), pn 11 (by decide)]
      simp only [pr]
      exact h1
    · rcases h4 with ⟨y1, y2⟩ | ⟨y1, y2, y3, y4, y5⟩
      · exact Or.inl ⟨(pi 0 (by decide) 7).trans y1, y2⟩
      · exact Or.inr ⟨(pi 0 (by decide) 7).trans y1, y2, (pi 0 (by decide) 8).trans y3, (pi 0 (by decide) 9).trans y4, fun i hi => (pi 5 (by decide) i).trans (y5 i hi)⟩
    · unfold zby
      rw [pi 7 (by decide)]
      exact h5.2.2 j hj
end PPIX
