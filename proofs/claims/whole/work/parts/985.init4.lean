/-! constructors: the reference; the start of the law -/
def zck (σ : zS) (a k : Nat) (R : Nat → Option Nat) : Prop := zk σ a = k ∧ ∀ j, zr σ a j = R j
section PINIT4
variable {σ s t : zS} {a p c k n : Nat} {R : Nat → Option Nat}
theorem i_arrk {q N j : Nat} (h : zck σ a k R) (ha : a < zx σ) : zx (zuR (zuN σ q N) a j (some (zx σ))) = zx σ + 1 ∧ zol a σ (zuR (zuN σ q N) a j (some (zx σ))) ∧ zck (zuR (zuN σ q N) a j (some (zx σ))) a k (zRs R j (zx σ)) ∧ zcl (zuR (zuN σ q N) a j (some (zx σ))) (zx σ) q N zNo ∧ zk (zuN σ q N) a = k ∧ ∀ i, zi (zuR (zuN σ q N) a j (some (zx σ))) a i = zi σ a i := by
  obtain ⟨n1, n2⟩ := z_new σ q N
  obtain ⟨g1, g2, g3, g4⟩ := n2 (zx σ) a ha (by omega)
  have ho : zol a (zuN σ q N) (zuR (zuN σ q N) a j (some (zx σ))) := fun y _ hn => ⟨rfl, rfl, fun _ => rfl, fun i => by rw [zr_uR, if_neg (fun z => hn z.1)]⟩
  refine ⟨rfl, (n2 a).tr (by rw [zx_uN]; omega) ho (Or.inl rfl), ⟨g1.trans h.1, fun i => ?_⟩, n1.of ho (by rw [zx_uN]; omega) (by omega), g1.trans h.1, fun i => g3 i⟩
  rw [zr_uR]
  unfold zRs
  by_cases e : i = j
  · rw [if_pos ⟨rfl, e⟩, if_pos e]
  · rw [if_neg (fun z => e z.2), if_neg e]
    exact (g4 i).trans (h.2 i)
theorem i_model (h : zcl σ p 12 0 zNo) (hp : p < zx σ) : ∃ s, fX12_init σ p = some s ∧ zx s = zx σ + 11 ∧ zol p σ s ∧ BS s (Bm p (zx σ)) [] (fun _ => 0) (fun _ _ => 0) (fun _ _ => 0) 0 0 (fun _ => 0) [] (-1) := by
  have hk : zck σ p 12 zNo := ⟨h.1, h.2.2.2⟩
  have hi0 := h.2.2.1
  unfold fX12_init
  obtain ⟨x1, S1, h1, c1, k1, i1⟩ := i_arrk (q := 20) (N := 8000) (j := 2) hk hp
  rw [oNa_eq (N := 8000) (NN := 8000) rfl (by decide), oPR_eq k1]
  generalize zuR (zuN σ 20 8000) p 2 (some (zx σ)) = u1 at x1 S1 h1 c1 i1
  rw [oPI_eq h1.1]
  have S1' : zol p u1 (zuI u1 p 3 (-1)) := fun y _ hn => ⟨rfl, rfl, fun j => by rw [zi_uI, if_neg (fun z => hn z.1)], fun _ => rfl⟩
  have h1' : zck (zuI u1 p 3 (-1)) p 12 (zRs zNo 2 (zx σ)) := h1
  have i1' : ∀ j, zi (zuI u1 p 3 (-1)) p j = if j = 3 then -1 else 0 := fun j => by
    rw [zi_uI]
    by_cases y : j = 3
    · rw [if_pos ⟨rfl, y⟩, if_pos y]
    · rw [if_neg (fun z => y z.2), if_neg y, i1 j, hi0 j]
  have x1' : zx (zuI u1 p 3 (-1)) = zx σ + 1 := x1
  generalize zuI u1 p 3 (-1) = v1 at S1' h1' i1' x1'
  obtain ⟨x2, S2, h2, c2, k2, i2⟩ := i_arrk (q := 21) (N := 12) (j := 4) h1' (by omega)
  rw [oNa_eq (N := 12) (NN := 12) rfl (by decide), oPR_eq k2]
  generalize zuR (zuN v1 21 12) p 4 (some (zx v1)) = v2 at x2 S2 h2 c2 i2
  obtain ⟨x3, S3, h3, c3, k3, i3⟩ := i_arrk (q := 21) (N := 96) (j := 5) h2 (by omega)
  rw [oNa_eq (N := 96) (NN := 96) rfl (by decide), oPR_eq k3]
  generalize zuR (zuN v2 21 96) p 5 (some (zx v2)) = v3 at x3 S3 h3 c3 i3
  obtain ⟨x4, S4, h4, c4, k4, i4⟩ := i_arrk (q := 21) (N := 4608) (j := 6) h3 (by omega)
  rw [oNa_eq (N := 4608) (NN := 4608) rfl (by decide), oPR_eq k4]
  generalize zuR (zuN v3 21 4608) p 6 (some (zx v3)) = v4 at x4 S4 h4 c4 i4
  obtain ⟨x5, S5, h5, c5, k5, i5⟩ := i_arrk (q := 21) (N := 256) (j := 10) h4 (by omega)
  rw [oNa_eq (N := 256) (NN := 256) rfl (by decide), oPR_eq k5]
  generalize zuR (zuN v4 21 256) p 10 (some (zx v4)) = v5 at x5 S5 h5 c5 i5
  obtain ⟨x6, S6, h6, c6, k6, i6⟩ := i_arrk (q := 21) (N := 256) (j := 11) h5 (by omega)
  rw [oNa_eq (N := 256) (NN := 256) rfl (by decide), oPR_eq k6]
  generalize zuR (zuN v5 21 256) p 11 (some (zx v5)) = v6 at x6 S6 h6 c6 i6
  obtain ⟨x7, S7, h7, c7, k7, i7⟩ := i_arrk (q := 20) (N := 14000) (j := 13) h6 (by omega)
  rw [oNa_eq (N := 14000) (NN := 14000) rfl (by decide), oPR_eq k7]
  generalize zuR (zuN v6 20 14000) p 13 (some (zx v6)) = v7 at x7 S7 h7 c7 i7
  obtain ⟨x8, S8, h8, c8, k8, i8⟩ := i_arrk (q := 20) (N := 8000) (j := 15) h7 (by omega)
  rw [oNa_eq (N := 8000) (NN := 8000) rfl (by decide), oPR_eq k8]
  generalize zuR (zuN v7 20 8000) p 15 (some (zx v7)) = v8 at x8 S8 h8 c8 i8
  obtain ⟨x9, S9, h9, c9, k9, i9⟩ := i_arrk (q := 20) (N := 1100) (j := 20) h8 (by omega)
  rw [oNa_eq (N := 1100) (NN := 1100) rfl (by decide), oPR_eq k9]
  generalize zuR (zuN v8 20 1100) p 20 (some (zx v8)) = v9 at x9 S9 h9 c9 i9
  obtain ⟨x10, S10, h10, c10, k10, i10⟩ := i_arrk (q := 21) (N := 380) (j := 21) h9 (by omega)
  rw [oNa_eq (N := 380) (NN := 380) rfl (by decide), oPR_eq k10]
  generalize zuR (zuN v9 21 380) p 21 (some (zx v9)) = v10 at x10 S10 h10 c10 i10
  obtain ⟨x11, S11, h11, c11, k11, i11⟩ := i_arrk (q := 21) (N := 380) (j := 22) h10 (by omega)
  rw [oNa_eq (N := 380) (NN := 380) rfl (by decide), oPR_eq k11]
  generalize zuR (zuN v10 21 380) p 22 (some (zx v10)) = v11 at x11 S11 h11 c11 i11
  rw [oPI_eq h11.1]
  have S12 : zol p v11 (zuI v11 p 1 0) := fun y _ hn => ⟨rfl, rfl, fun j => by rw [zi_uI, if_neg (fun z => hn z.1)], fun _ => rfl⟩
  have k12 : zk (zuI v11 p 1 0) p = 12 := h11.1
  have r12 := h11.2
  have r12' : ∀ j, zr (zuI v11 p 1 0) p j = zr v11 p j := fun _ => rfl
  have iall : ∀ j, zi v11 p j = if j = 3 then -1 else 0 := fun j => (i11 j).trans ((i10 j).trans ((i9 j).trans ((i8 j).trans ((i7 j).trans ((i6 j).trans ((i5 j).trans ((i4 j).trans ((i3 j).trans ((i2 j).trans (i1' j))))))))))
  have i12 : ∀ j, zi (zuI v11 p 1 0) p j = if j = 3 then -1 else 0 := fun j => by
    rw [zi_uI]
    by_cases y : j = 1
    · rw [if_pos ⟨rfl, y⟩, y]; rfl
    · rw [if_neg (fun z => y z.2)]; exact iall j
  have X12 : zx (zuI v11 p 1 0) = zx σ + 11 := by show zx v11 = _; omega
  generalize zuI v11 p 1 0 = w at S12 k12 r12' i12 X12
  have Z11 := S12
  have Z10 := S11.tr (by omega) Z11 (Or.inl rfl)
  have Z9 := S10.tr (by omega) Z10 (Or.inl rfl)
  have Z8 := S9.tr (by omega) Z9 (Or.inl rfl)
  have Z7 := S8.tr (by omega) Z8 (Or.inl rfl)
  have Z6 := S7.tr (by omega) Z7 (Or.inl rfl)
  have Z5 := S6.tr (by omega) Z6 (Or.inl rfl)
  have Z4 := S5.tr (by omega) Z5 (Or.inl rfl)
  have Z3 := S4.tr (by omega) Z4 (Or.inl rfl)
  have Z2 := S3.tr (by omega) Z3 (Or.inl rfl)
  have Z1 := S2.tr (by omega) Z2 (Or.inl rfl)
  have Z0' := S1'.tr (by omega) Z1 (Or.inl rfl)
  have Z0 := S1.tr (by omega) Z0' (Or.inl rfl)
  have y2 : zx v2 = zx σ + 2 := by omega
  have y3 : zx v3 = zx σ + 3 := by omega
  have y4 : zx v4 = zx σ + 4 := by omega
  have y5 : zx v5 = zx σ + 5 := by omega
  have y6 : zx v6 = zx σ + 6 := by omega
  have y7 : zx v7 = zx σ + 7 := by omega
  have y8 : zx v8 = zx σ + 8 := by omega
  have y9 : zx v9 = zx σ + 9 := by omega
  have y10 : zx v10 = zx σ + 10 := by omega
  have b1 := c1.of Z0' (by omega) (by omega)
  have b2 := c2.of Z2 (by omega) (by omega)
  have b3 := c3.of Z3 (by omega) (by omega)
  have b4 := c4.of Z4 (by omega) (by omega)
  have b5 := c5.of Z5 (by omega) (by omega)
  have b6 := c6.of Z6 (by omega) (by omega)
  have b7 := c7.of Z7 (by omega) (by omega)
  have b8 := c8.of Z8 (by omega) (by omega)
  have b9 := c9.of Z9 (by omega) (by omega)
  have b10 := c10.of Z10 (by omega) (by omega)
  have b11 := c11.of Z11 (by omega) (by omega)
  rw [x1'] at b2 r12
  rw [y2] at b3 r12
  rw [y3] at b4 r12
  rw [y4] at b5 r12
  rw [y5] at b6 r12
  rw [y6] at b7 r12
  rw [y7] at b8 r12
  rw [y8] at b9 r12
  rw [y9] at b10 r12
  rw [y10] at b11 r12
  have rr := fun j => (r12' j).trans (r12 j)
  generalize zx σ = n at *
  have hinj : ∀ i j, i < 12 → j < 12 → Bm p n i = Bm p n j → i = j := by
    intro i j hi hj e
    unfold Bm at e
    by_cases a : i = 0
    · by_cases b : j = 0
      · omega
      · rw [if_pos a, if_neg b] at e
        omega
    · by_cases b : j = 0
      · rw [if_neg a, if_pos b] at e
        omega
      · rw [if_neg a, if_neg b] at e
        omega
  have hML : zML w (Bm p n) := ⟨hinj, k12, rr 2, rr 4, rr 5, rr 6, rr 10, rr 11, rr 13, rr 15, rr 20, rr 21, rr 22, ⟨b1.1, b1.2.1⟩, ⟨b2.1, b2.2.1⟩, ⟨b3.1, b3.2.1⟩, ⟨b4.1, b4.2.1⟩, ⟨b5.1, b5.2.1⟩, ⟨b6.1, b6.2.1⟩, ⟨b7.1, b7.2.1⟩, ⟨b8.1, b8.2.1⟩, ⟨b9.1, b9.2.1⟩, ⟨b10.1, b10.2.1⟩, ⟨b11.1, b11.2.1⟩⟩
  exact ⟨w, rfl, by omega, Z0, hML, ⟨i12 1, by decide, fun j hj => absurd hj (Nat.not_lt_zero j)⟩, ⟨fun k _ => b2.2.2.1 k, fun f hf => absurd hf (Nat.not_lt_zero f), fun f hf => absurd hf (Nat.not_lt_zero f), fun _ i hi => absurd hi (by simp)⟩, Or.inl ⟨i12 7, rfl, rfl⟩, ⟨i12 12, by decide, fun j hj => absurd hj (Nat.not_lt_zero j)⟩, i12 3⟩
theorem CLL.pt {C : Nat → Nat} (h : CLL σ C) (hk : ∀ i, i < 71 → zk s (C i) = zk σ (C i)) (hn : ∀ i, i < 71 → zn s (C i) = zn σ (C i)) (q : ∀ i, i < 71 → ∀ j, zr s (C i) j = zr σ (C i) j) : CLL s C := by
  have hRL : ∀ b, isR b → RLL σ (fun i => C (b + i)) → RLL s (fun i => C (b + i)) := fun b hb hL => by
    have hlt := hb.lt
    obtain ⟨r1, r2, r3, r4, r5, r6, r7⟩ := hL
    refine ⟨(hk b (by omega)).trans r1, (q b (by omega) 0).trans r2, (q b (by omega) 1).trans r3, (hk (b + 1) (by omega)).trans r4, (hn (b + 1) (by omega)).trans r5, fun f hf => (q (b + 1) (by omega) f).trans (r6 f hf), fun f hf => ?_⟩
    obtain ⟨p1, p2, p3, p4⟩ := r7 f hf
    exact ⟨(hk (b + (2 + 2 * f)) (by omega)).trans p1, (q (b + (2 + 2 * f)) (by omega) 0).trans p2, (hk (b + (3 + 2 * f)) (by omega)).trans p3, (hn (b + (3 + 2 * f)) (by omega)).trans p4⟩
  have hCO : ∀ i, i + 3 < 71 → CO σ (C i) (C (i + 1)) (C (i + 2)) (C (i + 3)) → CO s (C i) (C (i + 1)) (C (i + 2)) (C (i + 3)) := fun i h25 hc => by
    obtain ⟨c1, c2, c3, c4, c5, c6, c7, c8, c9, c10, c11⟩ := hc
    exact ⟨(hk i (by omega)).trans c1, (q i (by omega) 0).trans c2, (q i (by omega) 1).trans c3, (q i (by omega) 2).trans c4, (hk (i + 1) (by omega)).trans c5, (hn (i + 1) (by omega)).trans c6, (hk (i + 2) (by omega)).trans c7, (hn (i + 2) (by omega)).trans c8, (hk (i + 3) (by omega)).trans c9, (hn (i + 3) (by omega)).trans c10, c11⟩
  have hBY : ∀ i j N, i < 71 → j < 71 → BYL σ (C i) (C j) N → BYL s (C i) (C j) N := fun i j N hi hj hB => by
    obtain ⟨c1, c2, c3, c4⟩ := hB
    exact ⟨(hk i hi).trans c1, (q i hi 0).trans c2, (hk j hj).trans c3, (hn j hj).trans c4⟩
  obtain ⟨h1, ⟨a1, a2, a3, a4, a5⟩, ⟨b1, b2, b3, b4⟩, hB1, ⟨d1, d2, d3, d4⟩, hU, hB2, hB3, hR1, hR2, ⟨g1, g2, g3⟩, hB4, ⟨j1, j2, j3, ⟨j4, j5⟩, j6, j7⟩⟩ := h
  obtain ⟨u1, u2, u3, u4, u5, u6, u7, u8, u9, u10, u11, u12, u13, u14, u15, u16⟩ := hU
  refine ⟨h1, ⟨(hk 0 (by decide)).trans a1, (q 0 (by decide) 0).trans a2, (q 0 (by decide) 1).trans a3, (q 0 (by decide) 2).trans a4, (q 0 (by decide) 3).trans a5⟩, ⟨(hk 1 (by decide)).trans b1, (q 1 (by decide) 0).trans b2, (hk 2 (by decide)).trans b3, (hn 2 (by decide)).trans b4⟩, hBY 3 4 _ (by decide) (by decide) hB1, ⟨(hk 5 (by decide)).trans d1, (q 5 (by decide) 0).trans d2, (q 5 (by decide) 1).trans d3, (q 5 (by decide) 2).trans d4⟩, ?_, hBY 7 8 _ (by decide) (by decide) hB2, hBY 9 10 _ (by decide) (by decide) hB3, hRL 25 (Or.inl rfl) hR1, hRL 45 (Or.inr rfl) hR2, ⟨(hk 65 (by decide)).trans g1, (q 65 (by decide) 0).trans g2, (q 65 (by decide) 1).trans g3⟩, hBY 66 67 _ (by decide) (by decide) hB4, ⟨(hk 68 (by decide)).trans j1, (q 68 (by decide) 0).trans j2, (q 68 (by decide) 1).trans j3, ⟨(hk 69 (by decide)).trans j4, (hn 69 (by decide)).trans j5⟩, (hk 70 (by decide)).trans j6, (hn 70 (by decide)).trans j7⟩⟩
  exact ⟨u1, (hk 6 (by decide)).trans u2, (q 6 (by decide) 0).trans u3, (q 6 (by decide) 1).trans u4, (q 6 (by decide) 2).trans u5, (q 6 (by decide) 3).trans u6, (q 6 (by decide) 4).trans u7, (q 6 (by decide) 5).trans u8, (q 6 (by decide) 6).trans u9, (hk 24 (by decide)).trans u10, (hn 24 (by decide)).trans u11, (hk 11 (by decide)).trans u12, (q 11 (by decide) 0).trans u13, hCO 12 (by decide) u14, hCO 16 (by decide) u15, hCO 20 (by decide) u16⟩
theorem BL.pt {m : Nat} {N : Nat} {l : List Nat} (h : BL σ m c N l) (k1 : zk s m = zk σ m) (k2 : zk s c = zk σ c) (n2 : zn s c = zn σ c) (r1 : zr s m 0 = zr σ m 0) (i1 : zi s m 1 = zi σ m 1) (i2 : ∀ j, zi s c j = zi σ c j) : BL s m c N l := by
  obtain ⟨⟨h1, h2, h3, h4, h5, h6⟩, h7⟩ := h
  refine ⟨⟨k1.trans h1, r1.trans h2, k2.trans h3, n2.trans h4, i1.trans h5, h6⟩, fun j hj => ?_⟩
  unfold zby
  rw [i2]
  exact h7 j hj
theorem zcl_k (h : zcl σ c k n R) : zk σ c = k := h.1
/-- the law's start: a reel, a reference -/
theorem v_new (σ : zS) : ∃ s1 s2, fX11_init (zuN σ 11 0) (zx σ) = some s1 ∧ fX12_init (zuN s1 12 0) (zx s1) = some s2 ∧ zx s1 = zx σ + 71 ∧ zx s2 = zx σ + 83 ∧ INV s2 (Cm (zx σ) (zx σ + 1)) (Bm (zx σ + 71) (zx σ + 72)) ∧ (∀ y, y < zx σ → zk s2 y = zk σ y ∧ zn s2 y = zn σ y ∧ (∀ j, zi s2 y j = zi σ y j) ∧ ∀ j, zr s2 y j = zr σ y j) := by
  obtain ⟨n1, n2⟩ := z_new σ 11 0
  obtain ⟨s1, e1, x1, o1, hC⟩ := i_main n1 (by rw [zx_uN]; omega)
  rw [zx_uN] at x1 hC
  obtain ⟨m1, m2⟩ := z_new s1 12 0
  obtain ⟨s2, e2, x2, o2, hB⟩ := i_model m1 (by rw [zx_uN]; omega)
  rw [zx_uN] at x2 hB
  have y1 : zx s1 = zx σ + 71 := by omega
  rw [y1] at hB
  have oo : zol (zx s1) s1 s2 := (m2 (zx s1)).tr (by rw [zx_uN]; omega) o2 (Or.inl rfl)
  have cb : ∀ i, i < 71 → Cm (zx σ) (zx σ + 1) i < zx s1 := fun i hi => by
    have ob : off i < 70 := by
      unfold off
      repeat' split
      all_goals omega
    unfold Cm
    split <;> omega
  have hd : dsj (Cm (zx σ) (zx σ + 1)) (Bm (zx σ + 71) (zx σ + 72)) := fun i j hi hj e => by
    have := cb i hi
    have hb : zx σ + 71 ≤ Bm (zx σ + 71) (zx σ + 72) j := by
      unfold Bm
      split <;> omega
    omega
  have q : ∀ i, i < 71 → zk s2 (Cm (zx σ) (zx σ + 1) i) = zk s1 (Cm (zx σ) (zx σ + 1) i) ∧ zn s2 (Cm (zx σ) (zx σ + 1) i) = zn s1 (Cm (zx σ) (zx σ + 1) i) ∧ (∀ j, zi s2 (Cm (zx σ) (zx σ + 1) i) j = zi s1 (Cm (zx σ) (zx σ + 1) i) j) ∧ ∀ j, zr s2 (Cm (zx σ) (zx σ + 1) i) j = zr s1 (Cm (zx σ) (zx σ + 1) i) j := fun i hi => oo _ (cb i hi) (by have := cb i hi; omega)
  have hC2 : CS s2 (Cm (zx σ) (zx σ + 1)) 45 25 [] (fun _ => 0) (fun _ _ => 0) (fun _ _ => 0) 0 0 (fun _ => 0) [] (-1) := by
    obtain ⟨g1, g2, g3, g4, g5, g6, g7, g8, g9⟩ := hC
    refine ⟨g1.pt (fun i hi => (q i hi).1) (fun i hi => (q i hi).2.1) (fun i hi => (q i hi).2.2.2), ((q 0 (by decide)).2.2.2 4).trans g2, ((q 5 (by decide)).2.2.2 3).trans g3, fun k hk => ((q 2 (by decide)).2.2.1 k).trans (g4 k hk), g5.pt (q 3 (by decide)).1 (q 4 (by decide)).1 (q 4 (by decide)).2.1 ((q 3 (by decide)).2.2.2 0) ((q 3 (by decide)).2.2.1 1) (q 4 (by decide)).2.2.1, ?_, ⟨((q 68 (by decide)).2.2.1 2).trans g7.1, ((q 68 (by decide)).2.2.1 3).trans g7.2.1, fun i hi => absurd hi (by simp)⟩, g8.pt (q 66 (by decide)).1 (q 67 (by decide)).1 (q 67 (by decide)).2.1 ((q 66 (by decide)).2.2.2 0) ((q 66 (by decide)).2.2.1 1) (q 67 (by decide)).2.2.1, ((q 0 (by decide)).2.2.1 5).trans g9⟩
    obtain ⟨⟨z1, z2, z3, z4, z5, z6⟩, ⟨z7, z8⟩, -⟩ := g6
    exact ⟨⟨((q 45 (by decide)).2.2.1 2).trans z1, ((q 45 (by decide)).2.2.1 3).trans z2, ((q 45 (by decide)).2.2.1 4).trans z3, ((q 45 (by decide)).2.2.1 5).trans z4, ((q 45 (by decide)).2.2.1 6).trans z5, ((q 45 (by decide)).2.2.1 7).trans z6⟩, ⟨((q 63 (by decide)).2.2.1 1).trans z7, ((q 63 (by decide)).2.2.1 2).trans z8⟩, fun f hf => absurd hf (Nat.not_lt_zero f), fun f hf => absurd hf (Nat.not_lt_zero f), fun _ i hi => absurd hi (by simp)⟩
  refine ⟨s1, s2, e1, e2, y1, by omega, ⟨hd, 45, 25, [], fun _ => 0, fun _ _ => 0, fun _ _ => 0, 0, 0, fun _ => 0, [], -1, Or.inr rfl, Or.inl rfl, by decide, Or.inl ⟨rfl, rfl, rfl, rfl, rfl⟩, hC2, hB⟩, fun y hy => ?_⟩
  obtain ⟨w1, w2, w3, w4⟩ := ((n2 (zx σ)).tr (by rw [zx_uN]; omega) o1 (Or.inl rfl)) y hy (by omega)
  obtain ⟨u1, u2, u3, u4⟩ := oo y (by omega) (by omega)
  exact ⟨u1.trans w1, u2.trans w2, fun j => (u3 j).trans (w3 j), fun j => (u4 j).trans (w4 j)⟩
end PINIT4
