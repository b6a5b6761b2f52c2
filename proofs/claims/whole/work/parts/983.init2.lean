/-! constructors: sums, unpacker, reader, writer, screen -/
section PINIT2
variable {σ s t : zS} {a c k n : Nat} {R : Nat → Option Nat}
theorem i_child {q j : Nat} {s1 : zS} (h : zcl σ a k n R) (ha : a < zx σ) (ho : zol (zx σ) (zuN σ q 0) s1) (hx : zx σ + 1 ≤ zx s1) : zk s1 a = k ∧ zol a σ (zuR s1 a j (some (zx σ))) ∧ zcl (zuR s1 a j (some (zx σ))) a k n (zRs R j (zx σ)) ∧ zol a s1 (zuR s1 a j (some (zx σ))) := by
  obtain ⟨n1, n2⟩ := z_new σ q 0
  have h1 : zcl s1 a k n R := (h.of (n2 (zx σ)) ha (by omega)).of ho (by rw [zx_uN]; omega) (by omega)
  obtain ⟨g1, g2, g3⟩ := z_set h1 j (zx σ)
  exact ⟨h1.1, ((n2 a).tr (by rw [zx_uN]; omega) ho (Or.inr (Nat.le_refl _))).tr (by omega) g2 (Or.inl rfl), g1, g2⟩
def zct (s : zS) (c : Nat) : Prop := zk s c = 21 ∧ zn s c = 256 ∧ SMT s c
theorem zct.of (h : zct σ c) (hs : zol a σ s) (hc : c < zx σ) (hn : c ≠ a) : zct s c := by
  obtain ⟨g1, g2, g3, g4⟩ := hs c hc hn
  exact ⟨g1.trans h.1, g2.trans h.2.1, fun k hk => (g3 k).trans (h.2.2 k hk)⟩
theorem i_sums (h : zcl σ a 8 0 zNo) (ha : a < zx σ) : ∃ s, fX8_init σ a = some s ∧ zx s = zx σ + 1 ∧ zol a σ s ∧ zcl s a 8 0 (zRs zNo 0 (zx σ)) ∧ zct s (zx σ) := by
  obtain ⟨x1, o1, c1, d1, k1⟩ := i_arr (q := 21) (N := 256) (j := 0) h ha
  unfold fX8_init
  rw [oNa_eq (N := 256) (NN := 256) rfl (by decide), oPR_eq k1]
  generalize zuR (zuN σ 21 256) a 0 (some (zx σ)) = s1 at x1 o1 c1 d1
  have hin : ∀ (u : zS) (k : Nat), zloop zF (fun x => bX8_init_26 u a (nI k) x.1 x.2) (nI k, 0) = some (crI (nI k) 8) := fun u k => by
    refine zloop_seq (fun i => (crI (nI k) i, nI i)) 8 (fun i hi => ?_) ?_ zF (by unfold zF; omega)
    · have c8 : ¬ (8 : Int32) ≤ nI i := fun z => by
        have := (nI_leI (a := 8) (b := i) (by decide) (by omega)).mp z
        omega
      show bX8_init_26 u a (nI k) (crI (nI k) i) (nI i) = _
      unfold bX8_init_26 fX8_init_50
      rw [if_neg c8, crI]
      unfold crS
      by_cases q : (crI (nI k) i &&& 1) = 0
      · rw [if_pos q, if_pos q, oL_eq, nI_1]
      · rw [if_neg q, if_neg q, oL_eq, nI_1]
    · show bX8_init_26 u a (nI k) (crI (nI k) 8) (nI 8) = _
      unfold bX8_init_26
      rw [if_pos (by decide)]
  have hac : a ≠ zx σ := by omega
  obtain ⟨s2, e2, m2, f2⟩ := zloop_cnt (body := fun x => bX8_init_15 a x.1 x.2) (fun i x => x.1 = nI i ∧ zsm (fun y => y = zx σ) s1 x.2 ∧ ∀ k, k < i → zi x.2 (zx σ) k = crI (nI k) 8) 256 (fun s => zsm (fun y => y = zx σ) s1 s ∧ ∀ k, k < 256 → zi s (zx σ) k = crI (nI k) 8)
    (fun i x hi hx => by
      obtain ⟨l, u⟩ := x
      obtain ⟨y1, y2, y3⟩ := hx
      dsimp only at y1 y2 y3
      subst y1
      have c256 : ¬ (256 : Int32) ≤ nI i := fun z => by
        have := (nI_leI (a := 256) (b := i) (by decide) (by omega)).mp z
        omega
      have ka : zk u a = 8 := by rw [y2.k]; exact c1.1
      have ra : zr u a 0 = some (zx σ) := by rw [y2.r]; exact c1.2.2.2 0
      have kc : zk u (zx σ) = 21 := by rw [y2.k]; exact d1.1
      have nc : zn u (zx σ) = 256 := by rw [y2.n]; exact d1.2.1
      refine Or.inl ⟨(nI (i + 1), zuI u (zx σ) i (crI (nI i) 8)), ?_, rfl, y2.uI rfl, fun k hk => ?_⟩
      · show bX8_init_15 a (nI i) u = _
        unfold bX8_init_15
        rw [if_neg c256, oB_eq (hin u i)]
        dsimp only
        rw [oGR_eq ka ra, oSt_eq kc (by rw [nc]; exact hi) (by omega), oL_eq, nI_1]
      · rw [zi_uI]
        by_cases e : k = i
        · rw [if_pos ⟨rfl, e⟩, e]
        · rw [if_neg (fun z => e z.2)]
          exact y3 k (by omega))
    (fun x hx => by
      obtain ⟨l, u⟩ := x
      obtain ⟨y1, y2, y3⟩ := hx
      dsimp only at y1 y2 y3
      subst y1
      refine ⟨u, ?_, y2, y3⟩
      show bX8_init_15 a (nI 256) u = _
      unfold bX8_init_15
      rw [if_pos (by decide)]) zF (0, s1) ⟨rfl, zsm.rf, fun k hk => absurd hk (Nat.not_lt_zero k)⟩ (by unfold zF; decide)
  have o2 : zol (zx σ) s1 s2 := fun y hy hn => ⟨by rw [m2.k], by rw [m2.n], fun j => m2.i hn j, fun j => by rw [m2.r]⟩
  refine ⟨s2, by rw [oB_eq e2], by rw [m2.x]; exact x1, o1.tr (by omega) o2 (Or.inr (Nat.le_refl _)), c1.of o2 (by omega) hac, by rw [m2.k]; exact d1.1, by rw [m2.n]; exact d1.2.1, f2⟩
/-- the unpacker's cells: itself at a, the others from n on -/
def UCs (s : zS) (a n : Nat) : Prop := zcl s a 9 0 (zRs (zRs (zRs (zRs (zRs (zRs (zRs zNo 0 n) 1 (n + 2)) 2 (n + 4)) 3 (n + 5)) 4 (n + 9)) 5 (n + 13)) 6 (n + 17)) ∧ (zcl s n 2 0 (zRs zNo 0 (n + 1)) ∧ zcl s (n + 1) 20 8000 zNo) ∧ (zcl s (n + 2) 2 0 (zRs zNo 0 (n + 3)) ∧ zcl s (n + 3) 20 1100 zNo) ∧ zcl s (n + 4) 1 0 (zRs zNo 0 n) ∧
  (zcl s (n + 5) 3 0 (zRs (zRs (zRs zNo 0 (n + 6)) 1 (n + 7)) 2 (n + 8)) ∧ zcl s (n + 6) 21 16 zNo ∧ zcl s (n + 7) 21 17 zNo ∧ zcl s (n + 8) 21 288 zNo) ∧ (zcl s (n + 9) 3 0 (zRs (zRs (zRs zNo 0 (n + 10)) 1 (n + 11)) 2 (n + 12)) ∧ zcl s (n + 10) 21 16 zNo ∧ zcl s (n + 11) 21 17 zNo ∧ zcl s (n + 12) 21 288 zNo) ∧ (zcl s (n + 13) 3 0 (zRs (zRs (zRs zNo 0 (n + 14)) 1 (n + 15)) 2 (n + 16)) ∧ zcl s (n + 14) 21 16 zNo ∧ zcl s (n + 15) 21 17 zNo ∧ zcl s (n + 16) 21 288 zNo) ∧ zcl s (n + 17) 21 320 zNo
theorem i_unp (h : zcl σ a 9 0 zNo) (ha : a < zx σ) : ∃ s, fX9_init σ a = some s ∧ zx s = zx σ + 18 ∧ zol a σ s ∧ UCs s a (zx σ) := by
  unfold fX9_init
  obtain ⟨p1, -⟩ := z_new σ 2 0
  obtain ⟨t1, e1, x1, o1, c1, d1⟩ := i_bytes (N := 8000) (NN := 8000) p1 (by rw [zx_uN]; omega) rfl (by decide)
  rw [zx_uN] at x1 c1 d1
  obtain ⟨k1, S1, h1, T1⟩ := i_child (j := 0) h ha o1 (by omega)
  rw [oNw_eq, oB_eq e1, oPR_eq k1]
  have X1 : zx (zuR t1 a 0 (some (zx σ))) = zx σ + 2 := by show zx t1 = _; omega
  have A1 := c1.of T1 (by omega) (by omega)
  have A2 := d1.of T1 (by omega) (by omega)
  generalize zuR t1 a 0 (some (zx σ)) = u1 at S1 h1 T1 X1 A1 A2
  obtain ⟨p2, -⟩ := z_new u1 2 0
  obtain ⟨t2, e2, x2, o2, c2, d2⟩ := i_bytes (N := 1100) (NN := 1100) p2 (by rw [zx_uN]; omega) rfl (by decide)
  rw [zx_uN] at x2 c2 d2
  obtain ⟨k2, S2, h2, T2⟩ := i_child (j := 1) h1 (by omega) o2 (by omega)
  rw [oNw_eq, oB_eq e2, oPR_eq k2]
  have X2 : zx (zuR t2 a 1 (some (zx u1))) = zx σ + 4 := by show zx t2 = _; omega
  have B1 := c2.of T2 (by omega) (by omega)
  have B2 := d2.of T2 (by omega) (by omega)
  generalize zuR t2 a 1 (some (zx u1)) = u2 at S2 h2 T2 X2 B1 B2
  obtain ⟨p3, q3⟩ := z_new u2 1 0
  have h2' := h2.of (q3 (zx u2)) (by omega) (by omega)
  obtain ⟨g3, G3, -⟩ := z_set p3 0 (zx σ)
  have e3 : fX0_init (zuN u2 1 0) (zx u2) (zx σ) = some (zuR (zuN u2 1 0) (zx u2) 0 (some (zx σ))) := by
    unfold fX0_init
    rw [oPR_eq p3.1]
  obtain ⟨k3, S3, h3, T3⟩ := i_child (q := 1) (j := 2) h2 (by omega) G3 (Nat.le_refl _)
  have r30 : zr (zuN u2 1 0) a 0 = some (zx σ) := h2'.2.2.2 0
  rw [oNw_eq, oGR_eq h2'.1 r30, oB_eq e3, oPR_eq k3]
  have X3 : zx (zuR (zuR (zuN u2 1 0) (zx u2) 0 (some (zx σ))) a 2 (some (zx u2))) = zx σ + 5 := by show zx u2 + 1 = _; omega
  have D1 := g3.of T3 (by show _ < zx u2 + 1; omega) (by omega)
  generalize zuR (zuR (zuN u2 1 0) (zx u2) 0 (some (zx σ))) a 2 (some (zx u2)) = u3 at S3 h3 T3 X3 D1
  obtain ⟨p4, -⟩ := z_new u3 3 0
  obtain ⟨t4, e4, x4, o4, c4, d4, d4', d4''⟩ := i_codes p4 (by rw [zx_uN]; omega)
  rw [zx_uN] at x4 c4 d4 d4' d4''
  obtain ⟨k4, S4, h4, T4⟩ := i_child (j := 3) h3 (by omega) o4 (by omega)
  rw [oNw_eq, oB_eq e4, oPR_eq k4]
  have X4 : zx (zuR t4 a 3 (some (zx u3))) = zx σ + 9 := by show zx t4 = _; omega
  have E1 := c4.of T4 (by omega) (by omega)
  have E2 := d4.of T4 (by omega) (by omega)
  have E3 := d4'.of T4 (by omega) (by omega)
  have E4 := d4''.of T4 (by omega) (by omega)
  generalize zuR t4 a 3 (some (zx u3)) = u4 at S4 h4 T4 X4 E1 E2 E3 E4
  obtain ⟨p5, -⟩ := z_new u4 3 0
  obtain ⟨t5, e5, x5, o5, c5, d5, d5', d5''⟩ := i_codes p5 (by rw [zx_uN]; omega)
  rw [zx_uN] at x5 c5 d5 d5' d5''
  obtain ⟨k5, S5, h5, T5⟩ := i_child (j := 4) h4 (by omega) o5 (by omega)
  rw [oNw_eq, oB_eq e5, oPR_eq k5]
  have X5 : zx (zuR t5 a 4 (some (zx u4))) = zx σ + 13 := by show zx t5 = _; omega
  have F1 := c5.of T5 (by omega) (by omega)
  have F2 := d5.of T5 (by omega) (by omega)
  have F3 := d5'.of T5 (by omega) (by omega)
  have F4 := d5''.of T5 (by omega) (by omega)
  generalize zuR t5 a 4 (some (zx u4)) = u5 at S5 h5 T5 X5 F1 F2 F3 F4
  obtain ⟨p6, -⟩ := z_new u5 3 0
  obtain ⟨t6, e6, x6, o6, c6, d6, d6', d6''⟩ := i_codes p6 (by rw [zx_uN]; omega)
  rw [zx_uN] at x6 c6 d6 d6' d6''
  obtain ⟨k6, S6, h6, T6⟩ := i_child (j := 5) h5 (by omega) o6 (by omega)
  rw [oNw_eq, oB_eq e6, oPR_eq k6]
  have X6 : zx (zuR t6 a 5 (some (zx u5))) = zx σ + 17 := by show zx t6 = _; omega
  have G1 := c6.of T6 (by omega) (by omega)
  have G2 := d6.of T6 (by omega) (by omega)
  have G3' := d6'.of T6 (by omega) (by omega)
  have G4 := d6''.of T6 (by omega) (by omega)
  generalize zuR t6 a 5 (some (zx u5)) = u6 at S6 h6 T6 X6 G1 G2 G3' G4
  obtain ⟨x7, S7, h7, H1, k7⟩ := i_arr (q := 21) (N := 320) (j := 6) h6 (by omega)
  rw [oNa_eq (N := 320) (NN := 320) rfl (by decide), oPR_eq k7]
  generalize zuR (zuN u6 21 320) a 6 (some (zx u6)) = u7 at x7 S7 h7 H1
  have Z6 := S7
  have Z5 := S6.tr (by omega) Z6 (Or.inl rfl)
  have Z4 := S5.tr (by omega) Z5 (Or.inl rfl)
  have Z3 := S4.tr (by omega) Z4 (Or.inl rfl)
  have Z2 := S3.tr (by omega) Z3 (Or.inl rfl)
  have Z1 := S2.tr (by omega) Z2 (Or.inl rfl)
  have Z0 := S1.tr (by omega) Z1 (Or.inl rfl)
  rw [X1] at B1 B2 h2 h3 h4 h5 h6 h7
  rw [X2] at D1 h3 h4 h5 h6 h7
  rw [X3] at E1 E2 E3 E4 h4 h5 h6 h7
  rw [X4] at F1 F2 F3 F4 h5 h6 h7
  rw [X5] at G1 G2 G3' G4 h6 h7
  rw [X6] at H1 h7
  exact ⟨u7, rfl, by omega, Z0, h7, ⟨A1.of Z1 (by omega) (by omega), A2.of Z1 (by omega) (by omega)⟩, ⟨B1.of Z2 (by omega) (by omega), B2.of Z2 (by omega) (by omega)⟩, D1.of Z3 (by omega) (by omega), ⟨E1.of Z4 (by omega) (by omega), E2.of Z4 (by omega) (by omega), E3.of Z4 (by omega) (by omega), E4.of Z4 (by omega) (by omega)⟩, ⟨F1.of Z5 (by omega) (by omega), F2.of Z5 (by omega) (by omega), F3.of Z5 (by omega) (by omega), F4.of Z5 (by omega) (by omega)⟩, ⟨G1.of Z6 (by omega) (by omega), G2.of Z6 (by omega) (by omega), G3'.of Z6 (by omega) (by omega), G4.of Z6 (by omega) (by omega)⟩, H1⟩
theorem UCs.of {m n : Nat} (h : UCs σ m n) (hs : zol a σ s) (hm : m < zx σ) (hn : n + 18 ≤ zx σ) (hma : m ≠ a) (hna : a < n ∨ n + 18 ≤ a) : UCs s m n := by
  obtain ⟨h1, ⟨h2, h3⟩, ⟨h4, h5⟩, h6, ⟨h7, h8, h9, h10⟩, ⟨h11, h12, h13, h14⟩, ⟨h15, h16, h17, h18⟩, h19⟩ := h
  exact ⟨h1.of hs hm hma, ⟨h2.of hs (by omega) (by omega), h3.of hs (by omega) (by omega)⟩, ⟨h4.of hs (by omega) (by omega), h5.of hs (by omega) (by omega)⟩, h6.of hs (by omega) (by omega), ⟨h7.of hs (by omega) (by omega), h8.of hs (by omega) (by omega), h9.of hs (by omega) (by omega), h10.of hs (by omega) (by omega)⟩, ⟨h11.of hs (by omega) (by omega), h12.of hs (by omega) (by omega), h13.of hs (by omega) (by omega), h14.of hs (by omega) (by omega)⟩, ⟨h15.of hs (by omega) (by omega), h16.of hs (by omega) (by omega), h17.of hs (by omega) (by omega), h18.of hs (by omega) (by omega)⟩, h19.of hs (by omega) (by omega)⟩
/-- a reel's cells: itself at a, the others from n on -/
def RCs (s : zS) (a n : Nat) : Prop := zcl s a 6 0 (zRs (zRs zNo 0 n) 1 (n + 1)) ∧ (∃ Rm, zcl s n 22 8 Rm ∧ ∀ f, f < 8 → Rm f = some (n + 3 + 2 * f)) ∧ (∀ f, f < 8 → zcl s (n + 3 + 2 * f) 4 0 (zRs zNo 0 (n + 3 + 2 * f + 1)) ∧ zcl s (n + 3 + 2 * f + 1) 21 256 zNo) ∧ zcl s (n + 1) 4 0 (zRs zNo 0 (n + 2)) ∧ zcl s (n + 2) 21 256 zNo
theorem RCs.of {m n : Nat} (h : RCs σ m n) (hs : zol a σ s) (hm : m < zx σ) (hn : n + 19 ≤ zx σ) (hma : m ≠ a) (hna : a < n ∨ n + 19 ≤ a) : RCs s m n := by
  obtain ⟨h1, ⟨Rm, h2, h3⟩, h4, h5, h6⟩ := h
  exact ⟨h1.of hs hm hma, ⟨Rm, h2.of hs (by omega) (by omega), h3⟩, fun f hf => ⟨(h4 f hf).1.of hs (by omega) (by omega), (h4 f hf).2.of hs (by omega) (by omega)⟩, h5.of hs (by omega) (by omega), h6.of hs (by omega) (by omega)⟩
theorem i_reader {p1 p2 : Nat} (h : zcl σ a 5 0 zNo) (ha : a < zx σ) : ∃ s, fX4_init σ a p1 p2 = some s ∧ zx s = zx σ + 39 ∧ zol a σ s ∧ zcl s a 5 0 (zRs (zRs (zRs (zRs (zRs zNo 2 (zx σ)) 3 (zx σ + 19)) 4 (zx σ + 21)) 0 p1) 1 p2) ∧ UCs s (zx σ) (zx σ + 1) ∧ RCs s (zx σ + 19) (zx σ + 20) := by
  unfold fX4_init
  obtain ⟨q1, -⟩ := z_new σ 9 0
  obtain ⟨t1, e1, x1, o1, c1⟩ := i_unp q1 (by rw [zx_uN]; omega)
  rw [zx_uN] at x1 c1
  obtain ⟨k1, S1, h1, T1⟩ := i_child (j := 2) h ha o1 (by omega)
  rw [oNw_eq, oB_eq e1, oPR_eq k1]
  have X1 : zx (zuR t1 a 2 (some (zx σ))) = zx σ + 19 := by show zx t1 = _; omega
  have A1 := c1.of T1 (by omega) (by omega) (by omega) (by omega)
  generalize zuR t1 a 2 (some (zx σ)) = u1 at S1 h1 T1 X1 A1
  obtain ⟨q2, -⟩ := z_new u1 6 0
  obtain ⟨t2, e2, x2, o2, c2⟩ := i_reel q2 (by rw [zx_uN]; omega)
  rw [zx_uN] at x2 c2
  have c2' : RCs t2 (zx u1) (zx u1 + 1) := c2
  obtain ⟨k2, S2, h2, T2⟩ := i_child (j := 3) h1 (by omega) o2 (by omega)
  rw [oNw_eq, oB_eq e2, oPR_eq k2]
  have X2 : zx (zuR t2 a 3 (some (zx u1))) = zx σ + 39 := by show zx t2 = _; omega
  have B1 := c2'.of T2 (by omega) (by omega) (by omega) (by omega)
  generalize zuR t2 a 3 (some (zx u1)) = u2 at S2 h2 T2 X2 B1
  have r3 : zr u2 a 3 = some (zx u1) := h2.2.2.2 3
  have r1 : zr u2 (zx u1) 1 = some (zx u1 + 1 + 1) := B1.1.2.2.2 1
  obtain ⟨h3, S3, x3⟩ := z_set h2 4 (zx u1 + 1 + 1)
  obtain ⟨h4, S4, x4⟩ := z_set h3 0 p1
  obtain ⟨h5, S5, x5⟩ := z_set h4 1 p2
  rw [oGR_eq h2.1 r3, oGR_eq B1.1.1 r1, oPR_eq h2.1, oPR_eq h3.1, oPR_eq h4.1]
  have SS : zol a u2 (zuR (zuR (zuR u2 a 4 (some (zx u1 + 1 + 1))) a 0 (some p1)) a 1 (some p2)) := (S3.tr (by omega) S4 (Or.inl rfl)).tr (by omega) S5 (Or.inl rfl)
  have xF : zx (zuR (zuR (zuR u2 a 4 (some (zx u1 + 1 + 1))) a 0 (some p1)) a 1 (some p2)) = zx σ + 39 := by omega
  generalize zuR (zuR (zuR u2 a 4 (some (zx u1 + 1 + 1))) a 0 (some p1)) a 1 (some p2) = uF at h5 SS xF
  rw [X1] at B1 h5
  exact ⟨uF, rfl, xF, (S1.tr (by omega) S2 (Or.inl rfl)).tr (by omega) SS (Or.inl rfl), h5, ((A1.of S2 (by omega) (by omega) (by omega) (by omega)).of SS (by omega) (by omega) (by omega) (by omega)), B1.of SS (by omega) (by omega) (by omega) (by omega)⟩
theorem i_writer {p1 : Nat} (h : zcl σ a 10 0 zNo) (ha : a < zx σ) : ∃ s, fX10_init σ a p1 = some s ∧ zx s = zx σ + 2 ∧ zol a σ s ∧ zcl s a 10 0 (zRs (zRs zNo 0 (zx σ)) 1 p1) ∧ zcl s (zx σ) 2 0 (zRs zNo 0 (zx σ + 1)) ∧ zcl s (zx σ + 1) 20 9968 zNo := by
  unfold fX10_init
  obtain ⟨q1, -⟩ := z_new σ 2 0
  obtain ⟨t1, e1, x1, o1, c1, d1⟩ := i_bytes (N := 9968) (NN := 9968) q1 (by rw [zx_uN]; omega) rfl (by decide)
  rw [zx_uN] at x1 c1 d1
  obtain ⟨k1, S1, h1, T1⟩ := i_child (j := 0) h ha o1 (by omega)
  rw [oNw_eq, oB_eq e1, oPR_eq k1]
  have X1 : zx (zuR t1 a 0 (some (zx σ))) = zx σ + 2 := by show zx t1 = _; omega
  have A1 := c1.of T1 (by omega) (by omega)
  have A2 := d1.of T1 (by omega) (by omega)
  generalize zuR t1 a 0 (some (zx σ)) = u1 at S1 h1 T1 X1 A1 A2
  obtain ⟨h2, S2, x2⟩ := z_set h1 1 p1
  rw [oPR_eq h1.1]
  exact ⟨_, rfl, by omega, S1.tr (by omega) S2 (Or.inl rfl), h2, A1.of S2 (by omega) (by omega), A2.of S2 (by omega) (by omega)⟩
theorem i_screen (h : zcl σ a 7 0 zNo) (ha : a < zx σ) : ∃ s, fX7_init σ a = some s ∧ zx s = zx σ + 2 ∧ zol a σ s ∧ zcl s a 7 0 (zRs (zRs zNo 0 (zx σ)) 1 (zx σ + 1)) ∧ zcl s (zx σ) 21 256 zNo ∧ zcl s (zx σ + 1) 21 256 zNo := by
  obtain ⟨x1, o1, c1, d1, k1⟩ := i_arr (q := 21) (N := 256) (j := 0) h ha
  unfold fX7_init
  rw [oNa_eq (N := 256) (NN := 256) rfl (by decide), oPR_eq k1]
  generalize zuR (zuN σ 21 256) a 0 (some (zx σ)) = s1 at x1 o1 c1 d1
  obtain ⟨x2, o2, c2, d2, k2⟩ := i_arr (q := 21) (N := 256) (j := 1) c1 (by omega)
  rw [oNa_eq (N := 256) (NN := 256) rfl (by decide), oPR_eq k2]
  generalize zuR (zuN s1 21 256) a 1 (some (zx s1)) = s2 at x2 o2 c2 d2
  rw [x1] at c2 d2
  exact ⟨s2, rfl, by omega, o1.tr (by omega) o2 (Or.inl rfl), c2, d1.of o2 (by omega) (by omega), d2⟩
end PINIT2
