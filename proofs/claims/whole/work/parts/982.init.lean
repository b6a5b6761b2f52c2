/-! what the constructors make -/
def zNo : Nat → Option Nat := fun _ => none
def zRs (R : Nat → Option Nat) (k v : Nat) : Nat → Option Nat := fun j => if j = k then some v else R j
/-- a cell with nothing but zeros, of kind k and length n, with the references R -/
def zcl (σ : zS) (c k n : Nat) (R : Nat → Option Nat) : Prop := zk σ c = k ∧ zn σ c = n ∧ (∀ j, zi σ c j = 0) ∧ ∀ j, zr σ c j = R j
/-- the cells that were there stay, but for a -/
def zol (a : Nat) (σ s : zS) : Prop := ∀ c, c < zx σ → c ≠ a → zk s c = zk σ c ∧ zn s c = zn σ c ∧ (∀ j, zi s c j = zi σ c j) ∧ ∀ j, zr s c j = zr σ c j
section PINIT
variable {σ s t : zS} {a c k n : Nat} {R : Nat → Option Nat}
theorem zcl.of (h : zcl σ c k n R) (hs : zol a σ s) (hc : c < zx σ) (hn : c ≠ a) : zcl s c k n R := by
  obtain ⟨h1, h2, h3, h4⟩ := h
  obtain ⟨g1, g2, g3, g4⟩ := hs c hc hn
  exact ⟨g1.trans h1, g2.trans h2, fun j => (g3 j).trans (h3 j), fun j => (g4 j).trans (h4 j)⟩
theorem zol.tr {d : Nat} (h : zol a σ s) (hx : zx σ ≤ zx s) (h2 : zol d s t) (hd : d = a ∨ zx σ ≤ d) : zol a σ t := fun c hc hn => by
  obtain ⟨g1, g2, g3, g4⟩ := h c hc hn
  obtain ⟨f1, f2, f3, f4⟩ := h2 c (by omega) (by omega)
  exact ⟨f1.trans g1, f2.trans g2, fun j => (f3 j).trans (g3 j), fun j => (f4 j).trans (g4 j)⟩
theorem zol.rf : zol a σ σ := fun _ _ _ => ⟨rfl, rfl, fun _ => rfl, fun _ => rfl⟩
theorem zx_uN {q m : Nat} : zx (zuN σ q m) = zx σ + 1 := rfl
theorem z_new (σ : zS) (q m : Nat) : zcl (zuN σ q m) (zx σ) q m zNo ∧ ∀ a, zol a σ (zuN σ q m) := by
  refine ⟨⟨?_, ?_, fun j => ?_, fun j => ?_⟩, fun a c hc _ => ⟨?_, ?_, fun j => ?_, fun j => ?_⟩⟩
  · show va_up (zk σ) (zx σ) q (zx σ) = q
    unfold va_up
    rw [if_pos rfl]
  · show va_up (zn σ) (zx σ) m (zx σ) = m
    unfold va_up
    rw [if_pos rfl]
  · show (if zx σ = zx σ then (0 : Int32) else zi σ (zx σ) j) = 0
    rw [if_pos rfl]
  · show (if zx σ = zx σ then none else zr σ (zx σ) j) = none
    rw [if_pos rfl]
  · show va_up (zk σ) (zx σ) q c = zk σ c
    unfold va_up
    rw [if_neg (by omega)]
  · show va_up (zn σ) (zx σ) m c = zn σ c
    unfold va_up
    rw [if_neg (by omega)]
  · show (if c = zx σ then (0 : Int32) else zi σ c j) = zi σ c j
    rw [if_neg (by omega)]
  · show (if c = zx σ then none else zr σ c j) = zr σ c j
    rw [if_neg (by omega)]
theorem z_set (h : zcl σ a k n R) (j v : Nat) : zcl (zuR σ a j (some v)) a k n (zRs R j v) ∧ zol a σ (zuR σ a j (some v)) ∧ zx (zuR σ a j (some v)) = zx σ := by
  obtain ⟨h1, h2, h3, h4⟩ := h
  refine ⟨⟨h1, h2, h3, fun i => ?_⟩, fun c _ hn => ⟨rfl, rfl, fun _ => rfl, fun i => by rw [zr_uR, if_neg (fun z => hn z.1)]⟩, rfl⟩
  rw [zr_uR]
  unfold zRs
  by_cases e : i = j
  · rw [if_pos ⟨rfl, e⟩, if_pos e]
  · rw [if_neg (fun z => e z.2), if_neg e]
    exact h4 i
theorem oNw_eq {ρ : Type} {q : Nat} {f : Nat → zS → Option ρ} : oNw σ q f = f (zx σ) (zuN σ q 0) := rfl
theorem oNa_eq {ρ : Type} {q N : Nat} {NN : Int32} {f : Nat → zS → Option ρ} (e : NN = nI N) (hN : N ≤ 100000) : oNa σ q NN f = f (zx σ) (zuN σ q N) := by
  have t : (nI N).toInt = (N : Int) := zt_nI (by omega)
  have t2 : (nI N).toNatClampNeg = N := by rw [znat, t, Int.toNat_natCast]
  unfold oNa
  rw [e, t2, if_pos ⟨by rw [zle, zt0', t]; omega, hN⟩]
theorem i_bytes {N : Nat} {NN : Int32} (h : zcl σ a 2 0 zNo) (ha : a < zx σ) (e : NN = nI N) (hN : N ≤ 100000) : ∃ s, fX1_init σ a NN = some s ∧ zx s = zx σ + 1 ∧ zol a σ s ∧ zcl s a 2 0 (zRs zNo 0 (zx σ)) ∧ zcl s (zx σ) 20 N zNo := by
  obtain ⟨n1, n2⟩ := z_new σ 20 N
  have h1 := h.of (n2 (zx σ)) ha (by omega)
  obtain ⟨g1, g2, g3⟩ := z_set h1 0 (zx σ)
  refine ⟨zuR (zuN σ 20 N) a 0 (some (zx σ)), ?_, rfl, (n2 a).tr (by rw [zx_uN]; omega) g2 (Or.inl rfl), g1, n1.of g2 (by rw [zx_uN]; omega) (by omega)⟩
  unfold fX1_init
  rw [oNa_eq e hN, oPR_eq h1.1]
theorem i_pic (h : zcl σ a 4 0 zNo) (ha : a < zx σ) : ∃ s, fX3_init σ a = some s ∧ zx s = zx σ + 1 ∧ zol a σ s ∧ zcl s a 4 0 (zRs zNo 0 (zx σ)) ∧ zcl s (zx σ) 21 256 zNo := by
  obtain ⟨n1, n2⟩ := z_new σ 21 256
  have h1 := h.of (n2 (zx σ)) ha (by omega)
  obtain ⟨g1, g2, g3⟩ := z_set h1 0 (zx σ)
  refine ⟨zuR (zuN σ 21 256) a 0 (some (zx σ)), ?_, rfl, (n2 a).tr (by rw [zx_uN]; omega) g2 (Or.inl rfl), g1, n1.of g2 (by rw [zx_uN]; omega) (by omega)⟩
  unfold fX3_init
  rw [oNa_eq (N := 256) (NN := 256) rfl (by decide), oPR_eq h1.1]
/-- one array of an object -/
theorem i_arr {q N j : Nat} (h : zcl σ a k n R) (ha : a < zx σ) : zx (zuR (zuN σ q N) a j (some (zx σ))) = zx σ + 1 ∧ zol a σ (zuR (zuN σ q N) a j (some (zx σ))) ∧ zcl (zuR (zuN σ q N) a j (some (zx σ))) a k n (zRs R j (zx σ)) ∧ zcl (zuR (zuN σ q N) a j (some (zx σ))) (zx σ) q N zNo ∧ zk (zuN σ q N) a = k := by
  obtain ⟨n1, n2⟩ := z_new σ q N
  have h1 := h.of (n2 (zx σ)) ha (by omega)
  obtain ⟨g1, g2, g3⟩ := z_set h1 j (zx σ)
  exact ⟨rfl, (n2 a).tr (by rw [zx_uN]; omega) g2 (Or.inl rfl), g1, n1.of g2 (by rw [zx_uN]; omega) (by omega), h1.1⟩
theorem i_codes (h : zcl σ a 3 0 zNo) (ha : a < zx σ) : ∃ s, fX2_init σ a = some s ∧ zx s = zx σ + 3 ∧ zol a σ s ∧ zcl s a 3 0 (zRs (zRs (zRs zNo 0 (zx σ)) 1 (zx σ + 1)) 2 (zx σ + 2)) ∧ zcl s (zx σ) 21 16 zNo ∧ zcl s (zx σ + 1) 21 17 zNo ∧ zcl s (zx σ + 2) 21 288 zNo := by
  obtain ⟨x1, o1, c1, d1, k1⟩ := i_arr (q := 21) (N := 16) (j := 0) h ha
  unfold fX2_init
  rw [oNa_eq (N := 16) (NN := 16) rfl (by decide), oPR_eq k1]
  generalize zuR (zuN σ 21 16) a 0 (some (zx σ)) = s1 at x1 o1 c1 d1
  obtain ⟨x2, o2, c2, d2, k2⟩ := i_arr (q := 21) (N := 17) (j := 1) c1 (by omega)
  rw [oNa_eq (N := 17) (NN := 17) rfl (by decide), oPR_eq k2]
  generalize zuR (zuN s1 21 17) a 1 (some (zx s1)) = s2 at x2 o2 c2 d2
  obtain ⟨x3, o3, c3, d3, k3⟩ := i_arr (q := 21) (N := 288) (j := 2) c2 (by omega)
  rw [oNa_eq (N := 288) (NN := 288) rfl (by decide), oPR_eq k3]
  generalize zuR (zuN s2 21 288) a 2 (some (zx s2)) = s3 at x3 o3 c3 d3
  have e1 : zx s1 = zx σ + 1 := x1
  have e2 : zx s2 = zx σ + 2 := by omega
  rw [e1] at d2 c2 c3
  rw [e2] at d3 c3
  exact ⟨s3, rfl, by omega, (o1.tr (by omega) o2 (Or.inl rfl)).tr (by omega) o3 (Or.inl rfl), c3, (d1.of o2 (by omega) (by omega)).of o3 (by omega) (by omega), d2.of o3 (by omega) (by omega), d3⟩
/-- the pictures of a reel, up to k -/
def RLs (σ : zS) (a m n0 k : Nat) (Ra : Nat → Option Nat) : Prop := zx σ = n0 + 2 * k ∧ a < n0 ∧ m < n0 ∧ a ≠ m ∧ zcl σ a 6 0 Ra ∧ Ra 0 = some m ∧ (∃ Rm, zcl σ m 22 8 Rm ∧ ∀ f, f < k → Rm f = some (n0 + 2 * f)) ∧ ∀ f, f < k → zcl σ (n0 + 2 * f) 4 0 (zRs zNo 0 (n0 + 2 * f + 1)) ∧ zcl σ (n0 + 2 * f + 1) 21 256 zNo
theorem i_frame {m n0 f : Nat} {Ra : Nat → Option Nat} {ff : Int32} {ρ : Type} {K : zS → Option ρ} (h : RLs σ a m n0 f Ra) (hf : f < 8) (e : ff = nI f) : ∃ s, oGR σ 6 a 0 (fun a3 => oNw σ 4 (fun a4 σ6 => oB (fX3_init σ6 a4) (fun σ7 => oSr σ7 a3 ff a4 K))) = K s ∧ RLs s a m n0 (f + 1) Ra ∧ ∀ b, b ≠ m → zol m σ s := by
  obtain ⟨h1, h2, h3, h4, h5, h6, ⟨Rm, h7, h8⟩, h9⟩ := h
  obtain ⟨n1, n2⟩ := z_new σ 4 0
  obtain ⟨s1, e1, x1, o1, c1, d1⟩ := i_pic n1 (by rw [zx_uN]; omega)
  rw [zx_uN] at x1 c1 d1
  have om1 : zol m σ s1 := (n2 m).tr (by rw [zx_uN]; omega) o1 (Or.inr (Nat.le_refl _))
  have hm1 : zcl s1 m 22 8 Rm := (h7.of (n2 (zx σ)) (by omega) (by omega)).of o1 (by rw [zx_uN]; omega) (by omega)
  obtain ⟨g1, g2, g3⟩ := z_set hm1 f (zx σ)
  have t : (nI f).toInt = (f : Int) := zt_nI (by omega)
  have om : zol m σ (zuR s1 m f (some (zx σ))) := om1.tr (by omega) g2 (Or.inl rfl)
  refine ⟨zuR s1 m f (some (zx σ)), ?_, ⟨by rw [g3]; omega, h2, h3, h4, h5.of om (by omega) h4, h6, ⟨_, g1, fun i hi => ?_⟩, fun i hi => ?_⟩, fun _ _ => om⟩
  · rw [oGR_eq h5.1 ((h5.2.2.2 0).trans h6), oNw_eq, oB_eq e1]
    unfold oSr
    rw [e, if_pos ⟨hm1.1, c1.1, by rw [zle, zt0', t]; omega, by rw [znat, t, Int.toNat_natCast, hm1.2.1]; exact hf⟩, znat, t, Int.toNat_natCast]
  · unfold zRs
    by_cases y : i = f
    · rw [if_pos y, h1, y]
    · rw [if_neg y]
      exact h8 i (by omega)
  · by_cases y : i = f
    · subst y
      rw [h1] at c1 d1
      refine ⟨?_, ?_⟩
      · exact c1.of g2 (by omega) (by omega)
      · exact d1.of g2 (by omega) (by omega)
    · obtain ⟨y1, y2⟩ := h9 i (by omega)
      exact ⟨y1.of om (by omega) (by omega), y2.of om (by omega) (by omega)⟩
theorem i_reel (h : zcl σ a 6 0 zNo) (ha : a < zx σ) : ∃ s, fX5_init σ a = some s ∧ zx s = zx σ + 19 ∧ zol a σ s ∧ zcl s a 6 0 (zRs (zRs zNo 0 (zx σ)) 1 (zx σ + 1)) ∧ (∃ Rm, zcl s (zx σ) 22 8 Rm ∧ ∀ f, f < 8 → Rm f = some (zx σ + 3 + 2 * f)) ∧ (∀ f, f < 8 → zcl s (zx σ + 3 + 2 * f) 4 0 (zRs zNo 0 (zx σ + 3 + 2 * f + 1)) ∧ zcl s (zx σ + 3 + 2 * f + 1) 21 256 zNo) ∧ zcl s (zx σ + 1) 4 0 (zRs zNo 0 (zx σ + 2)) ∧ zcl s (zx σ + 2) 21 256 zNo := by
  obtain ⟨x1, o1, c1, d1, k1⟩ := i_arr (q := 22) (N := 8) (j := 0) h ha
  unfold fX5_init
  rw [oNa_eq (N := 8) (NN := 8) rfl (by decide), oPR_eq k1]
  generalize zuR (zuN σ 22 8) a 0 (some (zx σ)) = s1 at x1 o1 c1 d1
  obtain ⟨n1, n2⟩ := z_new s1 4 0
  obtain ⟨s2, e2, x2, o2, c2, d2⟩ := i_pic n1 (by rw [zx_uN]; omega)
  rw [zx_uN] at x2 c2 d2
  rw [oNw_eq, oB_eq e2]
  have oo : ∀ y, zol y s1 s2 := fun y => (n2 y).tr (by rw [zx_uN]; omega) o2 (Or.inr (Nat.le_refl _))
  have c12 := (c1.of (oo (zx s1)) (by omega) (by omega))
  obtain ⟨g1, g2, g3⟩ := z_set c12 1 (zx s1)
  rw [oPR_eq c12.1]
  have oA : zol a σ (zuR s2 a 1 (some (zx s1))) := (o1.tr (by omega) (oo a) (Or.inl rfl)).tr (by omega) g2 (Or.inl rfl)
  have hp : zcl (zuR s2 a 1 (some (zx s1))) (zx s1) 4 0 (zRs zNo 0 (zx s1 + 1)) := c2.of g2 (by omega) (by omega)
  have hpa : zcl (zuR s2 a 1 (some (zx s1))) (zx s1 + 1) 21 256 zNo := d2.of g2 (by omega) (by omega)
  have hm : zcl (zuR s2 a 1 (some (zx s1))) (zx σ) 22 8 zNo := (d1.of (oo (zx s1)) (by omega) (by omega)).of g2 (by omega) (by omega)
  have hR : RLs (zuR s2 a 1 (some (zx s1))) a (zx σ) (zx σ + 3) 0 (zRs (zRs zNo 0 (zx σ)) 1 (zx s1)) := ⟨by omega, by omega, by omega, by omega, g1, rfl, ⟨_, hm, fun f hf => absurd hf (Nat.not_lt_zero f)⟩, fun f hf => absurd hf (Nat.not_lt_zero f)⟩
  have xe : zx (zuR s2 a 1 (some (zx s1))) = zx σ + 3 := by omega
  generalize zuR s2 a 1 (some (zx s1)) = t0 at oA hp hpa hR xe
  obtain ⟨t1, E1, R1, O1⟩ := i_frame (ff := 0) (K := fun σ8 => oGR σ8 6 a 0 (fun a5 => oNw σ8 4 (fun a6 σ9 => oB (fX3_init σ9 a6) (fun σ10 => oSr σ10 a5 1 a6 (fun σ11 => oGR σ11 6 a 0 (fun a7 => oNw σ11 4 (fun a8 σ12 => oB (fX3_init σ12 a8) (fun σ13 => oSr σ13 a7 2 a8 (fun σ14 => oGR σ14 6 a 0 (fun a9 => oNw σ14 4 (fun a10 σ15 => oB (fX3_init σ15 a10) (fun σ16 => oSr σ16 a9 3 a10 (fun σ17 => oGR σ17 6 a 0 (fun a11 => oNw σ17 4 (fun a12 σ18 => oB (fX3_init σ18 a12) (fun σ19 => oSr σ19 a11 4 a12 (fun σ20 => oGR σ20 6 a 0 (fun a13 => oNw σ20 4 (fun a14 σ21 => oB (fX3_init σ21 a14) (fun σ22 => oSr σ22 a13 5 a14 (fun σ23 => oGR σ23 6 a 0 (fun a15 => oNw σ23 4 (fun a16 σ24 => oB (fX3_init σ24 a16) (fun σ25 => oSr σ25 a15 6 a16 (fun σ26 => oGR σ26 6 a 0 (fun a17 => oNw σ26 4 (fun a18 σ27 => oB (fX3_init σ27 a18) (fun σ28 => oSr σ28 a17 7 a18 (fun σ29 => some σ29))))))))))))))))))))))))))))) hR (by decide) rfl
  rw [E1]
  obtain ⟨t2, E2, R2, O2⟩ := i_frame (ff := 1) (K := fun σ11 => oGR σ11 6 a 0 (fun a7 => oNw σ11 4 (fun a8 σ12 => oB (fX3_init σ12 a8) (fun σ13 => oSr σ13 a7 2 a8 (fun σ14 => oGR σ14 6 a 0 (fun a9 => oNw σ14 4 (fun a10 σ15 => oB (fX3_init σ15 a10) (fun σ16 => oSr σ16 a9 3 a10 (fun σ17 => oGR σ17 6 a 0 (fun a11 => oNw σ17 4 (fun a12 σ18 => oB (fX3_init σ18 a12) (fun σ19 => oSr σ19 a11 4 a12 (fun σ20 => oGR σ20 6 a 0 (fun a13 => oNw σ20 4 (fun a14 σ21 => oB (fX3_init σ21 a14) (fun σ22 => oSr σ22 a13 5 a14 (fun σ23 => oGR σ23 6 a 0 (fun a15 => oNw σ23 4 (fun a16 σ24 => oB (fX3_init σ24 a16) (fun σ25 => oSr σ25 a15 6 a16 (fun σ26 => oGR σ26 6 a 0 (fun a17 => oNw σ26 4 (fun a18 σ27 => oB (fX3_init σ27 a18) (fun σ28 => oSr σ28 a17 7 a18 (fun σ29 => some σ29))))))))))))))))))))))))) R1 (by decide) rfl
  rw [E2]
  obtain ⟨t3, E3, R3, O3⟩ := i_frame (ff := 2) (K := fun σ14 => oGR σ14 6 a 0 (fun a9 => oNw σ14 4 (fun a10 σ15 => oB (fX3_init σ15 a10) (fun σ16 => oSr σ16 a9 3 a10 (fun σ17 => oGR σ17 6 a 0 (fun a11 => oNw σ17 4 (fun a12 σ18 => oB (fX3_init σ18 a12) (fun σ19 => oSr σ19 a11 4 a12 (fun σ20 => oGR σ20 6 a 0 (fun a13 => oNw σ20 4 (fun a14 σ21 => oB (fX3_init σ21 a14) (fun σ22 => oSr σ22 a13 5 a14 (fun σ23 => oGR σ23 6 a 0 (fun a15 => oNw σ23 4 (fun a16 σ24 => oB (fX3_init σ24 a16) (fun σ25 => oSr σ25 a15 6 a16 (fun σ26 => oGR σ26 6 a 0 (fun a17 => oNw σ26 4 (fun a18 σ27 => oB (fX3_init σ27 a18) (fun σ28 => oSr σ28 a17 7 a18 (fun σ29 => some σ29))))))))))))))))))))) R2 (by decide) rfl
  rw [E3]
  obtain ⟨t4, E4, R4, O4⟩ := i_frame (ff := 3) (K := fun σ17 => oGR σ17 6 a 0 (fun a11 => oNw σ17 4 (fun a12 σ18 => oB (fX3_init σ18 a12) (fun σ19 => oSr σ19 a11 4 a12 (fun σ20 => oGR σ20 6 a 0 (fun a13 => oNw σ20 4 (fun a14 σ21 => oB (fX3_init σ21 a14) (fun σ22 => oSr σ22 a13 5 a14 (fun σ23 => oGR σ23 6 a 0 (fun a15 => oNw σ23 4 (fun a16 σ24 => oB (fX3_init σ24 a16) (fun σ25 => oSr σ25 a15 6 a16 (fun σ26 => oGR σ26 6 a 0 (fun a17 => oNw σ26 4 (fun a18 σ27 => oB (fX3_init σ27 a18) (fun σ28 => oSr σ28 a17 7 a18 (fun σ29 => some σ29))))))))))))))))) R3 (by decide) rfl
  rw [E4]
  obtain ⟨t5, E5, R5, O5⟩ := i_frame (ff := 4) (K := fun σ20 => oGR σ20 6 a 0 (fun a13 => oNw σ20 4 (fun a14 σ21 => oB (fX3_init σ21 a14) (fun σ22 => oSr σ22 a13 5 a14 (fun σ23 => oGR σ23 6 a 0 (fun a15 => oNw σ23 4 (fun a16 σ24 => oB (fX3_init σ24 a16) (fun σ25 => oSr σ25 a15 6 a16 (fun σ26 => oGR σ26 6 a 0 (fun a17 => oNw σ26 4 (fun a18 σ27 => oB (fX3_init σ27 a18) (fun σ28 => oSr σ28 a17 7 a18 (fun σ29 => some σ29))))))))))))) R4 (by decide) rfl
  rw [E5]
  obtain ⟨t6, E6, R6, O6⟩ := i_frame (ff := 5) (K := fun σ23 => oGR σ23 6 a 0 (fun a15 => oNw σ23 4 (fun a16 σ24 => oB (fX3_init σ24 a16) (fun σ25 => oSr σ25 a15 6 a16 (fun σ26 => oGR σ26 6 a 0 (fun a17 => oNw σ26 4 (fun a18 σ27 => oB (fX3_init σ27 a18) (fun σ28 => oSr σ28 a17 7 a18 (fun σ29 => some σ29))))))))) R5 (by decide) rfl
  rw [E6]
  obtain ⟨t7, E7, R7, O7⟩ := i_frame (ff := 6) (K := fun σ26 => oGR σ26 6 a 0 (fun a17 => oNw σ26 4 (fun a18 σ27 => oB (fX3_init σ27 a18) (fun σ28 => oSr σ28 a17 7 a18 (fun σ29 => some σ29))))) R6 (by decide) rfl
  rw [E7]
  obtain ⟨t8, E8, R8, O8⟩ := i_frame (ff := 7) (K := fun σ29 => some σ29) R7 (by decide) rfl
  rw [E8]
  have Z1 := O1 a (by omega)
  have Z2 := Z1.tr (by have := R1.1; omega) (O2 a (by omega)) (Or.inl rfl)
  have Z3 := Z2.tr (by have := R2.1; omega) (O3 a (by omega)) (Or.inl rfl)
  have Z4 := Z3.tr (by have := R3.1; omega) (O4 a (by omega)) (Or.inl rfl)
  have Z5 := Z4.tr (by have := R4.1; omega) (O5 a (by omega)) (Or.inl rfl)
  have Z6 := Z5.tr (by have := R5.1; omega) (O6 a (by omega)) (Or.inl rfl)
  have Z7 := Z6.tr (by have := R6.1; omega) (O7 a (by omega)) (Or.inl rfl)
  have Z8 := Z7.tr (by have := R7.1; omega) (O8 a (by omega)) (Or.inl rfl)
  have oF : zol a σ t8 := fun c hc hn => by
    obtain ⟨g1, g2, g3, g4⟩ := oA c hc hn
    obtain ⟨f1, f2, f3, f4⟩ := Z8 c (by omega) (by omega)
    exact ⟨f1.trans g1, f2.trans g2, fun j => (f3 j).trans (g3 j), fun j => (f4 j).trans (g4 j)⟩
  obtain ⟨r1, r2, r3, r4, r5, r6, r7, r8⟩ := R8
  have e1 : zx s1 = zx σ + 1 := x1
  rw [e1] at hp hpa r5
  exact ⟨t8, rfl, by omega, oF, r5, r7, r8, hp.of Z8 (by omega) (by omega), hpa.of Z8 (by omega) (by omega)⟩
end PINIT
