/-! constructors: the class, the reference, both -/
def off (i : Nat) : Nat := if i < 27 then i - 1 else if i < 43 then i + 1 else if i < 45 then i - 17 else if i < 47 then i + 5 else if i < 63 then i + 7 else if i < 65 then i - 11 else i - 21
def Cm (p n i : Nat) : Nat := if i = 0 then p else n + off i
def Bm (p n i : Nat) : Nat := if i = 0 then p else n + (i - 1)
theorem off_inj {i j : Nat} (hi : 0 < i) (hi2 : i < 71) (hj : 0 < j) (hj2 : j < 71) (h : off i = off j) : i = j := by
  unfold off at h
  by_cases a1 : i < 27 <;> by_cases a2 : i < 43 <;> by_cases a3 : i < 45 <;> by_cases a4 : i < 47 <;> by_cases a5 : i < 63 <;> by_cases a6 : i < 65 <;> first | omega | (simp only [a1, a2, a3, a4, a5, a6, ↓reduceIte] at h; by_cases b1 : j < 27 <;> by_cases b2 : j < 43 <;> by_cases b3 : j < 45 <;> by_cases b4 : j < 47 <;> by_cases b5 : j < 63 <;> by_cases b6 : j < 65 <;> first | omega | (simp only [b1, b2, b3, b4, b5, b6, ↓reduceIte] at h; omega))
theorem Cm_inj {p n : Nat} (hp : p < n) : ∀ i j, i < 71 → j < 71 → Cm p n i = Cm p n j → i = j := by
  intro i j hi hj h
  unfold Cm at h
  by_cases a : i = 0
  · by_cases b : j = 0
    · omega
    · rw [if_pos a, if_neg b] at h
      omega
  · by_cases b : j = 0
    · rw [if_neg a, if_pos b] at h
      omega
    · rw [if_neg a, if_neg b] at h
      exact off_inj (by omega) hi (by omega) hj (by omega)
theorem off_r {b c f : Nat} (hb : (b = 25 ∧ c = 24) ∨ (b = 45 ∧ c = 50)) (hf : f < 8) : off (b + (2 + 2 * f)) = c + 4 + 2 * f ∧ off (b + (3 + 2 * f)) = c + 4 + 2 * f + 1 := by
  unfold off
  rcases hb with ⟨z, y⟩ | ⟨z, y⟩ <;> subst z <;> subst y
  · rw [if_neg (by omega), if_pos (by omega), if_neg (by omega), if_pos (by omega)]
    omega
  · rw [if_neg (by omega), if_neg (by omega), if_neg (by omega), if_neg (by omega), if_pos (by omega), if_neg (by omega), if_neg (by omega), if_neg (by omega), if_neg (by omega), if_pos (by omega)]
    omega
section PINIT3
variable {σ s t : zS} {a p c k n : Nat} {R : Nat → Option Nat}
theorem zcl.byl {m N : Nat} (h : zcl s m 2 0 (zRs zNo 0 c)) (h2 : zcl s c 20 N zNo) : BYL s m c N := ⟨h.1, h.2.2.2 0, h2.1, h2.2.1⟩
theorem zcl.pcl {m : Nat} (h : zcl s m 4 0 (zRs zNo 0 c)) (h2 : zcl s c 21 256 zNo) : PCL s m c := ⟨h.1, h.2.2.2 0, h2.1, h2.2.1⟩
theorem zcl.co {m x y z : Nat} (h : zcl s m 3 0 (zRs (zRs (zRs zNo 0 x) 1 y) 2 z)) (h1 : zcl s x 21 16 zNo) (h2 : zcl s y 21 17 zNo) (h3 : zcl s z 21 288 zNo) (xy : x ≠ y) (xz : x ≠ z) (yz : y ≠ z) : CO s m x y z := ⟨h.1, h.2.2.2 0, h.2.2.2 1, h.2.2.2 2, h1.1, h1.2.1, h2.1, h2.2.1, h3.1, h3.2.1, xy, xz, yz⟩
theorem i_rll {b c : Nat} (hb : (b = 25 ∧ c = 24) ∨ (b = 45 ∧ c = 50)) (h : RCs s (n + c) (n + (c + 1))) : RLL s (fun i => Cm p n (b + i)) := by
  have hq : ∀ f, f < 8 → Cm p n (b + (2 + 2 * f)) = n + (c + 1) + 3 + 2 * f ∧ Cm p n (b + (3 + 2 * f)) = n + (c + 1) + 3 + 2 * f + 1 := fun f hf => by
    obtain ⟨o1, o2⟩ := off_r hb hf
    unfold Cm
    rw [if_neg (by omega), if_neg (by omega), o1, o2]
    omega
  have h0 : Cm p n (b + 0) = n + c := by rcases hb with ⟨z, y⟩ | ⟨z, y⟩ <;> subst z <;> subst y <;> rfl
  have h1 : Cm p n (b + 1) = n + (c + 1) := by rcases hb with ⟨z, y⟩ | ⟨z, y⟩ <;> subst z <;> subst y <;> rfl
  have h18 : Cm p n (b + 18) = n + (c + 1) + 1 := by rcases hb with ⟨z, y⟩ | ⟨z, y⟩ <;> subst z <;> subst y <;> rfl
  have h19 : Cm p n (b + 19) = n + (c + 1) + 2 := by rcases hb with ⟨z, y⟩ | ⟨z, y⟩ <;> subst z <;> subst y <;> rfl
  obtain ⟨g1, ⟨Rm, g2, g3⟩, g4, g5, g6⟩ := h
  refine ⟨?_, ?_, ?_, ?_, ?_, fun f hf => ?_, fun f hf => ?_⟩
  · show zk s (Cm p n (b + 0)) = 6
    rw [h0]; exact g1.1
  · show zr s (Cm p n (b + 0)) 0 = some (Cm p n (b + 1))
    rw [h0, h1]; exact g1.2.2.2 0
  · show zr s (Cm p n (b + 0)) 1 = some (Cm p n (b + 18))
    rw [h0, h18]; exact g1.2.2.2 1
  · show zk s (Cm p n (b + 1)) = 22
    rw [h1]; exact g2.1
  · show zn s (Cm p n (b + 1)) = 8
    rw [h1]; exact g2.2.1
  · show zr s (Cm p n (b + 1)) f = some (Cm p n (b + (2 + 2 * f)))
    rw [h1, (hq f hf).1, g2.2.2.2 f]
    exact g3 f hf
  · show PCL s (Cm p n (b + (2 + 2 * f))) (Cm p n (b + (3 + 2 * f)))
    by_cases y : f < 8
    · rw [(hq f y).1, (hq f y).2]
      exact (g4 f y).1.pcl (g4 f y).2
    · have y8 : f = 8 := by omega
      subst y8
      show PCL s (Cm p n (b + 18)) (Cm p n (b + 19))
      rw [h18, h19]
      exact g5.pcl g6
theorem i_main (h : zcl σ p 11 0 zNo) (hp : p < zx σ) : ∃ s, fX11_init σ p = some s ∧ zx s = zx σ + 70 ∧ zol p σ s ∧ CS s (Cm p (zx σ)) 45 25 [] (fun _ => 0) (fun _ _ => 0) (fun _ _ => 0) 0 0 (fun _ => 0) [] (-1) := by
  unfold fX11_init
  obtain ⟨q1, r1⟩ := z_new σ 8 0
  obtain ⟨t1, e1, x1, o1, c1, d1⟩ := i_sums q1 (by rw [zx_uN]; omega)
  rw [zx_uN] at x1 c1 d1
  rw [oNw_eq, oB_eq e1]
  have S1 : zol p σ t1 := (r1 p).tr (by rw [zx_uN]; omega) o1 (Or.inr (Nat.le_refl _))
  have h1 : zcl t1 p 11 0 zNo := (h.of (r1 (zx σ)) hp (by omega)).of o1 (by rw [zx_uN]; omega) (by omega)
  obtain ⟨q2, -⟩ := z_new t1 2 0
  obtain ⟨t2, e2, x2, o2, c2, d2⟩ := i_bytes (N := 8000) (NN := 8000) q2 (by rw [zx_uN]; omega) rfl (by decide)
  rw [zx_uN] at x2 c2 d2
  obtain ⟨k2, S2, h2, T2⟩ := i_child (j := 0) h1 (by omega) o2 (by omega)
  rw [oNw_eq, oB_eq e2, oPR_eq k2]
  have X2 : zx (zuR t2 p 0 (some (zx t1))) = zx σ + 4 := by show zx t2 = _; omega
  have A1 := c2.of T2 (by omega) (by omega)
  have A2 := d2.of T2 (by omega) (by omega)
  generalize zuR t2 p 0 (some (zx t1)) = u2 at S2 h2 T2 X2 A1 A2
  obtain ⟨q3, r3⟩ := z_new u2 5 0
  have h2' := h2.of (r3 (zx u2)) (by omega) (by omega)
  have r30 : zr (zuN u2 5 0) p 0 = some (zx t1) := h2'.2.2.2 0
  obtain ⟨t3, e3, x3, o3, c3, d3, f3⟩ := i_reader (p1 := zx t1) (p2 := zx σ) q3 (by rw [zx_uN]; omega)
  rw [zx_uN] at x3 c3 d3 f3
  obtain ⟨k3, S3, h3, T3⟩ := i_child (j := 1) h2 (by omega) o3 (by omega)
  rw [oNw_eq, oGR_eq h2'.1 r30, oB_eq e3, oPR_eq k3]
  have X3 : zx (zuR t3 p 1 (some (zx u2))) = zx σ + 44 := by show zx t3 = _; omega
  have D1 := c3.of T3 (by omega) (by omega)
  have D2 := d3.of T3 (by omega) (by omega) (by omega) (by omega)
  have D3 := f3.of T3 (by omega) (by omega) (by omega) (by omega)
  generalize zuR t3 p 1 (some (zx u2)) = u3 at S3 h3 T3 X3 D1 D2 D3
  obtain ⟨q4, -⟩ := z_new u3 10 0
  obtain ⟨t4, e4, x4, o4, c4, d4, f4⟩ := i_writer (p1 := zx σ) q4 (by rw [zx_uN]; omega)
  rw [zx_uN] at x4 c4 d4 f4
  obtain ⟨k4, S4, h4, T4⟩ := i_child (j := 2) h3 (by omega) o4 (by omega)
  rw [oNw_eq, oB_eq e4, oPR_eq k4]
  have X4 : zx (zuR t4 p 2 (some (zx u3))) = zx σ + 47 := by show zx t4 = _; omega
  have E1 := c4.of T4 (by omega) (by omega)
  have E2 := d4.of T4 (by omega) (by omega)
  have E3 := f4.of T4 (by omega) (by omega)
  generalize zuR t4 p 2 (some (zx u3)) = u4 at S4 h4 T4 X4 E1 E2 E3
  obtain ⟨q5, -⟩ := z_new u4 7 0
  obtain ⟨t5, e5, x5, o5, c5, d5, f5⟩ := i_screen q5 (by rw [zx_uN]; omega)
  rw [zx_uN] at x5 c5 d5 f5
  obtain ⟨k5, S5, h5, T5⟩ := i_child (j := 3) h4 (by omega) o5 (by omega)
  rw [oNw_eq, oB_eq e5, oPR_eq k5]
  have X5 : zx (zuR t5 p 3 (some (zx u4))) = zx σ + 50 := by show zx t5 = _; omega
  have F1 := c5.of T5 (by omega) (by omega)
  have F2 := d5.of T5 (by omega) (by omega)
  have F3 := f5.of T5 (by omega) (by omega)
  generalize zuR t5 p 3 (some (zx u4)) = u5 at S5 h5 T5 X5 F1 F2 F3
  obtain ⟨q6, -⟩ := z_new u5 6 0
  obtain ⟨t6, e6, x6, o6, c6⟩ := i_reel q6 (by rw [zx_uN]; omega)
  rw [zx_uN] at x6 c6
  have c6' : RCs t6 (zx u5) (zx u5 + 1) := c6
  obtain ⟨k6, S6, h6, T6⟩ := i_child (j := 4) h5 (by omega) o6 (by omega)
  rw [oNw_eq, oB_eq e6, oPR_eq k6]
  have X6 : zx (zuR t6 p 4 (some (zx u5))) = zx σ + 70 := by show zx t6 = _; omega
  have G1 := c6'.of T6 (by omega) (by omega) (by omega) (by omega)
  generalize zuR t6 p 4 (some (zx u5)) = u6 at S6 h6 T6 X6 G1
  rw [oPI_eq h6.1]
  have S7 : zol p u6 (zuI u6 p 5 (-1)) := fun y _ hn => ⟨rfl, rfl, fun j => by rw [zi_uI, if_neg (fun z => hn z.1)], fun _ => rfl⟩
  have X7 : zx (zuI u6 p 5 (-1)) = zx σ + 70 := X6
  have k7 : zk (zuI u6 p 5 (-1)) p = 11 := h6.1
  have r7 : ∀ j, zr (zuI u6 p 5 (-1)) p j = zRs (zRs (zRs (zRs (zRs zNo 0 (zx t1)) 1 (zx u2)) 2 (zx u3)) 3 (zx u4)) 4 (zx u5) j := h6.2.2.2
  have i7 : zi (zuI u6 p 5 (-1)) p 5 = -1 := by rw [zi_uI, if_pos ⟨rfl, rfl⟩]
  generalize zuI u6 p 5 (-1) = u7 at S7 X7 k7 r7 i7
  have Z6 := S7
  have Z5 := S6.tr (by omega) Z6 (Or.inl rfl)
  have Z4 := S5.tr (by omega) Z5 (Or.inl rfl)
  have Z3 := S4.tr (by omega) Z4 (Or.inl rfl)
  have Z2 := S3.tr (by omega) Z3 (Or.inl rfl)
  have Z1 := S2.tr (by omega) Z2 (Or.inl rfl)
  have Z0 := S1.tr (by omega) Z1 (Or.inl rfl)
  have y1 : zx t1 = zx σ + 2 := by omega
  rw [y1] at A1 A2 D1 r7
  rw [X2] at D1 D2 D3 r7
  rw [X3] at E1 E2 E3 r7
  rw [X4] at F1 F2 F3 r7
  rw [X5] at G1 r7
  have a1 := c1.of Z1 (by omega) (by omega)
  have a2 := d1.of Z1 (by omega) (by omega)
  have a3 := A1.of Z2 (by omega) (by omega)
  have a4 := A2.of Z2 (by omega) (by omega)
  have a5 := D1.of Z3 (by omega) (by omega)
  have a6 := D2.of Z3 (by omega) (by omega) (by omega) (by omega)
  have a7 := D3.of Z3 (by omega) (by omega) (by omega) (by omega)
  have a8 := E1.of Z4 (by omega) (by omega)
  have a9 := E2.of Z4 (by omega) (by omega)
  have a10 := E3.of Z4 (by omega) (by omega)
  have a11 := F1.of Z5 (by omega) (by omega)
  have a12 := F2.of Z5 (by omega) (by omega)
  have a13 := F3.of Z5 (by omega) (by omega)
  have a14 := G1.of Z6 (by omega) (by omega) (by omega) (by omega)
  generalize zx σ = n at *
  obtain ⟨b1, ⟨b2, b3⟩, ⟨b4, b5⟩, b6, ⟨b7, b8, b9, b10⟩, ⟨b11, b12, b13, b14⟩, ⟨b15, b16, b17, b18⟩, b19⟩ := a6
  have hinj := Cm_inj (p := p) (n := n) hp
  have hRL1 : RLL u7 (fun i => Cm p n (25 + i)) := i_rll (Or.inl ⟨rfl, rfl⟩) a7
  have hRL2 : RLL u7 (fun i => Cm p n (45 + i)) := i_rll (Or.inr ⟨rfl, rfl⟩) a14
  have hUL : UL u7 (fun i => Cm p n (6 + i)) := ⟨fun i j hi hj e => by have := hinj (6 + i) (6 + j) (by omega) (by omega) e; omega, b1.1, b1.2.2.2 0, b1.2.2.2 1, b1.2.2.2 2, b1.2.2.2 3, b1.2.2.2 4, b1.2.2.2 5, b1.2.2.2 6, b19.1, b19.2.1, b6.1, b6.2.2.2 0, b7.co b8 b9 b10 (by omega) (by omega) (by omega), b11.co b12 b13 b14 (by omega) (by omega) (by omega), b15.co b16 b17 b18 (by omega) (by omega) (by omega)⟩
  have hCLL : CLL u7 (Cm p n) := ⟨hinj, ⟨k7, r7 0, r7 1, r7 2, r7 3⟩, ⟨a1.1, a1.2.2.2 0, a2.1, a2.2.1⟩, a3.byl a4, ⟨a5.1, a5.2.2.2 0, a5.2.2.2 1, a5.2.2.2 2⟩, hUL, b2.byl b3, b4.byl b5, hRL1, hRL2, ⟨a8.1, a8.2.2.2 0, a8.2.2.2 1⟩, a9.byl a10, ⟨a11.1, a11.2.2.2 0, a11.2.2.2 1, ⟨a12.1, a12.2.1⟩, a13.1, a13.2.1⟩⟩
  refine ⟨u7, rfl, by omega, Z0, hCLL, r7 4, a5.2.2.2 3, a2.2.2, ⟨⟨a3.1, a3.2.2.2 0, a4.1, a4.2.1, a3.2.2.1 1, Nat.zero_le _, by decide⟩, fun j hj => absurd hj (Nat.not_lt_zero j)⟩, ?_, ⟨a11.2.2.1 2, a11.2.2.1 3, fun i hi => absurd hi (by simp)⟩, ⟨⟨a9.1, a9.2.2.2 0, a10.1, a10.2.1, a9.2.2.1 1, Nat.zero_le _, by decide⟩, fun j hj => absurd hj (Nat.not_lt_zero j)⟩, i7⟩
  obtain ⟨g1, -, -, g5, -⟩ := a14
  exact ⟨⟨g1.2.2.1 2, g1.2.2.1 3, g1.2.2.1 4, g1.2.2.1 5, g1.2.2.1 6, g1.2.2.1 7⟩, ⟨g5.2.2.1 1, g5.2.2.1 2⟩, fun f hf => absurd hf (Nat.not_lt_zero f), fun f hf => absurd hf (Nat.not_lt_zero f), fun _ i hi => absurd hi (by simp)⟩
end PINIT3
