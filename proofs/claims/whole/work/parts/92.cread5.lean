/-! the class's read -/
def zsO (C : Nat → Nat) (σ s : zS) : Prop := zk s = zk σ ∧ zn s = zn σ ∧ zl s = zl σ ∧ zx s = zx σ ∧ ∀ a, (∀ i, i < 71 → a ≠ C i) → ∀ j, zr s a j = zr σ a j ∧ zi s a j = zi σ a j
section PCREAD5
variable {σ s t : zS} {C : Nat → Nat} {b b' : Nat} {tp pk : List Nat} {ab : Nat → Nat} {rg px : Nat → Nat → Nat}
theorem zsO.trans (h : zsO C σ s) (h2 : zsO C s t) : zsO C σ t := ⟨h2.1.trans h.1, h2.2.1.trans h.2.1, h2.2.2.1.trans h.2.2.1, h2.2.2.2.1.trans h.2.2.2.1, fun a ha j => ⟨(h2.2.2.2.2 a ha j).1.trans (h.2.2.2.2 a ha j).1, (h2.2.2.2.2 a ha j).2.trans (h.2.2.2.2 a ha j).2⟩⟩
theorem zsO.ofq {P : Nat → Prop} (h : zsq C P σ s) : zsO C σ s := ⟨h.1, h.2.1, h.2.2.1, h.2.2.2.1, fun a ha j => ⟨h.2.2.2.2.1 a j (fun z => ha 5 (by decide) z.1), h.2.2.2.2.2 a j (fun ⟨i, hi, _, e⟩ => ha i hi e)⟩⟩
theorem zsO.uI {i k : Nat} {v : Int32} (hi : i < 71) : zsO C σ (zuI σ (C i) k v) := ⟨rfl, rfl, rfl, rfl, fun a ha j => ⟨rfl, by rw [zi_uI, if_neg (fun z => ha i hi z.1)]⟩⟩
theorem zsO.uR {i k : Nat} {v : Option Nat} (hi : i < 71) : zsO C σ (zuR σ (C i) k v) := ⟨rfl, rfl, rfl, rfl, fun a ha j => ⟨by rw [zr_uR, if_neg (fun z => ha i hi z.1)], rfl⟩⟩
theorem KC.rc {q ser tl hd : Nat} {bf : Int32} (hb : isR b) (hK : KC σ C b tp (q, bf, ser, tl, hd, ab, rg, px, pk)) (h6 : kd bf = 6) (h1 : hd = 1) : RC σ (fun i => C (b + i)) ab rg px ∧ WFr ab rg := by
  obtain ⟨h, -, -, hT, hW⟩ := hK
  have k0 : kd bf ≠ 0 := by omega
  obtain ⟨v1, v2, v3, v4⟩ := hW.2.2.1 k0
  obtain ⟨b0, b1, b2, b4, b5, -⟩ := v1.b
  obtain ⟨hR, hpl⟩ := hT.2.1 k0
  obtain ⟨⟨g1, g2, g3, g4, g6⟩, ⟨g7, g8⟩, g9, g10⟩ := hR
  refine ⟨⟨⟨g1, g2, g3, g4, hpl (hW.2.2.2.1 h1), g6⟩, ⟨g7, g8⟩, g9, fun f hf i hi => ?_, fun h5 i hi => ?_⟩, v1⟩
  · exact (g10 f (Or.inl ⟨hf, by omega, by omega⟩)).2 i (by unfold pdN; rw [if_neg (by omega)]; exact hi)
  · exact (g10 8 (Or.inr ⟨rfl, h5, h1, by omega⟩)).2 i (by unfold pdN; rw [if_pos rfl]; exact hi)
theorem c_read (h : CLL σ C) (hb : isR b) (hb' : isR b') (hr : zr σ (C 0) 4 = some (C b)) (hr' : zr σ (C 5) 3 = some (C b')) (ht : BL σ (C 3) (C 4) 8000 tp) (hs : SMT σ (C 2)) :
    ∃ s, zsO C σ s ∧ CLL s C ∧ BL s (C 3) (C 4) 8000 [] ∧ (∀ j, j < 71 → j ≠ 0 → j ≠ 3 → j ≠ 68 → ¬ PRd b' j → ∀ k, zi s (C j) k = zi σ (C j) k) ∧ ((∃ r p, readS tp = .inl (r, p) ∧ p ≤ 8000 ∧ fX11_read σ (C 0) = some (-r, s) ∧ zr s (C 0) 4 = some (C b) ∧ zr s (C 5) 3 = some (C b') ∧ zi s (C 0) 5 = nI p ∧ ∀ k, zi s (C 68) k = zi σ (C 68) k) ∨ (∃ q bf ser tl hd ab rg px pk, readS tp = .inr (q, bf, ser, tl, hd, ab, rg, px, pk) ∧ fX11_read σ (C 0) = some (nI (ab 4), s) ∧ zr s (C 0) 4 = some (C b') ∧ zr s (C 5) 3 = some (C b) ∧ zi s (C 0) 5 = -1 ∧ RC s (fun i => C (b' + i)) ab rg px ∧ WFr ab rg ∧ SCc s C 0 0 (fun _ => 0))) := by
  have hlt := hb.lt
  have hlt' := hb'.lt
  have h25 : 25 ≤ b := by rcases hb with z | z <;> omega
  have h25' : 25 ≤ b' := by rcases hb' with z | z <;> omega
  have hKB : KB σ C b' tp := ⟨h, hr', ht, hs⟩
  obtain ⟨r, s1, e1, z1, hR⟩ := k_run hb' hKB
  have h1 := hKB.of hb' z1
  have hr1 : zr s1 (C 0) 4 = some (C b) := by rw [z1.r h (by decide) 4 (Or.inl (by decide))]; exact hr
  obtain ⟨e2, B2⟩ := s_clearY (σ := s1) (p := C 3) (c := C 4) (N := 8000) ⟨h1.2.2.1.1.1, h1.2.2.1.1.2.1, h1.2.2.1.1.2.2.1, h1.2.2.1.1.2.2.2.1⟩ (by decide)
  have h2 : CLL (zuI s1 (C 3) 1 0) C := h1.1.of (zsm1 (b := C 3))
  have o2 : zsO C σ (zuI s1 (C 3) 1 0) := (zsO.ofq z1).trans (zsO.uI (by decide))
  have i2 : ∀ j, j < 71 → j ≠ 3 → ∀ k, zi (zuI s1 (C 3) 1 0) (C j) k = zi s1 (C j) k := fun j hj h3 k => by rw [zi_uI, if_neg (fun z => h3 (h.1 j 3 hj (by decide) z.1))]
  have r2 : zr (zuI s1 (C 3) 1 0) (C 0) 4 = some (C b) := hr1
  have r25 : zr (zuI s1 (C 3) 1 0) (C 5) 3 = some (C b') := h1.2.1
  have i1 : ∀ j, j < 71 → ¬ PRd b' j → ∀ k, zi s1 (C j) k = zi σ (C j) k := fun j hj hp k => z1.i h hj hp k
  unfold fX11_read
  rw [oGR_eq h.k0 h.rd, oA_eq h.k5, oC_eq e1, oGR_eq h1.1.k0 h1.1.tp, oA_eq h1.2.2.1.1.1, oB_eq e2]
  generalize zuI s1 (C 3) 1 0 = s2 at B2 h2 o2 i2 r2 r25
  rcases hR with ⟨p, y1, y2, y3, y4⟩ | ⟨R, y1, y2, y3, y4, y5⟩
  · rw [if_neg y2, oGR_eq h2.k0 h2.rd, oGI_eq h2.k5 ((i2 5 (by decide) (by decide) 5).trans y4), oPI_eq h2.k0]
    have n0 : ∀ j, j < 71 → j ≠ 0 → C j ≠ C 0 := fun j hj h0 e => h0 (h.1 j 0 hj (by decide) e)
    refine ⟨zuI s2 (C 0) 5 (nI p), o2.trans (zsO.uI (by decide)), h2.of (zsm1 (b := C 0)), B2.of (zsm1 (b := C 0)) (h.ne 3 0) (h.ne 4 0), fun j hj j0 j3 j68 jp k => ?_, Or.inl ⟨r, p, y1, y3, rfl, r2, r25, by rw [zi_uI, if_pos ⟨rfl, rfl⟩], fun k => ?_⟩⟩
    · rw [zi_uI, if_neg (fun z => n0 j hj j0 z.1), i2 j hj j3, i1 j hj jp]
    · rw [zi_uI, if_neg (fun z => n0 68 (by decide) (by decide) z.1), i2 68 (by decide) (by decide), i1 68 (by decide) (PRd.no hb' (by decide))]
  · obtain ⟨q, bf, ser, tl, hd, ab, rg, px, pk⟩ := R
    dsimp only at y4 y5
    subst y2
    obtain ⟨hRC, hw⟩ := KC.rc hb' y3 y4 y5
    rw [if_pos rfl, oPI_eq h2.k0]
    have h3 : CLL (zuI s2 (C 0) 5 (-1)) C := h2.of (zsm1 (b := C 0))
    have r3 : zr (zuI s2 (C 0) 5 (-1)) (C 0) 4 = some (C b) := r2
    have r35 : zr (zuI s2 (C 0) 5 (-1)) (C 5) 3 = some (C b') := r25
    have o3 : zsO C σ (zuI s2 (C 0) 5 (-1)) := o2.trans (zsO.uI (by decide))
    have i3 : ∀ j, j < 71 → j ≠ 0 → ∀ k, zi (zuI s2 (C 0) 5 (-1)) (C j) k = zi s2 (C j) k := fun j hj h0 k => by rw [zi_uI, if_neg (fun z => h0 (h.1 j 0 hj (by decide) z.1))]
    have i305 : zi (zuI s2 (C 0) 5 (-1)) (C 0) 5 = -1 := by rw [zi_uI, if_pos ⟨rfl, rfl⟩]
    have B3 : BL (zuI s2 (C 0) 5 (-1)) (C 3) (C 4) 8000 [] := B2.of (zsm1 (b := C 0)) (h.ne 3 0) (h.ne 4 0)
    generalize zuI s2 (C 0) 5 (-1) = s3 at h3 r3 r35 o3 i3 i305 B3
    have ex : fX4_exchange s3 (C 5) (C b) = some (C b', zuR s3 (C 5) 3 (some (C b))) := by
      unfold fX4_exchange
      rw [oGR_eq h3.k5 r35, oPR_eq h3.k5]
    have ha : ∀ i j, i < 71 → (i ≠ 5 ∨ j ≤ 2) → (i ≠ 0 ∨ j ≤ 3) → zr (zuR (zuR s3 (C 5) 3 (some (C b))) (C 0) 4 (some (C b'))) (C i) j = zr s3 (C i) j := fun i j hi h5 h0 => by
      rw [zr_uR, if_neg (fun z => by have := h.1 i 0 hi (by decide) z.1; omega), zr_uR, if_neg (fun z => by have := h.1 i 5 hi (by decide) z.1; omega)]
    have h5 : CLL (zuR (zuR s3 (C 5) 3 (some (C b))) (C 0) 4 (some (C b'))) C := h3.ofr rfl rfl ha
    have k0' : zk (zuR s3 (C 5) 3 (some (C b))) (C 0) = 11 := h3.k0
    have r504 : zr (zuR (zuR s3 (C 5) 3 (some (C b))) (C 0) 4 (some (C b'))) (C 0) 4 = some (C b') := by rw [zr_uR, if_pos ⟨rfl, rfl⟩]
    have r553 : zr (zuR (zuR s3 (C 5) 3 (some (C b))) (C 0) 4 (some (C b'))) (C 5) 3 = some (C b) := by
      rw [zr_uR, if_neg (fun z => absurd z.1 (h.ne 5 0)), zr_uR, if_pos ⟨rfl, rfl⟩]
    have o5 : zsO C σ (zuR (zuR s3 (C 5) 3 (some (C b))) (C 0) 4 (some (C b'))) := (o3.trans (zsO.uR (by decide))).trans (zsO.uR (by decide))
    have i5 : zi (zuR (zuR s3 (C 5) 3 (some (C b))) (C 0) 4 (some (C b'))) = zi s3 := rfl
    have B5 : BL (zuR (zuR s3 (C 5) 3 (some (C b))) (C 0) 4 (some (C b'))) (C 3) (C 4) 8000 [] := by
      obtain ⟨⟨x1, x2, x3, x4, x5⟩, x6⟩ := B3
      exact ⟨⟨x1, by rw [zr_uR, if_neg (fun z => absurd z.1 (h.ne 3 0)), zr_uR, if_neg (fun z => absurd z.1 (h.ne 3 5))]; exact x2, x3, x4, x5⟩, x6⟩
    rw [oGR_eq h3.k0 h3.rd, oGR_eq h3.k0 r3, oA_eq h3.k5, oC_eq ex, oPR_eq k0']
    generalize zuR (zuR s3 (C 5) 3 (some (C b))) (C 0) 4 (some (C b')) = s5 at h5 r504 r553 o5 i5 B5
    have hf := s_forget h5
    have m6 : zsm (fun a => a = C 68) s5 (zuI (zuI s5 (C 68) 2 0) (C 68) 3 0) := zsm2
    have h6 := h5.of m6
    have hS6 : SCc (zuI (zuI s5 (C 68) 2 0) (C 68) 3 0) C 0 0 (fun _ => 0) := SCc.forget
    rw [oGR_eq h5.k0 h5.sc, oA_eq h5.scl.1, oB_eq hf]
    generalize zuI (zuI s5 (C 68) 2 0) (C 68) 3 0 = s6 at m6 h6 hS6
    have r604 : zr s6 (C 0) 4 = some (C b') := by rw [m6.r]; exact r504
    have hall : ∀ j, j < 71 → j ≠ 0 → j ≠ 3 → j ≠ 68 → ∀ k, zi s6 (C j) k = zi s1 (C j) k := fun j hj j0 j3 j68 k => by
      rw [m6.i (fun z => j68 (h.1 j 68 hj (by decide) z)), i5, i3 j hj j0, i2 j hj j3]
    obtain ⟨⟨g1, g2, g3, g4, g5, g6⟩, ⟨g7, g8⟩, g9, g10, g11⟩ := hRC
    obtain ⟨-, -, -, b4, -⟩ := hw.b
    have qq : ∀ j, j < 20 → ∀ k, zi s6 (C (b' + j)) k = zi s1 (C (b' + j)) k := fun j hj k => hall (b' + j) (by omega) (by omega) (by omega) (by omega) k
    have hRC6 : RC s6 (fun i => C (b' + i)) ab rg px := ⟨⟨(qq 0 (by decide) 2).trans g1, (qq 0 (by decide) 3).trans g2, (qq 0 (by decide) 4).trans g3, (qq 0 (by decide) 5).trans g4, (qq 0 (by decide) 6).trans g5, (qq 0 (by decide) 7).trans g6⟩, ⟨(qq 18 (by decide) 1).trans g7, (qq 18 (by decide) 2).trans g8⟩, fun f hf k hk => (qq (2 + 2 * f) (by omega) _).trans (g9 f hf k hk), fun f hf i hi => (qq (3 + 2 * f) (by omega) _).trans (g10 f hf i hi), fun h5 i hi => (qq 19 (by decide) _).trans (g11 h5 i hi)⟩
    have kb6 : zk s6 (C b') = 6 := (h6.rl hb').1
    have g7' : zi s6 (C b') 7 = nI (ab 4) := hRC6.1.2.2.2.2.2
    have o6 : zsO C s5 s6 := ⟨m6.k, m6.n, m6.l, m6.x, fun a ha j => ⟨by rw [m6.r], m6.i (fun z => ha 68 (by decide) z) j⟩⟩
    refine ⟨s6, o5.trans o6, h6, B5.of m6 (h.ne 3 68) (h.ne 4 68), fun j hj j0 j3 j68 jp k => (hall j hj j0 j3 j68 k).trans (i1 j hj jp k), Or.inr ⟨q, bf, ser, tl, hd, ab, rg, px, pk, y1, ?_, r604, by rw [m6.r]; exact r553, by rw [m6.i (h.ne 0 68), i5]; exact i305, hRC6, hw, hS6⟩⟩
    rw [oGR_eq h6.k0 r604, oGI_eq kb6 g7']
end PCREAD5
