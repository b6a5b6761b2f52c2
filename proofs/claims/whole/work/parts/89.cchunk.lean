/-! the class's reader: a chunk, the run, read -/
theorem zuI_comm {σ : zS} {a k c l : Nat} {v w : Int32} (h : a ≠ c) : zuI (zuI σ a k v) c l w = zuI (zuI σ c l w) a k v := by
  unfold zuI
  congr 1
  congr 1
  congr 1
  funext b j
  show (if b = c ∧ j = l then w else if b = a ∧ j = k then v else zi σ b j) = (if b = a ∧ j = k then v else if b = c ∧ j = l then w else zi σ b j)
  by_cases q : b = a ∧ j = k
  · rw [if_pos q, if_pos q, if_neg (fun z => h (q.1.symm.trans z.1))]
  · rw [if_neg q, if_neg q]
def KC (σ : zS) (C : Nat → Nat) (b : Nat) (tp : List Nat) : zRS → Prop
  | (q, bf, ser, tl, hd, ab, rg, px, pk) => KB σ C b tp ∧ zi σ (C 5) 6 = nI q ∧ zi σ (C 5) 7 = bf ∧ KT σ C b (Fn (kd bf) hd ab) (q, bf, ser, tl, hd, ab, rg, px, pk) ∧ WFk tp (kd bf) q ser tl hd ab rg pk
section PCCHUNK
variable {σ s t : zS} {C A : Nat → Nat} {P : Nat → Prop} {b : Nat} {tp pk : List Nat} {ab : Nat → Nat} {rg px : Nat → Nat → Nat} {fn : Nat → Prop}
theorem u_unpackW (hU : UL σ A) (hB : BL σ (A 1) (A 2) 8000 pk) (hY : BYL σ (A 3) (A 4) 1100) : ∃ r s, fX9_unpack σ (A 0) = some (r, s) ∧ zsm (UF A) σ s ∧ ((unpackS pk = none ∧ r = 0) ∨ ∃ o p', unpackS pk = some o ∧ r = 1 ∧ US s A pk o p') := by
  obtain ⟨l1, l2, l3, l4, l5, l6, l7, l8, l9, l10, l11, l12, -⟩ := id hU
  obtain ⟨e1, B1⟩ := s_clearY hY (by decide)
  have m1 : zsm (fun a => a = A 3) σ (zuI σ (A 3) 1 0) := zsm1
  have hU1 := hU.of m1
  have hB1 := hB.of m1 (hU.ne 1 3) (hU.ne 2 3)
  have m2 : zsm (fun a => a = A 5) (zuI σ (A 3) 1 0) (zuI (zuI σ (A 3) 1 0) (A 5) 1 0) := zsm1
  have hS : US (zuI (zuI σ (A 3) 1 0) (A 5) 1 0) A pk [] 0 := ⟨hU1.of m2, hB1.of m2 (hU.ne 1 5) (hU.ne 2 5), B1.of m2 (hU.ne 3 5) (hU.ne 4 5), by rw [zi_uI, if_pos ⟨rfl, rfl⟩]; rfl, Nat.zero_le _⟩
  have mU : zsm (UF A) σ (zuI σ (A 3) 1 0) := m1.mono (fun a z => ⟨3, by decide, z⟩)
  have mU2 : zsm (UF A) σ (zuI (zuI σ (A 3) 1 0) (A 5) 1 0) := mU.uI ⟨5, by decide, rfl⟩
  have st1 := u_startW hU1 hB1
  have k9 : zk (zuI σ (A 3) 1 0) (A 0) = 9 := l2
  by_cases c : startS pk = true
  · rw [if_pos c] at st1
    obtain ⟨r, s, e, m, hr⟩ := u_unpack hS
    refine ⟨r, s, ?_, mU2.trans m, hr⟩
    rw [← e]
    obtain ⟨e2, B2, m3⟩ := s_clearL hS.2.2.1
    have hU2 := hS.1.of m3
    have hB2 := hS.2.1.of m3 (hU.ne 1 3) (hU.ne 2 3)
    have st2 := u_startW hU2 hB2
    rw [if_pos c] at st2
    have es : zuI (zuI (zuI (zuI σ (A 3) 1 0) (A 5) 1 0) (A 3) 1 0) (A 5) 1 16 = zuI (zuI σ (A 3) 1 0) (A 5) 1 16 := by
      rw [zuI_comm (σ := zuI σ (A 3) 1 0) (hU.ne 5 3), zuI_uI, zuI_uI]
    have k3 : zk (zuI (zuI σ (A 3) 1 0) (A 5) 1 0) (A 3) = 2 := hY.1
    have k9' : zk (zuI (zuI (zuI σ (A 3) 1 0) (A 5) 1 0) (A 3) 1 0) (A 0) = 9 := l2
    have r1' : zr (zuI (zuI σ (A 3) 1 0) (A 5) 1 0) (A 0) 1 = some (A 3) := l4
    have r2 : zr (zuI σ (A 3) 1 0) (A 0) 2 = some (A 5) := l5
    have r2' : zr (zuI (zuI (zuI σ (A 3) 1 0) (A 5) 1 0) (A 3) 1 0) (A 0) 2 = some (A 5) := l5
    have k0' : zk (zuI (zuI σ (A 3) 1 0) (A 5) 1 0) (A 0) = 9 := l2
    have k5 : zk (zuI σ (A 3) 1 0) (A 5) = 1 := l12
    have k5' : zk (zuI (zuI (zuI σ (A 3) 1 0) (A 5) 1 0) (A 3) 1 0) (A 5) = 1 := l12
    unfold fX9_unpack
    congr 1
    unfold gX9_unpack
    rw [oGR_eq l2 l4, oA_eq hY.1, oB_eq e1, oA_eq k9, oB_eq st1, if_neg (by decide), oGR_eq k9 r2, oPI_eq k5, oGR_eq k0' r1', oA_eq k3, oB_eq e2, oA_eq k9', oB_eq st2, if_neg (by decide), oGR_eq k9' r2', oPI_eq k5', es]
  · rw [if_neg c] at st1
    refine ⟨0, zuI σ (A 3) 1 0, ?_, mU, Or.inl ⟨by unfold unpackS; rw [if_neg c], rfl⟩⟩
    unfold fX9_unpack
    refine oCw ?_ (Or.inl rfl)
    unfold gX9_unpack
    rw [oGR_eq l2 l4, oA_eq hY.1, oB_eq e1, oA_eq k9, oB_eq st1, if_pos rfl]
theorem KT.u {q ser tl hd : Nat} {bf : Int32} (hT : KT σ C b fn (q, bf, ser, tl, hd, ab, rg, px, pk)) (h : CLL σ C) (hb : isR b) (h4 : kd bf ≠ 0 → ab 4 ≤ 8) {k : Nat} {v : Int32} (hk : k < 8) : KT (zuI σ (C 5) k v) C b fn (q, bf, ser, tl, hd, ab, rg, px, pk) := by
  obtain ⟨⟨f8, f9, f10⟩, hRC, hpic⟩ := hT
  have hlt := hb.lt
  have h25 : 25 ≤ b := by rcases hb with z | z <;> omega
  have i5 : ∀ j, 8 ≤ j → zi (zuI σ (C 5) k v) (C 5) j = zi σ (C 5) j := fun j hj => by rw [zi_uI, if_neg (fun z => by omega)]
  have ib : ∀ j, j < 20 → ∀ i, zi (zuI σ (C 5) k v) (C (b + j)) i = zi σ (C (b + j)) i := fun j hj i => by
    rw [zi_uI, if_neg (fun z => by have := h.1 (b + j) 5 (by omega) (by decide) z.1; omega)]
  refine ⟨⟨(i5 8 (by decide)).trans f8, (i5 9 (by decide)).trans f9, (i5 10 (by decide)).trans f10⟩, fun k0 => ?_, fun z => ?_⟩
  · obtain ⟨g1, g2⟩ := hRC k0
    exact ⟨g1.of ib (h4 k0), fun z => (ib 0 (by decide) 6).trans (g2 z)⟩
  · obtain ⟨p1, p2⟩ := hpic z
    exact ⟨p1, p2.of (zsm1 (b := C 5)) (h.ne 7 5) (h.ne 8 5)⟩
theorem cl_dim {kb : Nat} (hw : WFr ab rg) (h0 : ab 0 = 1) (h1 : kb = 1 → ab 4 = ab 5) (h2 : kb = 2 → ab 5 < ab 4) (hk : kb = 1 ∨ kb = 2) : gsR kb ab < 9 ∧ (1 ≤ clW kb ab rg ∧ clW kb ab rg ≤ 16) ∧ (1 ≤ clH kb ab rg ∧ clH kb ab rg ≤ 16) ∧ pdN ab rg (gsR kb ab) = clW kb ab rg * clH kb ab rg ∧ ((gsR kb ab = 8 ∧ clW kb ab rg = ab 1 ∧ clH kb ab rg = ab 2) ∨ (gsR kb ab < ab 4 ∧ clW kb ab rg = rg (gsR kb ab) 0 ∧ clH kb ab rg = rg (gsR kb ab) 1)) := by
  have hb := hw.b
  have h16 : (1 ≤ ab 1 ∧ ab 1 ≤ 16) ∧ (1 ≤ ab 2 ∧ ab 2 ≤ 16) ∧ (ab 5 = 1 → 0 < ab 4 ∧ rg 0 0 = ab 1 ∧ rg 0 1 = ab 2) := by
    rcases hw with ⟨z, -⟩ | ⟨-, z1, z2, -, -, -, z3⟩
    · omega
    · exact ⟨z1, z2, z3⟩
  unfold gsR clW clH pdN
  rcases hk with hk | hk
  · rw [if_pos hk, if_pos hk, if_pos hk]
    unfold dfP
    by_cases q : ab 5 = 1
    · obtain ⟨y1, y2, y3⟩ := h16.2.2 q
      rw [if_pos q, if_neg (by decide), y2, y3]
      exact ⟨by decide, h16.1, h16.2.1, rfl, Or.inr ⟨y1, rfl, rfl⟩⟩
    · rw [if_neg q, if_pos rfl]
      exact ⟨by decide, h16.1, h16.2.1, rfl, Or.inl ⟨rfl, rfl, rfl⟩⟩
  · have h2' := h2 hk
    have hr := hw.rgn (f := ab 4 - 1) (by omega)
    have hrb := hr.b (by omega) (by omega)
    rw [if_neg (by omega), if_neg (by omega), if_neg (by omega), if_neg (by omega)]
    exact ⟨by omega, ⟨hr.1, hrb.1⟩, ⟨hr.2.1, hrb.2.1⟩, rfl, Or.inr ⟨by omega, rfl, rfl⟩⟩
theorem k_179 (hb : isR b) {ty : Int32} {m q ser tl hd : Nat} {bf : Int32} (h : KB σ C b tp) (h6 : zi σ (C 5) 6 = nI q) (h7 : zi σ (C 5) 7 = bf) (hT : KT σ C b fn (q, bf, ser, tl, hd, ab, rg, px, pk)) (hW : WFk tp (kd bf) q ser tl hd ab rg pk) (hm : q + 12 + m ≤ tp.length) (ht0 : letS tp (q + 4) → kd ty ≠ 0) (hfn : ∀ f, (Fn (kd bf) hd ab f ∨ (clC bf ty ∧ f = gsR (kd bf) ab)) → fn f) :
    ∃ r s, fX4_chunkFault_179 σ (C 5) (nI m) (nI (q + 8 + m)) ty = some (r, s) ∧ zsq C (PRd b) σ s ∧ ((takK tp (kd bf) (kd ty) ty m q ser tl hd ab rg px pk = none ∧ r = 4 ∧ zi s (C 5) 5 = zi σ (C 5) 5) ∨ ∃ R', takK tp (kd bf) (kd ty) ty m q ser tl hd ab rg px pk = some R' ∧ r = 0 ∧ KC s C b tp R') := by
  obtain ⟨r, s, e, z, i8, hr⟩ := k_take hb h h6 h7 hT hW hm ht0 hfn
  unfold fX4_chunkFault_179
  rw [oA_eq h.k5.1, oC_eq e]
  rcases hr with ⟨r1, r2⟩ | ⟨R', r1, r2, hT'⟩
  · subst r2
    exact ⟨4, s, by rw [if_pos rfl], z, Or.inl ⟨r1, rfl, i8 5 (by decide)⟩⟩
  · subst r2
    have h1 := h.of hb z
    have k5' : zk (zuI s (C 5) 7 ty) (C 5) = 5 := h1.k5.1
    have a4 : nI (q + 8 + m) + 4 = nI (q + 12 + m) := by
      have : nI (q + 8 + m) + 4 = nI (q + 8 + m + 4) := nI_add _ 4
      rw [this]
      congr 1
      omega
    have z2 := (z.uI (i := 5) (k := 7) (v := ty) (by decide) (Or.inl rfl)).uI (i := 5) (k := 6) (v := nI (q + 12 + m)) (by decide) (Or.inl rfl)
    refine ⟨0, zuI (zuI s (C 5) 7 ty) (C 5) 6 (nI (q + 12 + m)), by rw [if_neg (by decide), oPI_eq h1.k5.1, oPI_eq k5', a4], z2, Or.inr ⟨R', r1, rfl, ?_⟩⟩
    obtain ⟨ser', tl', hd', ab', rg', pk', eR, hw', -⟩ := wfk_take (R' := R') (ty := ty) (px := px) (cx := clC bf ty) hW hm ht0 (fun z n1 n2 => ⟨fun y => by rw [y] at n1 n2; omega, z⟩) r1
    subst eR
    have h48 : kd ty ≠ 0 → ab' 4 ≤ 8 := fun k0 => (hw'.2.2.1 k0).1.b.2.2.2.1
    have hT2 := KT.u (KT.u hT' h1.1 hb h48 (k := 7) (v := ty) (by decide)) (h1.1.of (zsm1 (b := C 5))) hb h48 (k := 6) (v := nI (q + 12 + m)) (by decide)
    exact ⟨h.of hb z2, by rw [zi_uI, if_pos ⟨rfl, rfl⟩], by rw [zi_uI, if_neg (by omega), zi_uI, if_pos ⟨rfl, rfl⟩], hT2, hw'⟩
end PCCHUNK
