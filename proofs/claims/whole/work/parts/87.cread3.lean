/-! the class's reader: data, what may be left out, a chunk -/
section PCREAD3
variable {σ s t : zS} {C : Nat → Nat} {P : Nat → Prop} {b : Nat} {tp : List Nat} {ab : Nat → Nat} {rg px : Nat → Nat → Nat} {fn : Nat → Prop}
theorem s_defW {Q : Nat → Nat} (hL : RLL σ Q) (h3 : zi σ (Q 0) 3 = nI (ab 5)) (h5 : ab 5 ≤ 1) : fX5_defaultPicture σ (Q 0) = some (Q (2 + 2 * dfP ab)) := by
  obtain ⟨r1, r2, r3, r4, r5, r6, r7⟩ := hL
  have e5 : nI (ab 5) = 0 ↔ ab 5 = 0 := nI_eq (b := 0) (by omega) (by decide)
  unfold fX5_defaultPicture dfP
  rw [oGI_eq r1 h3]
  by_cases d : ab 5 = 0
  · rw [if_pos (e5.mpr d), oGR_eq r1 r3, if_neg (by omega)]
  · have lr : ∀ f : Nat → Option Nat, oLr σ (Q 1) 0 f = f (Q 2) := fun f => oLr_eq (n := 0) r4 (by rw [r5]; decide) (by decide) (r6 0 (by decide))
    rw [if_neg (fun z => d (e5.mp z)), oGR_eq r1 r2, lr, if_pos (by omega)]
theorem s_clearY {p c N : Nat} (h : BYL σ p c N) (hN : N ≤ 20000) : fX1_clear σ p = some (zuI σ p 1 0) ∧ BL (zuI σ p 1 0) p c N [] := by
  obtain ⟨h1, h2, h3, h4⟩ := h
  refine ⟨?_, ⟨h1, h2, h3, h4, ?_, Nat.zero_le _, hN⟩, fun j hj => absurd hj (Nat.not_lt_zero j)⟩
  · unfold fX1_clear
    rw [oPI_eq h1]
  · rw [zi_uI, if_pos ⟨rfl, rfl⟩]; rfl
theorem oPR_eq {ρ : Type} {c a k v : Nat} {f : zS → Option ρ} (hk : zk σ a = c) : oPR σ c a k v f = f (zuR σ a k (some v)) := by unfold oPR; rw [if_pos hk]
theorem KB.un (h : KB σ C b tp) : zr σ (C 5) 2 = some (C 6) ∧ zk σ (C 6) = 9 ∧ zr σ (C 6) 0 = some (C 7) ∧ BYL σ (C 7) (C 8) 8000 := ⟨h.1.2.2.2.2.1.2.2.2, h.1.ul.2.1, h.1.ul.2.2.1, h.1.2.2.2.2.2.2.1⟩
theorem k_part (h : KB σ C b tp) {l : List Nat} {fr m : Nat} (hl : BL σ (C 7) (C 8) 8000 l) (hf : fr + m ≤ tp.length) (hr : l.length + m ≤ 8000) : ∃ s, fX1_addPart σ (C 7) (C 3) (nI fr) (nI (fr + m)) = some s ∧ zsq C P578 σ s ∧ (∀ k, zi s (C 5) k = zi σ (C 5) k) ∧ zr s = zr σ ∧ BL s (C 7) (C 8) 8000 (l ++ prtS tp fr m) := by
  obtain ⟨s, e, m1, B⟩ := s_addPart hl h.2.2.1 (h.1.ne 3 7) (h.1.ne 3 8) (h.1.ne 4 7) (h.1.ne 4 8) hf hr
  exact ⟨s, e, zsq.ofC (zsC.of2 (by decide) (Or.inr (Or.inl rfl)) (by decide) (Or.inr (Or.inr rfl)) m1), fun k => m1.i (fun z => z.elim (h.1.ne 5 7) (h.1.ne 5 8)) k, m1.r, B⟩
theorem k_clear (h : KB σ C b tp) (hb : isR b) {v : Option Nat} : ∃ s, (fX1_clear (zuR σ (C 5) 4 v) (C 7) = some s) ∧ zsq C P578 σ s ∧ KB s C b tp ∧ (∀ k, zi s (C 5) k = zi σ (C 5) k) ∧ zr s (C 5) 4 = v ∧ BL s (C 7) (C 8) 8000 [] := by
  have z1 : zsq C P578 σ (zuR σ (C 5) 4 v) := zsq.rf.uR
  have h1 := h.of hb (z1.mono (fun _ z => z.rd))
  obtain ⟨e, B⟩ := s_clearY h1.un.2.2.2 (by decide)
  have z2 := z1.uI (i := 7) (k := 1) (v := 0) (by decide) (Or.inr (Or.inl rfl))
  refine ⟨_, e, z2, h.of hb (z2.mono (fun _ z => z.rd)), fun k => ?_, ?_, B⟩
  · rw [zi_uI, if_neg (fun z => absurd z.1 (h.1.ne 5 7))]; rfl
  · show zr (zuR σ (C 5) 4 v) (C 5) 4 = v
    rw [zr_uR, if_pos ⟨rfl, rfl⟩]
theorem k_default (h : KB σ C b tp) (hb : isR b) {m q tl hd : Nat} {bf : Int32} {pk : List Nat} (h6 : zi σ (C 5) 6 = nI q) (h7 : zi σ (C 5) 7 = bf) (h9 : zi σ (C 5) 9 = nI tl) (h10 : zi σ (C 5) 10 = nI hd) (htl : tl ≤ 8) (hhd : hd ≤ 1) (h3 : zi σ (C b) 3 = nI (ab 5)) (h5 : ab 5 ≤ 1) (hp : kd bf = 1 → zr σ (C 5) 4 = some (C (b + (2 + 2 * dfP ab))) ∧ BL σ (C 7) (C 8) 8000 pk ∧ pk.length ≤ q) (hm : q + 12 + m ≤ tp.length) :
    ((tl = 0 ∨ (hd = 1 ∧ kd bf ≠ 1)) → fX4_takesDefaultData σ (C 5) (nI m) = some (0, σ)) ∧ (¬ (tl = 0 ∨ (hd = 1 ∧ kd bf ≠ 1)) → ∃ s, fX4_takesDefaultData σ (C 5) (nI m) = some (1, s) ∧ zsq C P578 σ s ∧ (∀ k, k ≠ 10 → zi s (C 5) k = zi σ (C 5) k) ∧ zi s (C 5) 10 = nI 1 ∧ zr s (C 5) 4 = some (C (b + (2 + 2 * dfP ab))) ∧ BL s (C 7) (C 8) 8000 ((if hd = 0 then [] else pk) ++ prtS tp (q + 8) m)) := by
  have hlen := h.len
  have q9 : nI tl = 0 ↔ tl = 0 := nI_eq (b := 0) (by omega) (by decide)
  have q10 : nI hd = 0 ↔ hd = 0 := nI_eq (b := 0) (by omega) (by decide)
  have e58 : ∀ (t : zS) (l : List Nat), KB t C b tp → zi t (C 5) 6 = nI q → BL t (C 7) (C 8) 8000 l → l.length ≤ q → ∃ s, fX4_takesDefaultData_58 t (C 5) (nI m) = some (1, s) ∧ zsq C P578 t s ∧ (∀ k, zi s (C 5) k = zi t (C 5) k) ∧ zr s = zr t ∧ BL s (C 7) (C 8) 8000 (l ++ prtS tp (q + 8) m) := fun t l ht t6 hl hlq => by
    obtain ⟨s, e, z, zi5, zr5, B⟩ := k_part (fr := q + 8) (m := m) ht hl (by omega) (by omega)
    refine ⟨s, ?_, z, zi5, zr5, B⟩
    have a1 : nI q + 8 = nI (q + 8) := nI_add q 8
    unfold fX4_takesDefaultData_58
    rw [oGR_eq ht.k5.1 ht.un.1, oGR_eq ht.un.2.1 ht.un.2.2.1, oGR_eq ht.k5.1 ht.k5.2.1, oGI_eq ht.k5.1 t6, oGI_eq ht.k5.1 t6, oA_eq ht.un.2.2.2.1, a1, nI_add, oB_eq e]
  have e1 : gX4_takesDefaultData σ (C 5) (nI m) = if nI tl = 0 then some (0, σ) else (if nI hd = 0 then fX4_takesDefaultData_25 σ (C 5) (nI m) else (if bf = 1229209940 then fX4_takesDefaultData_25 σ (C 5) (nI m) else some (0, σ))) := by
    unfold gX4_takesDefaultData
    rw [oGI_eq h.k5.1 h9, oGI_eq h.k5.1 h10, oGI_eq h.k5.1 h7]
  refine ⟨fun c => oCw ?_ (Or.inl rfl), fun c => ?_⟩
  · rw [e1]
    by_cases c1 : tl = 0
    · rw [if_pos (q9.mpr c1)]
    · rw [if_neg (fun z => c1 (q9.mp z)), if_neg (fun z => by have := q10.mp z; omega), if_neg (fun z => by have := (kdv bf).1.mpr z; omega)]
  · rw [if_neg (fun z => by have := q9.mp z; omega)] at e1
    by_cases dh : hd = 0
    · rw [if_pos (q10.mpr dh)] at e1
      have z1 : zsq C P578 σ (zuI σ (C 5) 10 1) := zsq.rf.uI (by decide) (Or.inl rfl)
      have h1 := h.of hb (z1.mono (fun _ z => z.rd))
      have h31 : zi (zuI σ (C 5) 10 1) (C b) 3 = nI (ab 5) := by
        rw [zi_uI, if_neg (fun z => by
          have := h.1.1 b 5 (by have := hb.lt; omega) (by decide) z.1
          have : 25 ≤ b := by rcases hb with z | z <;> omega
          omega)]
        exact h3
      have y1 : ∀ k, k ≠ 10 → zi (zuI σ (C 5) 10 1) (C 5) k = zi σ (C 5) k := fun k hk => by rw [zi_uI, if_neg (fun z => hk z.2)]
      have y10 : zi (zuI σ (C 5) 10 1) (C 5) 10 = nI 1 := by rw [zi_uI, if_pos ⟨rfl, rfl⟩]; rfl
      have e25 : fX4_takesDefaultData_25 σ (C 5) (nI m) = oGR (zuI σ (C 5) 10 1) 5 (C 5) 3 (fun a4 => oA (zk (zuI σ (C 5) 10 1) a4 = 6) (oB (fX5_defaultPicture (zuI σ (C 5) 10 1) a4) (fun a5 => oPR (zuI σ (C 5) 10 1) 5 (C 5) 4 a5 (fun σ3 => oGR σ3 5 (C 5) 2 (fun a6 => oGR σ3 9 a6 0 (fun a7 => oA (zk σ3 a7 = 2) (oB (fX1_clear σ3 a7) (fun σ4 => fX4_takesDefaultData_58 σ4 (C 5) (nI m))))))))) := by
        unfold fX4_takesDefaultData_25
        rw [oGI_eq h.k5.1 h10, if_pos (q10.mpr dh), oPZ_eq h.k5.1 (Or.inr rfl)]
      generalize zuI σ (C 5) 10 1 = s1 at z1 h1 h31 y1 y10 e25
      have kb1 : zk s1 (C b) = 6 := (h1.rl hb).1
      have hdef : fX5_defaultPicture s1 (C b) = some (C (b + (2 + 2 * dfP ab))) := s_defW (Q := fun i => C (b + i)) (h1.rl hb) h31 h5
      obtain ⟨s4, e4, z4, h4, y4, r4, B4⟩ := k_clear h1 hb (v := some (C (b + (2 + 2 * dfP ab))))
      obtain ⟨s5, e5, z5, y5, r5, B5⟩ := e58 s4 [] h4 (by rw [y4, y1 6 (by decide)]; exact h6) B4 (Nat.zero_le _)
      have hx : zsq C P578 s1 (zuR s1 (C 5) 4 (some (C (b + (2 + 2 * dfP ab))))) := zsq.rf.uR
      have h2 := h1.of hb (hx.mono (fun _ z => z.rd))
      refine ⟨s5, oCw ?_ (Or.inr rfl), (z1.trans z4).trans z5, fun k hk => (y5 k).trans ((y4 k).trans (y1 k hk)), (y5 10).trans ((y4 10).trans y10), by rw [r5]; exact r4, by rw [if_pos dh]; exact B5⟩
      rw [e1, e25, oGR_eq h1.k5.1 h1.2.1, oA_eq kb1, oB_eq hdef, oPR_eq h1.k5.1, oGR_eq h2.k5.1 h2.un.1, oGR_eq h2.un.2.1 h2.un.2.2.1, oA_eq h2.un.2.2.2.1, oB_eq e4]
      exact e5
    · have kf : kd bf = 1 := by
        by_cases q : kd bf = 1
        · exact q
        · exact absurd (Or.inr ⟨by omega, q⟩) c
      obtain ⟨p1, p2, p3⟩ := hp kf
      rw [if_neg (fun z => dh (q10.mp z)), if_pos ((kdv bf).1.mp kf)] at e1
      obtain ⟨s5, e5, z5, y5, r5, B5⟩ := e58 σ pk h h6 p2 p3
      refine ⟨s5, oCw ?_ (Or.inr rfl), z5, fun k _ => y5 k, by rw [y5 10, h10, show hd = 1 by omega], by rw [r5]; exact p1, by rw [if_neg dh]; exact B5⟩
      rw [e1]
      unfold fX4_takesDefaultData_25
      rw [oGI_eq h.k5.1 h10, if_neg (fun z => dh (q10.mp z))]
      exact e5
theorem k_fdata (h : KB σ C b tp) (hb : isR b) {m q ser hd : Nat} {bf : Int32} {pk : List Nat} (h6 : zi σ (C 5) 6 = nI q) (h7 : zi σ (C 5) 7 = bf) (h8 : zi σ (C 5) 8 = nI ser) (h10 : zi σ (C 5) 10 = nI hd) (hhd : hd ≤ 1) (hc7 : zi σ (C b) 7 = nI (ab 4)) (h4 : kd bf = 3 → 0 < ab 4) (h48 : ab 4 ≤ 8) (hp : kd bf = 2 → zr σ (C 5) 4 = some (C (b + (2 + 2 * (ab 4 - 1)))) ∧ BL σ (C 7) (C 8) 8000 pk ∧ pk.length ≤ q) (hm4 : 4 ≤ m) (hm : q + 12 + m ≤ tp.length) :
    (¬ (hd = 1 ∧ (kd bf = 3 ∨ kd bf = 2) ∧ nmS tp (q + 8) = nI ser) → ∃ s, fX4_takesFrameData σ (C 5) (nI m) = some (0, s) ∧ zsq C P578 σ s ∧ (∀ k, k ≠ 8 → zi s (C 5) k = zi σ (C 5) k)) ∧ ((hd = 1 ∧ (kd bf = 3 ∨ kd bf = 2) ∧ nmS tp (q + 8) = nI ser) → ∃ s, fX4_takesFrameData σ (C 5) (nI m) = some (1, s) ∧ zsq C P578 σ s ∧ (∀ k, k ≠ 8 → zi s (C 5) k = zi σ (C 5) k) ∧ zi s (C 5) 8 = nI (ser + 1) ∧ zr s (C 5) 4 = some (C (b + (2 + 2 * (ab 4 - 1)))) ∧ BL s (C 7) (C 8) 8000 ((if kd bf = 3 then [] else pk) ++ prtS tp (q + 12) (m - 4))) := by
  have hlen := h.len
  have hlt := hb.lt
  have h25 : 25 ≤ b := by rcases hb with z | z <;> omega
  have q10 : nI hd = 0 ↔ hd = 0 := nI_eq (b := 0) (by omega) (by decide)
  have e81 : ∀ (t : zS) (l : List Nat), KB t C b tp → zi t (C 5) 6 = nI q → BL t (C 7) (C 8) 8000 l → l.length ≤ q → ∃ s, fX4_takesFrameData_81 t (C 5) (nI m) = some (1, s) ∧ zsq C P578 t s ∧ (∀ k, zi s (C 5) k = zi t (C 5) k) ∧ zr s = zr t ∧ BL s (C 7) (C 8) 8000 (l ++ prtS tp (q + 12) (m - 4)) := fun t l ht t6 hl hlq => by
    obtain ⟨s, e, z, zi5, zr5, B⟩ := k_part (fr := q + 12) (m := m - 4) ht hl (by omega) (by omega)
    refine ⟨s, ?_, z, zi5, zr5, B⟩
    have a1 : nI q + 8 = nI (q + 8) := nI_add q 8
    have a2 : nI (q + 8) + 4 = nI (q + 12) := nI_add (q + 8) 4
    have a3 : nI (q + 8) + nI m = nI (q + 12 + (m - 4)) := by rw [nI_add]; congr 1; omega
    unfold fX4_takesFrameData_81
    rw [oGR_eq ht.k5.1 ht.un.1, oGR_eq ht.un.2.1 ht.un.2.2.1, oGR_eq ht.k5.1 ht.k5.2.1, oGI_eq ht.k5.1 t6, oGI_eq ht.k5.1 t6, oA_eq ht.un.2.2.2.1, a1, a2, a3, oB_eq e]
  have e1 : gX4_takesFrameData σ (C 5) (nI m) = if nI hd = 0 then some (0, σ) else (if bf = 1717785676 then fX4_takesFrameData_25 σ (C 5) (nI m) else (if bf = 1717846356 then fX4_takesFrameData_25 σ (C 5) (nI m) else some (0, σ))) := by
    unfold gX4_takesFrameData
    rw [oGI_eq h.k5.1 h10, oGI_eq h.k5.1 h7, oGI_eq h.k5.1 h7]
  by_cases dh : hd = 0
  · refine ⟨fun _ => ⟨σ, oCw (by rw [e1, if_pos (q10.mpr dh)]) (Or.inl rfl), zsq.rf, fun _ _ => rfl⟩, fun c => by omega⟩
  rw [if_neg (fun z => dh (q10.mp z))] at e1
  by_cases dk : kd bf = 3 ∨ kd bf = 2
  rotate_left
  · refine ⟨fun _ => ⟨σ, oCw (by rw [e1, if_neg (fun z => dk (Or.inl ((kdv bf).2.2.1.mpr z))), if_neg (fun z => dk (Or.inr ((kdv bf).2.1.mpr z)))]) (Or.inl rfl), zsq.rf, fun _ _ => rfl⟩, fun c => absurd c.2.1 dk⟩
  have e2 : gX4_takesFrameData σ (C 5) (nI m) = fX4_takesFrameData_25 σ (C 5) (nI m) := by
    rw [e1]
    by_cases q : bf = 1717785676
    · rw [if_pos q]
    · rw [if_neg q, if_pos ((kdv bf).2.1.mp (dk.resolve_left (fun z => q ((kdv bf).2.2.1.mp z))))]
  obtain ⟨sy, sn⟩ := k_serial h (f := q + 8) (by omega) h8
  have a1 : nI q + 8 = nI (q + 8) := nI_add q 8
  have z1 : zsq C P578 σ (zuI σ (C 5) 8 (nI (ser + 1))) := zsq.rf.uI (by decide) (Or.inl rfl)
  have y1 : ∀ k, k ≠ 8 → zi (zuI σ (C 5) 8 (nI (ser + 1))) (C 5) k = zi σ (C 5) k := fun k hk => by rw [zi_uI, if_neg (fun z => hk z.2)]
  have y8 : zi (zuI σ (C 5) 8 (nI (ser + 1))) (C 5) 8 = nI (ser + 1) := by rw [zi_uI, if_pos ⟨rfl, rfl⟩]
  have yb : zi (zuI σ (C 5) 8 (nI (ser + 1))) (C b) 7 = nI (ab 4) := by
    rw [zi_uI, if_neg (fun z => by have := h.1.1 b 5 (by omega) (by decide) z.1; omega)]; exact hc7
  unfold fX4_takesFrameData_25 at e2
  rw [oGI_eq h.k5.1 h6, oA_eq h.k5.1, a1] at e2
  by_cases d3 : nmS tp (q + 8) = nI ser
  rotate_left
  · refine ⟨fun _ => ⟨_, oCw (by rw [e2, oC_eq (sn d3), if_pos rfl]) (Or.inl rfl), z1, y1⟩, fun c => absurd c.2.2 d3⟩
  refine ⟨fun c => absurd ⟨by omega, dk, d3⟩ c, fun _ => ?_⟩
  rw [oC_eq (sy d3), if_neg (by decide)] at e2
  have r1 : zr (zuI σ (C 5) 8 (nI (ser + 1))) = zr σ := rfl
  have hB1 : ∀ l, BL σ (C 7) (C 8) 8000 l → BL (zuI σ (C 5) 8 (nI (ser + 1))) (C 7) (C 8) 8000 l := fun l hl => hl.of (zsm1 (b := C 5)) (h.1.ne 7 5) (h.1.ne 8 5)
  generalize zuI σ (C 5) 8 (nI (ser + 1)) = s1 at e2 z1 y1 y8 yb r1 hB1
  have h1 := h.of hb (z1.mono (fun _ z => z.rd))
  rw [oGI_eq h1.k5.1 ((y1 7 (by decide)).trans h7)] at e2
  have hL1 := h1.rl hb
  have kb1 : zk s1 (C b) = 6 := hL1.1
  by_cases q : kd bf = 3
  · rw [if_pos ((kdv bf).2.2.1.mp q)] at e2
    have h40 := h4 q
    have a4 : nI (ab 4) - 1 = nI (ab 4 - 1) := pk_sub (b := 1) (by omega)
    obtain ⟨s4, e4, z4, hs4, y4, r4, B4⟩ := k_clear h1 hb (v := some (C (b + (2 + 2 * (ab 4 - 1)))))
    obtain ⟨s5, e5, z5, y5, r5, B5⟩ := e81 s4 [] hs4 (by rw [y4, y1 6 (by decide)]; exact h6) B4 (Nat.zero_le _)
    have hx : zsq C P578 s1 (zuR s1 (C 5) 4 (some (C (b + (2 + 2 * (ab 4 - 1)))))) := zsq.rf.uR
    have h2 := h1.of hb (hx.mono (fun _ z => z.rd))
    refine ⟨s5, oCw ?_ (Or.inr rfl), (z1.trans z4).trans z5, fun k hk => (y5 k).trans ((y4 k).trans (y1 k hk)), (y5 8).trans ((y4 8).trans y8), by rw [r5]; exact r4, by rw [if_pos q]; exact B5⟩
    have hr1 : zr s1 (C b) 0 = some (C (b + 1)) := hL1.2.1
    rw [e2, oGR_eq h1.k5.1 h1.2.1, oGR_eq kb1 hr1, oGR_eq h1.k5.1 h1.2.1, oGI_eq kb1 yb, a4, oLr_eq hL1.2.2.2.1 (by rw [hL1.2.2.2.2.1]; omega) (by omega) (hL1.2.2.2.2.2.1 (ab 4 - 1) (by omega)), oPR_eq h1.k5.1, oGR_eq h2.k5.1 h2.un.1, oGR_eq h2.un.2.1 h2.un.2.2.1, oA_eq h2.un.2.2.2.1, oB_eq e4]
    exact e5
  · rw [if_neg (fun z => q ((kdv bf).2.2.1.mpr z))] at e2
    obtain ⟨p1, p2, p3⟩ := hp (dk.resolve_left q)
    obtain ⟨s5, e5, z5, y5, r5, B5⟩ := e81 s1 pk h1 ((y1 6 (by decide)).trans h6) (hB1 pk p2) p3
    refine ⟨s5, oCw ?_ (Or.inr rfl), z1.trans z5, fun k hk => (y5 k).trans (y1 k hk), (y5 8).trans y8, by rw [r5, r1]; exact p1, by rw [if_neg q]; exact B5⟩
    rw [e2]
    exact e5
/-! what may be left out -/
theorem k_let1 (h : KB σ C b tp) {f i : Nat} {v : Int32} (hf : f + 4 ≤ tp.length) (hi : i < 4) : (¬ (v ≠ 0 ∧ ltrS (tp.getD (f + i) 0)) → bX4_mayBeLeftOut_21 σ (C 5) (nI f) v (nI i) = some (.inl (0, nI (i + 1)))) ∧ (v ≠ 0 ∧ ltrS (tp.getD (f + i) 0) → bX4_mayBeLeftOut_21 σ (C 5) (nI f) v (nI i) = some (.inl (1, nI (i + 1)))) := by
  have hby := h.by (f + i)
  have c4 : ¬ (4 : Int32) ≤ nI i := fun z => by
    have := (nI_leI (a := 4) (b := i) (by decide) (by omega)).mp z
    omega
  have e0 : bX4_mayBeLeftOut_21 σ (C 5) (nI f) v (nI i) = (if v = 0 then some (.inl (0, nI (i + 1))) else (if nI (tp.getD (f + i) 0) < (65 : Int32) then (if nI (tp.getD (f + i) 0) < (97 : Int32) then some (.inl (0, nI (i + 1))) else (if (122 : Int32) < nI (tp.getD (f + i) 0) then some (.inl (0, nI (i + 1))) else some (.inl (1, nI (i + 1))))) else (if nI (tp.getD (f + i) 0) ≤ (90 : Int32) then some (.inl (1, nI (i + 1))) else (if nI (tp.getD (f + i) 0) < (97 : Int32) then some (.inl (0, nI (i + 1))) else (if (122 : Int32) < nI (tp.getD (f + i) 0) then some (.inl (0, nI (i + 1))) else some (.inl (1, nI (i + 1)))))))) := by
    unfold bX4_mayBeLeftOut_21 fX4_mayBeLeftOut_56 fX4_mayBeLeftOut_74 fX4_mayBeLeftOut_70 fX4_mayBeLeftOut_75
    rw [if_neg c4, oGR_eq h.k5.1 h.k5.2.1, oA_eq h.k5.2.2, nI_add, oB_eq (k_at h (by omega)), oL_eq, oL_eq, nI_1]
  have q65 : nI (tp.getD (f + i) 0) < 65 ↔ tp.getD (f + i) 0 < 65 := nI_ltI (b := 65) (by omega) (by decide)
  have q97 : nI (tp.getD (f + i) 0) < 97 ↔ tp.getD (f + i) 0 < 97 := nI_ltI (b := 97) (by omega) (by decide)
  have q90 : nI (tp.getD (f + i) 0) ≤ 90 ↔ tp.getD (f + i) 0 ≤ 90 := nI_leI (b := 90) (by omega) (by decide)
  have q122 : 122 < nI (tp.getD (f + i) 0) ↔ 122 < tp.getD (f + i) 0 := nI_ltI (a := 122) (by decide) (by omega)
  simp only [q65, q97, q90, q122] at e0
  unfold ltrS
  refine ⟨fun c => ?_, fun c => ?_⟩
  · rw [e0]
    by_cases c0 : v = 0
    · rw [if_pos c0]
    · have c' : ¬ ((65 ≤ tp.getD (f + i) 0 ∧ tp.getD (f + i) 0 ≤ 90) ∨ (97 ≤ tp.getD (f + i) 0 ∧ tp.getD (f + i) 0 ≤ 122)) := fun z => c ⟨c0, z⟩
      rw [if_neg c0]
      by_cases d1 : tp.getD (f + i) 0 < 65
      · rw [if_pos d1, if_pos (by omega)]
      · rw [if_neg d1, if_neg (by omega)]
        by_cases d2 : tp.getD (f + i) 0 < 97
        · rw [if_pos d2]
        · rw [if_neg d2, if_pos (by omega)]
  · rw [e0, if_neg c.1]
    have c' := c.2
    by_cases d2 : tp.getD (f + i) 0 ≤ 90
    · rw [if_neg (by omega), if_pos d2]
    · rw [if_neg (by omega), if_neg d2, if_neg (by omega), if_neg (by omega)]
theorem k_left (h : KB σ C b tp) {f : Nat} (hf : f + 4 ≤ tp.length) : (letS tp f → fX4_mayBeLeftOut σ (C 5) (nI f) = some 1) ∧ (¬ letS tp f → fX4_mayBeLeftOut σ (C 5) (nI f) = some 0) := by
  have hby := h.by f
  have q97 : nI (tp.getD f 0) < 97 ↔ tp.getD f 0 < 97 := nI_ltI (b := 97) (by omega) (by decide)
  have hloop : ∀ (v0 : Int32), ∃ v, zloop zF (fun x => bX4_mayBeLeftOut_21 σ (C 5) (nI f) x.1 x.2) (v0, 0) = some v ∧ ((v0 ≠ 0 ∧ (∀ i, i < 4 → ltrS (tp.getD (f + i) 0)) ∧ v = 1) ∨ (¬ (v0 ≠ 0 ∧ ∀ i, i < 4 → ltrS (tp.getD (f + i) 0)) ∧ v = 0)) := fun v0 => by
    refine zloop_cnt (body := fun x => bX4_mayBeLeftOut_21 σ (C 5) (nI f) x.1 x.2) (fun k x => x.2 = nI k ∧ ((v0 ≠ 0 ∧ (∀ i, i < k → ltrS (tp.getD (f + i) 0)) ∧ x.1 ≠ 0 ∧ (0 < k → x.1 = 1)) ∨ (¬ (v0 ≠ 0 ∧ ∀ i, i < k → ltrS (tp.getD (f + i) 0)) ∧ x.1 = 0))) 4 (fun v => ((v0 ≠ 0 ∧ (∀ i, i < 4 → ltrS (tp.getD (f + i) 0)) ∧ v = 1) ∨ (¬ (v0 ≠ 0 ∧ ∀ i, i < 4 → ltrS (tp.getD (f + i) 0)) ∧ v = 0))) (fun k x hk hx => ?_) (fun x hx => ?_) zF (v0, 0) ⟨rfl, ?_⟩ (by unfold zF; decide)
    · obtain ⟨v, i⟩ := x
      obtain ⟨x1, x2⟩ := hx
      dsimp only at x1 x2
      subst x1
      obtain ⟨kn, ky⟩ := k_let1 (v := v) h hf hk
      left
      rcases x2 with ⟨u1, u2, u3, u4⟩ | ⟨u1, u2⟩
      · by_cases c : ltrS (tp.getD (f + k) 0)
        · refine ⟨(1, nI (k + 1)), ky ⟨u3, c⟩, rfl, Or.inl ⟨u1, fun i hi => ?_, (by show (1 : Int32) ≠ 0; decide), fun _ => rfl⟩⟩
          by_cases e : i = k
          · rw [e]; exact c
          · exact u2 i (by omega)
        · exact ⟨(0, nI (k + 1)), kn (fun z => c z.2), rfl, Or.inr ⟨fun z => c (z.2 k (by omega)), rfl⟩⟩
      · exact ⟨(0, nI (k + 1)), kn (fun z => z.1 u2), rfl, Or.inr ⟨fun z => u1 ⟨z.1, fun i hi => z.2 i (by omega)⟩, rfl⟩⟩
    · obtain ⟨v, i⟩ := x
      obtain ⟨x1, x2⟩ := hx
      dsimp only at x1 x2
      subst x1
      refine ⟨v, ?_, ?_⟩
      · show bX4_mayBeLeftOut_21 σ (C 5) (nI f) v (nI 4) = _
        unfold bX4_mayBeLeftOut_21
        rw [if_pos (by decide)]
      · rcases x2 with ⟨u1, u2, u3, u4⟩ | ⟨u1, u2⟩
        · exact Or.inl ⟨u1, u2, u4 (by decide)⟩
        · exact Or.inr ⟨u1, u2⟩
    · by_cases c : v0 = 0
      · exact Or.inr ⟨fun z => z.1 c, c⟩
      · exact Or.inl ⟨c, fun i hi => absurd hi (Nat.not_lt_zero i), c, fun z => absurd z (Nat.lt_irrefl 0)⟩
  have e0 : ∀ (v0 v : Int32), zloop zF (fun x => bX4_mayBeLeftOut_21 σ (C 5) (nI f) x.1 x.2) (v0, 0) = some v → fX4_mayBeLeftOut_18 σ (C 5) (nI f) v0 = some v := fun v0 v hv => by
    unfold fX4_mayBeLeftOut_18
    rw [oB_eq hv]
  have e1 : gX4_mayBeLeftOut σ (C 5) (nI f) = if nI (tp.getD f 0) < 97 then fX4_mayBeLeftOut_18 σ (C 5) (nI f) 0 else fX4_mayBeLeftOut_18 σ (C 5) (nI f) 1 := by
    unfold gX4_mayBeLeftOut
    rw [oGR_eq h.k5.1 h.k5.2.1, oA_eq h.k5.2.2, oB_eq (k_at h (by omega))]
  have hlet : letS tp f ↔ 97 ≤ tp.getD f 0 ∧ ∀ i, i < 4 → ltrS (tp.getD (f + i) 0) := by
    unfold letS
    refine ⟨fun z => ⟨z.1, fun i hi => ?_⟩, fun z => ⟨z.1, z.2 0 (by decide), z.2 1 (by decide), z.2 2 (by decide), z.2 3 (by decide)⟩⟩
    rcases (show i = 0 ∨ i = 1 ∨ i = 2 ∨ i = 3 by omega) with y | y | y | y <;> subst y
    · exact z.2.1
    · exact z.2.2.1
    · exact z.2.2.2.1
    · exact z.2.2.2.2
  unfold fX4_mayBeLeftOut
  by_cases c : tp.getD f 0 < 97
  · obtain ⟨v, ev, hv⟩ := hloop 0
    rw [if_pos (q97.mpr c), e0 0 v ev] at e1
    rcases hv with ⟨u, -⟩ | ⟨-, u⟩
    · exact absurd rfl u
    · subst u
      refine ⟨fun z => by have := (hlet.mp z).1; omega, fun _ => ?_⟩
      rw [oB_eq e1]
      rfl
  · obtain ⟨v, ev, hv⟩ := hloop 1
    rw [if_neg (fun z => c (q97.mp z)), e0 1 v ev] at e1
    rcases hv with ⟨-, u2, u⟩ | ⟨u2, u⟩
    · subst u
      refine ⟨fun _ => ?_, fun z => absurd (hlet.mpr ⟨by omega, u2⟩) z⟩
      rw [oB_eq e1]
      rfl
    · subst u
      refine ⟨fun z => absurd ⟨by decide, (hlet.mp z).2⟩ u2, fun _ => ?_⟩
      rw [oB_eq e1]
      rfl
end PCREAD3
