/-! the class's reader: a chunk is taken -/
theorem okH_n {tp : List Nat} {f : Nat} (h : okH tp f) : nmS tp f = nI (nmS tp f).toInt.toNat ∧ nmS tp (f + 4) = nI (nmS tp (f + 4)).toInt.toNat := by
  unfold okH at h
  generalize nmS tp f = x at h ⊢
  generalize nmS tp (f + 4) = y at h ⊢
  exact ⟨znI (by omega), znI (by omega)⟩
theorem znI_1 {x : Int32} (h : 1 ≤ x.toInt) : x = nI x.toInt.toNat := znI (by omega)
theorem abP_3 {ab : Nat → Nat} {p : Nat} : abP ab p 3 = p := rfl
section PCTAKE
variable {σ s t : zS} {C : Nat → Nat} {P : Nat → Prop} {b : Nat} {tp : List Nat} {ab : Nat → Nat} {rg px : Nat → Nat → Nat} {fn : Nat → Prop}
theorem RCw.mono {Q : Nat → Nat} {fn' : Nat → Prop} (h : RCw σ Q ab rg px fn) (hf : ∀ f, fn' f → fn f) : RCw σ Q ab rg px fn' := ⟨h.1, h.2.1, h.2.2.1, fun f z => h.2.2.2 f (hf f z)⟩
theorem RCw.pl {Q : Nat → Nat} {p : Nat} (h : RCw σ Q ab rg px fn) : RCw σ Q (abP ab p) rg px fn := h
theorem RCw_B {Q : Nat → Nat} {W H : Nat} {x y : Int32} (g1 : zi s (Q 0) 2 = 1) (g2 : zi s (Q 0) 3 = 0) (g3 : zi s (Q 0) 4 = x) (g4 : zi s (Q 0) 5 = y) (g5 : zi s (Q 0) 7 = 0) (g6 : zi s (Q 18) 1 = x) (g7 : zi s (Q 18) 2 = y) (n1 : x = nI W) (n2 : y = nI H) (hf : ∀ f, ¬ fn f) : RCw s Q (abB W H 0) rg px fn :=
  ⟨⟨g1, g2, g3.trans n1, g4.trans n2, g5⟩, ⟨g6.trans n1, g7.trans n2⟩, fun f hf => absurd hf (Nat.not_lt_zero f), fun f z => absurd z (hf f)⟩
theorem k_take (hb : isR b) {ty : Int32} {m q ser tl hd : Nat} {bf : Int32} {pk : List Nat} (h : KB σ C b tp) (h6 : zi σ (C 5) 6 = nI q) (h7 : zi σ (C 5) 7 = bf) (hT : KT σ C b fn (q, bf, ser, tl, hd, ab, rg, px, pk)) (hW : WFk tp (kd bf) q ser tl hd ab rg pk) (hm : q + 12 + m ≤ tp.length) (ht0 : letS tp (q + 4) → kd ty ≠ 0) (hfn : ∀ f, (Fn (kd bf) hd ab f ∨ (clC bf ty ∧ f = gsR (kd bf) ab)) → fn f) :
    ∃ r s, fX4_takesChunk σ (C 5) ty (nI m) = some (r, s) ∧ zsq C (PRd b) σ s ∧ (∀ k, k < 8 → zi s (C 5) k = zi σ (C 5) k) ∧ ((takK tp (kd bf) (kd ty) ty m q ser tl hd ab rg px pk = none ∧ r = 0) ∨ ∃ R', takK tp (kd bf) (kd ty) ty m q ser tl hd ab rg px pk = some R' ∧ r = 1 ∧ KT s C b (FnR R') R') := by
  have hwf := fun R' e => wfk_take (R' := R') (ty := ty) (px := px) (cx := clC bf ty) hW hm ht0 (fun z n1 n2 => ⟨fun y => by rw [y] at n1 n2; omega, z⟩) e
  obtain ⟨⟨w1, w2, w3, w4, w5, w6⟩, w7, w8, w9, w10, w11, w12, w13, w14⟩ := id hW
  obtain ⟨⟨f8, f9, f10⟩, hRC, hpic⟩ := hT
  have hlen := h.len
  have hlt := hb.lt
  have h25 : 25 ≤ b := by rcases hb with z | z <;> omega
  have a8 : nI q + 8 = nI (q + 8) := nI_add q 8
  have a4 : nI q + 4 = nI (q + 4) := nI_add q 4
  have kv := kdv ty
  have kvb := kdv bf
  suffices H : ∃ r s, gX4_takesChunk σ (C 5) ty (nI m) = some (r, s) ∧ (r = 0 ∨ r = 1) ∧ zsq C (PRd b) σ s ∧ (∀ k, k < 8 → zi s (C 5) k = zi σ (C 5) k) ∧ ((takK tp (kd bf) (kd ty) ty m q ser tl hd ab rg px pk = none ∧ r = 0) ∨ ∃ R', takK tp (kd bf) (kd ty) ty m q ser tl hd ab rg px pk = some R' ∧ r = 1 ∧ KT s C b (FnR R') R') by
    obtain ⟨r, s, e, hr, hh⟩ := H
    exact ⟨r, s, oCw e hr, hh⟩
  have hno : takK tp (kd bf) (kd ty) ty m q ser tl hd ab rg px pk = none → gX4_takesChunk σ (C 5) ty (nI m) = some (0, σ) → ∃ r s, gX4_takesChunk σ (C 5) ty (nI m) = some (r, s) ∧ (r = 0 ∨ r = 1) ∧ zsq C (PRd b) σ s ∧ (∀ k, k < 8 → zi s (C 5) k = zi σ (C 5) k) ∧ ((takK tp (kd bf) (kd ty) ty m q ser tl hd ab rg px pk = none ∧ r = 0) ∨ ∃ R', takK tp (kd bf) (kd ty) ty m q ser tl hd ab rg px pk = some R' ∧ r = 1 ∧ KT s C b (FnR R') R') := fun e1 e2 => ⟨0, σ, e2, Or.inl rfl, zsq.rf, fun _ _ => rfl, Or.inl ⟨e1, rfl⟩⟩
  have e0 : gX4_takesChunk σ (C 5) ty (nI m) = (if bf = 0 then (if ty = (1229472850 : Int32) then (if nI m = (13 : Int32) then oA (zk σ (C 5) = 5) (oC (fX4_takesHead σ (C 5) (nI (q + 8))) (fun x16 σ5 => (if x16 = 0 then some (0, σ5) else some (1, σ5)))) else some (0, σ)) else some (0, σ)) else (if ty = 1229209940 then oA (zk σ (C 5) = 5) (oC (fX4_takesDefaultData σ (C 5) (nI m)) (fun x2 σ1 => some (x2, σ1))) else (if ty = 1229278788 then (if nI m = 0 then (if nI hd = 0 then some (0, σ) else (if bf = (1717785676 : Int32) then some (0, σ) else oGR σ 5 (C 5) 3 (fun a1 => oGI σ 6 a1 7 (fun x5 => (if x5 = nI tl then some (1, σ) else some (0, σ)))))) else some (0, σ)) else (if ty = 1229472850 then some (0, σ) else (if ty = 1633899596 then (if nI m = (8 : Int32) then oA (zk σ (C 5) = 5) (oC (fX4_takesCounts σ (C 5) (nI (q + 8))) (fun x8 σ2 => (if x8 = 0 then some (0, σ2) else some (1, σ2)))) else some (0, σ)) else (if ty = 1717785676 then (if nI m = (26 : Int32) then oA (zk σ (C 5) = 5) (oC (fX4_takesControl σ (C 5) (nI (q + 8))) (fun x10 σ3 => (if x10 = 0 then some (0, σ3) else some (1, σ3)))) else some (0, σ)) else (if ty = 1717846356 then (if nI m < (4 : Int32) then some (0, σ) else oA (zk σ (C 5) = 5) (oC (fX4_takesFrameData σ (C 5) (nI m)) (fun x11 σ4 => (if x11 = 0 then some (0, σ4) else some (1, σ4))))) else (if bf = (1717785676 : Int32) then some (0, σ) else oA (zk σ (C 5) = 5) (oB (fX4_mayBeLeftOut σ (C 5) (nI (q + 4))) (fun x14 => (if x14 = 0 then some (0, σ) else some (1, σ)))))))))))) := by
    unfold gX4_takesChunk
    rw [oGI_eq h.k5.1 h7, oGI_eq h.k5.1 h6, oGI_eq h.k5.1 h6, oGI_eq h.k5.1 h6, oGI_eq h.k5.1 h6, oGI_eq h.k5.1 f10, oGI_eq h.k5.1 h7, oGI_eq h.k5.1 h7, a8, a4]
    simp only [oGI_eq h.k5.1 f9]
  have hm32 : m < 2147483648 := by omega
  have hfin : ∀ (ser' tl' hd' : Nat) (ab' : Nat → Nat) (rg' px' : Nat → Nat → Nat) (pk' : List Nat), takK tp (kd bf) (kd ty) ty m q ser tl hd ab rg px pk = some (q + 12 + m, ty, ser', tl', hd', ab', rg', px', pk') → ∀ f, Fn (kd ty) hd' ab' f → kd bf ≠ 0 ∧ fn f := by
    intro ser' tl' hd' ab' rg' px' pk' et f hf
    obtain ⟨s', t', h', a', r', p', ew, -, hw2⟩ := hwf _ et
    simp only [Prod.mk.injEq] at ew
    obtain ⟨-, -, -, -, eh, ea, -⟩ := ew
    subst eh
    subst ea
    obtain ⟨y1, y2⟩ := hw2 f hf
    exact ⟨y1, hfn f y2⟩
  clear hwf
  by_cases k0 : kd bf = 0
  · have b0 := (kd0 bf).mp k0
    rw [if_pos b0] at e0
    by_cases t4 : kd ty = 4
    rotate_left
    · exact hno (by unfold takK; rw [if_pos k0, if_neg (fun z => t4 z.1)]) (by rw [e0, if_neg (fun z => t4 (kv.2.2.2.1.mpr z))])
    rw [if_pos (kv.2.2.2.1.mp t4)] at e0
    have q13 : nI m = 13 ↔ m = 13 := nI_eq (b := 13) hm32 (by decide)
    by_cases d13 : m = 13
    rotate_left
    · exact hno (by unfold takK; rw [if_pos k0, if_neg (fun z => d13 z.2.1)]) (by rw [e0, if_neg (fun z => d13 (q13.mp z))])
    rw [if_pos (q13.mpr d13), oA_eq h.k5.1] at e0
    obtain ⟨r, s, eh, zh, ih, hh⟩ := k_head h hb (f := q + 8) (by omega)
    rw [oC_eq eh] at e0
    rcases hh with ⟨hn, r0⟩ | ⟨hy, r1, ⟨g1, g2, g3, g4, g5⟩, g6, g7⟩
    · subst r0
      rw [if_pos rfl] at e0
      exact ⟨0, s, e0, Or.inl rfl, zh, fun k _ => ih k, Or.inl ⟨by unfold takK; rw [if_pos k0, if_neg (fun z => hn z.2.2)], rfl⟩⟩
    · subst r1
      rw [if_neg (by decide)] at e0
      have et : takK tp (kd bf) (kd ty) ty m q ser tl hd ab rg px pk = some (q + 12 + m, ty, ser, tl, hd, abB (nmS tp (q + 8)).toInt.toNat (nmS tp (q + 8 + 4)).toInt.toNat 0, rg, px, pk) := by
        unfold takK
        rw [if_pos k0, if_pos ⟨t4, d13, hy⟩]
      obtain ⟨n1, n2⟩ := okH_n hy
      refine ⟨1, s, e0, Or.inr rfl, zh, fun k _ => ih k, Or.inr ⟨_, et, rfl, ⟨(ih 8).trans f8, (ih 9).trans f9, (ih 10).trans f10⟩, fun _ => ⟨RCw_B (Q := fun i => C (b + i)) g1 g2 g3 g4 g5 g6 g7 n1 n2 (fun f hf => absurd k0 (hfin _ _ _ _ _ _ _ et f hf).1), fun z => absurd (w7 k0).2.1 z⟩, fun z => by omega⟩⟩
  · rw [if_neg (fun z => k0 ((kd0 bf).mpr z))] at e0
    obtain ⟨v1, v2, v3, v4⟩ := w8 k0
    obtain ⟨b0, b1, b2, b4, b5, -⟩ := v1.b
    obtain ⟨hR, hpl⟩ := hRC k0
    have kb : zk σ (C b) = 6 := (h.rl hb).1
    have q10 : nI hd = 0 ↔ hd = 0 := nI_eq (b := 0) (by omega) (by decide)
    by_cases t1 : kd ty = 1
    · rw [if_pos (kv.1.mp t1), oA_eq h.k5.1] at e0
      obtain ⟨dn, dy⟩ := k_default (ab := ab) (pk := pk) h hb (m := m) h6 h7 f9 f10 w3 w4 hR.1.2.1 b5 (fun z => by
        obtain ⟨p1, p2⟩ := hpic (Or.inl z)
        unfold gsR at p1
        rw [if_pos z] at p1
        exact ⟨p1, p2, w14 (Or.inl z)⟩) hm
      by_cases c : tl = 0 ∨ (hd = 1 ∧ kd bf ≠ 1)
      · exact hno (by unfold takK; rw [if_neg k0, if_pos t1, if_pos c]) (by rw [e0, oC_eq (dn c)])
      · obtain ⟨s, es, zs, is, i10, r4, B⟩ := dy c
        have et : takK tp (kd bf) (kd ty) ty m q ser tl hd ab rg px pk = some (q + 12 + m, ty, ser, tl, 1, ab, rg, px, (if hd = 0 then [] else pk) ++ prtS tp (q + 8) m) := by
          unfold takK
          rw [if_neg k0, if_pos t1, if_neg c]
        refine ⟨1, s, by rw [e0, oC_eq es], Or.inr rfl, zs.mono (fun _ z => z.rd), fun k hk => is k (by omega), Or.inr ⟨_, et, rfl, ⟨(is 8 (by decide)).trans f8, (is 9 (by decide)).trans f9, i10⟩, fun _ => ⟨(hR.of (fun j hj k => zs.i h.1 (by omega) (P578.no hb hj) k) b4).mono (fun f hf => (hfin _ _ _ _ _ _ _ et f hf).2), fun z => (zs.i h.1 (j := b) (by omega) (P578.no hb (j := 0) (by decide)) 6).trans (hpl z)⟩, fun _ => ⟨?_, B⟩⟩⟩
        unfold gsR
        rw [if_pos t1]
        exact r4
    · rw [if_neg (fun z => t1 (kv.1.mpr z))] at e0
      by_cases t6 : kd ty = 6
      · rw [if_pos (kv.2.2.2.2.2.mp t6)] at e0
        have q0 : nI m = 0 ↔ m = 0 := nI_eq (b := 0) hm32 (by decide)
        have hno6 : ¬ (m = 0 ∧ hd = 1 ∧ kd bf ≠ 3 ∧ ab 4 = tl) → takK tp (kd bf) (kd ty) ty m q ser tl hd ab rg px pk = none := fun c => by
          unfold takK
          rw [if_neg k0, if_neg t1, if_pos t6, if_neg c]
        by_cases c1 : m = 0
        rotate_left
        · exact hno (hno6 (fun z => c1 z.1)) (by rw [e0, if_neg (fun z => c1 (q0.mp z))])
        rw [if_pos (q0.mpr c1)] at e0
        by_cases c2 : hd = 0
        · exact hno (hno6 (fun z => by omega)) (by rw [e0, if_pos (q10.mpr c2)])
        rw [if_neg (fun z => c2 (q10.mp z))] at e0
        by_cases c3 : kd bf = 3
        · exact hno (hno6 (fun z => z.2.2.1 c3)) (by rw [e0, if_pos (kvb.2.2.1.mp c3)])
        have g7 : zi σ (C b) 7 = nI (ab 4) := hR.1.2.2.2.2
        have q4 : nI (ab 4) = nI tl ↔ ab 4 = tl := nI_eq (by omega) (by omega)
        rw [if_neg (fun z => c3 (kvb.2.2.1.mpr z)), oGR_eq h.k5.1 h.2.1, oGI_eq kb g7] at e0
        by_cases c4 : ab 4 = tl
        rotate_left
        · exact hno (hno6 (fun z => c4 z.2.2.2)) (by rw [e0, if_neg (fun z => c4 (q4.mp z))])
        rw [if_pos (q4.mpr c4)] at e0
        have et : takK tp (kd bf) (kd ty) ty m q ser tl hd ab rg px pk = some (q + 12 + m, ty, ser, tl, hd, ab, rg, px, pk) := by
          unfold takK
          rw [if_neg k0, if_neg t1, if_pos t6, if_pos ⟨c1, by omega, c3, c4⟩]
        exact ⟨1, σ, e0, Or.inr rfl, zsq.rf, fun _ _ => rfl, Or.inr ⟨_, et, rfl, ⟨f8, f9, f10⟩, fun _ => ⟨hR.mono (fun f hf => (hfin _ _ _ _ _ _ _ et f hf).2), hpl⟩, fun z => by omega⟩⟩
      · rw [if_neg (fun z => t6 (kv.2.2.2.2.2.mpr z))] at e0
        by_cases t4 : kd ty = 4
        · exact hno (by unfold takK; rw [if_neg k0, if_neg t1, if_neg t6, if_pos t4]) (by rw [e0, if_pos (kv.2.2.2.1.mp t4)])
        rw [if_neg (fun z => t4 (kv.2.2.2.1.mpr z))] at e0
        by_cases t5 : kd ty = 5
        · rw [if_pos (kv.2.2.2.2.1.mp t5)] at e0
          have q8 : nI m = 8 ↔ m = 8 := nI_eq (b := 8) hm32 (by decide)
          by_cases c1 : m = 8
          rotate_left
          · exact hno (by unfold takK; rw [if_neg k0, if_neg t1, if_neg t6, if_neg t4, if_pos t5, if_neg (fun z => c1 z.1)]) (by rw [e0, if_neg (fun z => c1 (q8.mp z))])
          rw [if_pos (q8.mpr c1), oA_eq h.k5.1] at e0
          obtain ⟨cy, cn⟩ := k_counts h hb (f := q + 8) (by omega) f9 f10 w3 w4
          by_cases c : tl = 0 ∧ hd = 0 ∧ 1 ≤ (nmS tp (q + 8)).toInt ∧ (nmS tp (q + 8)).toInt ≤ 8
          rotate_left
          · exact hno (by unfold takK; rw [if_neg k0, if_neg t1, if_neg t6, if_neg t4, if_pos t5, if_neg (fun z => c z.2)]) (by rw [e0, oC_eq (cn c), if_pos rfl])
          rw [oC_eq (cy c), if_neg (by decide)] at e0
          have et : takK tp (kd bf) (kd ty) ty m q ser tl hd ab rg px pk = some (q + 12 + m, ty, ser, (nmS tp (q + 8)).toInt.toNat, hd, abP ab (zn4 (fun j => tp.getD j 0) (q + 8 + 4)), rg, px, pk) := by
            unfold takK
            rw [if_neg k0, if_neg t1, if_neg t6, if_neg t4, if_pos t5, if_pos ⟨c1, c⟩]
          have n5b : C 5 ≠ C b := fun e => by have := h.1.1 5 b (by decide) (by omega) e; omega
          have i5 : ∀ k, k ≠ 9 → zi (zuI (zuI σ (C 5) 9 (nmS tp (q + 8))) (C b) 6 (nmS tp (q + 8 + 4))) (C 5) k = zi σ (C 5) k := fun k hk => by
            rw [zi_uI, if_neg (fun z => n5b z.1), zi_uI, if_neg (fun z => hk z.2)]
          have i59 : zi (zuI (zuI σ (C 5) 9 (nmS tp (q + 8))) (C b) 6 (nmS tp (q + 8 + 4))) (C 5) 9 = nI (nmS tp (q + 8)).toInt.toNat := by
            rw [zi_uI, if_neg (fun z => n5b z.1), zi_uI, if_pos ⟨rfl, rfl⟩]
            exact znI_1 c.2.2.1
          have ib : ∀ j, j < 20 → ∀ k, (j = 0 → k ≠ 6) → zi (zuI (zuI σ (C 5) 9 (nmS tp (q + 8))) (C b) 6 (nmS tp (q + 8 + 4))) (C (b + j)) k = zi σ (C (b + j)) k := fun j hj k hk => by
            rw [zi_uI, if_neg (fun z => by
              have := h.1.1 (b + j) b (by omega) (by omega) z.1
              exact hk (by omega) z.2), zi_uI, if_neg (fun z => by
              have := h.1.1 (b + j) 5 (by omega) (by decide) z.1
              omega)]
          have ib6 : zi (zuI (zuI σ (C 5) 9 (nmS tp (q + 8))) (C b) 6 (nmS tp (q + 8 + 4))) (C b) 6 = nmS tp (q + 8 + 4) := by rw [zi_uI, if_pos ⟨rfl, rfl⟩]
          have zz : zsq C (PRd b) σ (zuI (zuI σ (C 5) 9 (nmS tp (q + 8))) (C b) 6 (nmS tp (q + 8 + 4))) := (zsq.rf.uI (by decide) (Or.inl rfl)).uI (by omega) (Or.inr (Or.inr (by omega)))
          generalize zuI (zuI σ (C 5) 9 (nmS tp (q + 8))) (C b) 6 (nmS tp (q + 8 + 4)) = s at e0 i5 i59 ib ib6 zz
          obtain ⟨⟨g1, g2, g3, g4, g6⟩, ⟨g7, g8⟩, g9, g10⟩ := hR
          have hR' : RCw s (fun i => C (b + i)) ab rg px fn := ⟨⟨(ib 0 (by decide) 2 (by decide)).trans g1, (ib 0 (by decide) 3 (by decide)).trans g2, (ib 0 (by decide) 4 (by decide)).trans g3, (ib 0 (by decide) 5 (by decide)).trans g4, (ib 0 (by decide) 7 (by decide)).trans g6⟩, ⟨(ib 18 (by decide) 1 (by decide)).trans g7, (ib 18 (by decide) 2 (by decide)).trans g8⟩, fun f hf k hk => (ib (2 + 2 * f) (by omega) _ (by omega)).trans (g9 f hf k hk), fun f hf => ⟨(g10 f hf).1, fun i hi => (ib (3 + 2 * f) (by have := (g10 f hf).1; omega) _ (by omega)).trans ((g10 f hf).2 i hi)⟩⟩
          exact ⟨1, s, e0, Or.inr rfl, zz, fun k hk => i5 k (by omega), Or.inr ⟨_, et, rfl, ⟨(i5 8 (by decide)).trans f8, i59, (i5 10 (by decide)).trans f10⟩, fun _ => ⟨(hR'.mono (fun f hf => (hfin _ _ _ _ _ _ _ et f hf).2)).pl, fun _ => by rw [abP_3, ib6, nmS]⟩, fun z => by omega⟩⟩
        rw [if_neg (fun z => t5 (kv.2.2.2.2.1.mpr z))] at e0
        by_cases t3 : kd ty = 3
        · rw [if_pos (kv.2.2.1.mp t3)] at e0
          have q26 : nI m = 26 ↔ m = 26 := nI_eq (b := 26) hm32 (by decide)
          by_cases c1 : m = 26
          rotate_left
          · exact hno (by unfold takK; rw [if_neg k0, if_neg t1, if_neg t6, if_neg t4, if_neg t5, if_pos t3, if_neg (fun z => c1 z.1)]) (by rw [e0, if_neg (fun z => c1 (q26.mp z))])
          rw [if_pos (q26.mpr c1), oA_eq h.k5.1] at e0
          obtain ⟨r, s, es, zs, is, hs⟩ := k_control (ser := ser) (tl := tl) (hd := hd) h hb (f := q + 8) (by omega) h7 f8 f9 f10 hR v1 w3 w4 (fun z1 z2 => by
            rcases w10 z1 k0 with y | y <;> omega)
          rw [oC_eq es] at e0
          rcases hs with ⟨hn, r0⟩ | ⟨hy, r1, i8, ib6, hRs⟩
          · subst r0
            rw [if_pos rfl] at e0
            exact ⟨0, s, e0, Or.inl rfl, zs.mono (fun _ z => z.rd), fun k hk => is k (by omega), Or.inl ⟨by unfold takK; rw [if_neg k0, if_neg t1, if_neg t6, if_neg t4, if_neg t5, if_pos t3, if_neg (fun z => hn z.2)], rfl⟩⟩
          · subst r1
            rw [if_neg (by decide)] at e0
            have et : takK tp (kd bf) (kd ty) ty m q ser tl hd ab rg px pk = some (q + 12 + m, ty, ser + 1, tl, hd, abC ab hd, rgF rg (ab 4) (rgC tp (q + 8)), px, pk) := by
              unfold takK
              rw [if_neg k0, if_neg t1, if_neg t6, if_neg t4, if_neg t5, if_pos t3, if_pos ⟨c1, hy⟩]
            refine ⟨1, s, e0, Or.inr rfl, zs.mono (fun _ z => z.rd), fun k hk => is k (by omega), Or.inr ⟨_, et, rfl, ⟨i8, (is 9 (by decide)).trans f9, (is 10 (by decide)).trans f10⟩, fun _ => ⟨hRs.mono (fun f hf => ⟨(hfin _ _ _ _ _ _ _ et f hf).2, ?_⟩), fun z => ib6.trans (hpl z)⟩, fun z => by omega⟩⟩
            rcases hf with ⟨y1, y2, -⟩ | ⟨y1, -⟩
            · have y1' : f < ab 4 + 1 := y1
              have y2' : ¬ ((kd ty = 3 ∨ kd ty = 2) ∧ f + 1 = ab 4 + 1) := y2
              omega
            · exact Or.inr y1
        rw [if_neg (fun z => t3 (kv.2.2.1.mpr z))] at e0
        by_cases t2 : kd ty = 2
        · rw [if_pos (kv.2.1.mp t2)] at e0
          have q4 : nI m < 4 ↔ m < 4 := nI_ltI (b := 4) hm32 (by decide)
          by_cases c1 : m < 4
          · exact hno (by unfold takK; rw [if_neg k0, if_neg t1, if_neg t6, if_neg t4, if_neg t5, if_neg t3, if_pos t2, if_neg (fun z => by have := z.1; omega)]) (by rw [e0, if_pos (q4.mpr c1)])
          rw [if_neg (fun z => c1 (q4.mp z)), oA_eq h.k5.1] at e0
          obtain ⟨fno, fy⟩ := k_fdata (ab := ab) (pk := pk) (ser := ser) (hd := hd) h hb (m := m) h6 h7 f8 f10 w4 hR.1.2.2.2.2 (fun z => (w13 z).1) b4 (fun z => by
            obtain ⟨p1, p2⟩ := hpic (Or.inr z)
            unfold gsR at p1
            rw [if_neg (by omega)] at p1
            exact ⟨p1, p2, w14 (Or.inr z)⟩) (by omega) hm
          by_cases c : hd = 1 ∧ (kd bf = 3 ∨ kd bf = 2) ∧ nmS tp (q + 8) = nI ser
          rotate_left
          · obtain ⟨s, es, zs, is⟩ := fno c
            rw [oC_eq es, if_pos rfl] at e0
            exact ⟨0, s, e0, Or.inl rfl, zs.mono (fun _ z => z.rd), fun k hk => is k (by omega), Or.inl ⟨by unfold takK; rw [if_neg k0, if_neg t1, if_neg t6, if_neg t4, if_neg t5, if_neg t3, if_pos t2, if_neg (fun z => c z.2)], rfl⟩⟩
          · obtain ⟨s, es, zs, is, i8, r4, B⟩ := fy c
            rw [oC_eq es, if_neg (by decide)] at e0
            have et : takK tp (kd bf) (kd ty) ty m q ser tl hd ab rg px pk = some (q + 12 + m, ty, ser + 1, tl, hd, ab, rg, px, (if kd bf = 3 then [] else pk) ++ prtS tp (q + 12) (m - 4)) := by
              unfold takK
              rw [if_neg k0, if_neg t1, if_neg t6, if_neg t4, if_neg t5, if_neg t3, if_pos t2, if_pos ⟨by omega, c⟩]
            refine ⟨1, s, e0, Or.inr rfl, zs.mono (fun _ z => z.rd), fun k hk => is k (by omega), Or.inr ⟨_, et, rfl, ⟨i8, (is 9 (by decide)).trans f9, (is 10 (by decide)).trans f10⟩, fun _ => ⟨(hR.of (fun j hj k => zs.i h.1 (by omega) (P578.no hb hj) k) b4).mono (fun f hf => (hfin _ _ _ _ _ _ _ et f hf).2), fun z => (zs.i h.1 (j := b) (by omega) (P578.no hb (j := 0) (by decide)) 6).trans (hpl z)⟩, fun _ => ⟨?_, B⟩⟩⟩
            unfold gsR
            rw [if_neg t1]
            exact r4
        rw [if_neg (fun z => t2 (kv.2.1.mpr z))] at e0
        have hno7 : ¬ (kd bf ≠ 3 ∧ letS tp (q + 4)) → takK tp (kd bf) (kd ty) ty m q ser tl hd ab rg px pk = none := fun c => by
          unfold takK
          rw [if_neg k0, if_neg t1, if_neg t6, if_neg t4, if_neg t5, if_neg t3, if_neg t2, if_neg c]
        by_cases c3 : kd bf = 3
        · exact hno (hno7 (fun z => z.1 c3)) (by rw [e0, if_pos (kvb.2.2.1.mp c3)])
        rw [if_neg (fun z => c3 (kvb.2.2.1.mpr z)), oA_eq h.k5.1] at e0
        obtain ⟨ly, ln⟩ := k_left h (f := q + 4) (by omega)
        by_cases c : letS tp (q + 4)
        rotate_left
        · exact hno (hno7 (fun z => c z.2)) (by rw [e0, oB_eq (ln c), if_pos rfl])
        rw [oB_eq (ly c), if_neg (by decide)] at e0
        have et : takK tp (kd bf) (kd ty) ty m q ser tl hd ab rg px pk = some (q + 12 + m, ty, ser, tl, hd, ab, rg, px, pk) := by
          unfold takK
          rw [if_neg k0, if_neg t1, if_neg t6, if_neg t4, if_neg t5, if_neg t3, if_neg t2, if_pos ⟨c3, c⟩]
        exact ⟨1, σ, e0, Or.inr rfl, zsq.rf, fun _ _ => rfl, Or.inr ⟨_, et, rfl, ⟨f8, f9, f10⟩, fun _ => ⟨hR.mono (fun f hf => (hfin _ _ _ _ _ _ _ et f hf).2), hpl⟩, fun z => by omega⟩⟩
end PCTAKE
