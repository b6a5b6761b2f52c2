/-! the class's reader: a chunk is taken -/
theorem okH_n {tp : List Nat} {f : Nat} (h : okH tp f) : nmS tp f = nI (nmS tp f).toInt.toNat ∧ nmS tp (f + 4) = nI (nmS tp (f + 4)).toInt.toNat := by
  unfold okH at h
  generalize nmS tp f = x at h ⊢
  generalize nmS tp (f + 4) = y at h ⊢
  exact ⟨znI (by omega), znI (by omega)⟩
theorem znI_1 {x : Int32} (h : 1 ≤ x.toInt) : x = nI x.toInt.toNat := znI (by omega)
theorem abP_3 {ab : Nat → Nat} {p : Nat} : abP ab p 3 = p := rfl
section PCTAKE
variable {σ s t : zS} {C : Nat → Nat} {P : Nat → Prop} {b : Nat} {tp : List Nat} {ab : Nat → Nat} {rg px : Nat → Nat → Nat} {fn : Nat → Prop}
theorem RCw.mono {Q : Nat → Nat} {fn' : Nat → Prop} (h : RCw σ Q ab rg px fn) (hf : ∀ f, fn' f → fn f) : RCw σ Q ab rg px fn' := ⟨h.1, h.2.1, h.2.2.1, fun f z => h.2.2.2 f (hf f z)⟩
theorem RCw.P {Q : Nat → Nat} {p : Nat} (h : RCw σ Q ab rg px fn) : RCw σ Q (abP ab p) rg px fn := h
theorem k_take (hb : isR b) {ty : Int32} {m q ser tl hd : Nat} {bf : Int32} {pk : List Nat} (h : KB σ C b tp) (h6 : zi σ (C 5) 6 = nI q) (h7 : zi σ (C 5) 7 = bf) (hT : KT σ C b fn (q, bf, ser, tl, hd, ab, rg, px, pk)) (hW : WFk tp (kd bf) q ser tl hd ab rg pk) (hm : q + 12 + m ≤ tp.length) (ht0 : letS tp (q + 4) → kd ty ≠ 0) (hfn : ∀ f, (Fn (kd bf) hd ab f ∨ (clC bf ty ∧ f = gsR (kd bf) ab)) → fn f) :
    ∃ r s, fX4_takesChunk σ (C 5) ty (nI m) = some (r, s) ∧ zsq C (PRd b) σ s ∧ (∀ k, k < 8 → zi s (C 5) k = zi σ (C 5) k) ∧ ((takK tp (kd bf) (kd ty) ty m q ser tl hd ab rg px pk = none ∧ r = 0) ∨ ∃ R', takK tp (kd bf) (kd ty) ty m q ser tl hd ab rg px pk = some R' ∧ r = 1 ∧ KT s C b (FnR R') R') := by
  have hwf := fun R' e => wfk_take (R' := R') (ty := ty) (px := px) (cx := clC bf ty) hW hm ht0 (fun z n1 n2 => ⟨fun y => by rw [y] at n1 n2; omega, z⟩) e
  obtain ⟨⟨w1, w2, w3, w4, w5, w6⟩, w7, w8, w9, w10, w11, w12, w13, w14⟩ := id hW
  obtain ⟨⟨f8, f9, f10⟩, hRC, hpic⟩ := hT
  have hlen := h.len
  have hlt := hb.lt
  have h25 : 25 ≤ b := by rcases hb with z | z <;> omega
  have a8 : nI q + 8 = nI (q + 8) := nI_add q 8
  have a4 : nI q + 4 = nI (q + 4) := nI_add q 4
  have kv := kdv ty
  have kvb := kdv bf
  suffices H : ∃ r s, gX4_takesChunk σ (C 5) ty (nI m) = some (r, s) ∧ (r = 0 ∨ r = 1) ∧ zsq C (PRd b) σ s ∧ (∀ k, k < 8 → zi s (C 5) k = zi σ (C 5) k) ∧ ((takK tp (kd bf) (kd ty) ty m q ser tl hd ab rg px pk = none ∧ r = 0) ∨ ∃ R', takK tp (kd bf) (kd ty) ty m q ser tl hd ab rg px pk = some R' ∧ r = 1 ∧ KT s C b (FnR R') R') by
    obtain ⟨r, s, e, hr, hh⟩ := H
    exact ⟨r, s, oCw e hr, hh⟩
  have hno : takK tp (kd bf) (kd ty) ty m q ser tl hd ab rg px pk = none → gX4_takesChunk σ (C 5) ty (nI m) = some (0, σ) → ∃ r s, gX4_takesChunk σ (C 5) ty (nI m) = some (r, s) ∧ (r = 0 ∨ r = 1) ∧ zsq C (PRd b) σ s ∧ (∀ k, k < 8 → zi s (C 5) k = zi σ (C 5) k) ∧ ((takK tp (kd bf) (kd ty) ty m q ser tl hd ab rg px pk = none ∧ r = 0) ∨ ∃ R', takK tp (kd bf) (kd ty) ty m q ser tl hd ab rg px pk = some R' ∧ r = 1 ∧ KT s C b (FnR R') R') := fun e1 e2 => ⟨0, σ, e2, Or.inl rfl, zsq.rf, fun _ _ => rfl, Or.inl ⟨e1, rfl⟩⟩
  have e0 : gX4_takesChunk σ (C 5) ty (nI m) = (if bf = 0 then (if ty = (1229472850 : Int32) then (if nI m = (13 : Int32) then oA (zk σ (C 5) = 5) (oC (fX4_takesHead σ (C 5) (nI (q + 8))) (fun x16 σ5 => (if x16 = 0 then some (0, σ5) else some (1, σ5)))) else some (0, σ)) else some (0, σ)) else (if ty = 1229209940 then oA (zk σ (C 5) = 5) (oC (fX4_takesDefaultData σ (C 5) (nI m)) (fun x2 σ1 => some (x2, σ1))) else (if ty = 1229278788 then (if nI m = 0 then (if nI hd = 0 then some (0, σ) else (if bf = (1717785676 : Int32) then some (0, σ) else oGR σ 5 (C 5) 3 (fun a1 => oGI σ 6 a1 7 (fun x5 => (if x5 = nI tl then some (1, σ) else some (0, σ)))))) else some (0, σ)) else (if ty = 1229472850 then some (0, σ) else (if ty = 1633899596 then (if nI m = (8 : Int32) then oA (zk σ (C 5) = 5) (oC (fX4_takesCounts σ (C 5) (nI (q + 8))) (fun x8 σ2 => (if x8 = 0 then some (0, σ2) else some (1, σ2)))) else some (0, σ)) else (if ty = 1717785676 then (if nI m = (26 : Int32) then oA (zk σ (C 5) = 5) (oC (fX4_takesControl σ (C 5) (nI (q + 8))) (fun x10 σ3 => (if x10 = 0 then some (0, σ3) else some (1, σ3)))) else some (0, σ)) else (if ty = 1717846356 then (if nI m < (4 : Int32) then some (0, σ) else oA (zk σ (C 5) = 5) (oC (fX4_takesFrameData σ (C 5) (nI m)) (fun x11 σ4 => (if x11 = 0 then some (0, σ4) else some (1, σ4))))) else (if bf = (1717785676 : Int32) then some (0, σ) else oA (zk σ (C 5) = 5) (oB (fX4_mayBeLeftOut σ (C 5) (nI (q + 4))) (fun x14 => (if x14 = 0 then some (0, σ) else some (1, σ))))))))))))) := by
    unfold gX4_takesChunk
    rw [oGI_eq h.k5.1 h7, oGI_eq h.k5.1 h6, oGI_eq h.k5.1 h6, oGI_eq h.k5.1 h6, oGI_eq h.k5.1 h6, oGI_eq h.k5.1 f10, oGI_eq h.k5.1 h7, oGI_eq h.k5.1 h7, a8, a4]
    simp only [oGI_eq h.k5.1 f9]
  have hm32 : m < 2147483648 := by omega
  by_cases k0 : kd bf = 0
  · have b0 := (kd0 bf).mp k0
    rw [if_pos b0] at e0
    by_cases t4 : kd ty = 4
    rotate_left
    · exact hno (by unfold takK; rw [if_pos k0, if_neg (fun z => t4 z.1)]) (by rw [e0, if_neg (fun z => t4 (kv.2.2.2.1.mpr z))])
    rw [if_pos (kv.2.2.2.1.mp t4)] at e0
    have q13 : nI m = 13 ↔ m = 13 := nI_eq (b := 13) hm32 (by decide)
    by_cases d13 : m = 13
    rotate_left
    · exact hno (by unfold takK; rw [if_pos k0, if_neg (fun z => d13 z.2.1)]) (by rw [e0, if_neg (fun z => d13 (q13.mp z))])
    rw [if_pos (q13.mpr d13), oA_eq h.k5.1] at e0
    obtain ⟨r, s, eh, zh, ih, hh⟩ := k_head h hb (f := q + 8) (by omega)
    rw [oC_eq eh] at e0
    rcases hh with ⟨hn, r0⟩ | ⟨hy, r1, ⟨g1, g2, g3, g4, g5⟩, g6, g7⟩
    · subst r0
      rw [if_pos rfl] at e0
      exact ⟨0, s, e0, Or.inl rfl, zh, fun k _ => ih k, Or.inl ⟨by unfold takK; rw [if_pos k0, if_neg (fun z => hn z.2.2)], rfl⟩⟩
    · subst r1
      rw [if_neg (by decide)] at e0
      have et : takK tp (kd bf) (kd ty) ty m q ser tl hd ab rg px pk = some (q + 12 + m, ty, ser, tl, hd, abB (nmS tp (q + 8)).toInt.toNat (nmS tp (q + 8 + 4)).toInt.toNat 0, rg, px, pk) := by
        unfold takK
        rw [if_pos k0, if_pos ⟨t4, d13, hy⟩]
      obtain ⟨n1, n2⟩ := okH_n hy
      refine ⟨1, s, e0, Or.inr rfl, zh, fun k _ => ih k, Or.inr ⟨_, et, rfl, ⟨(ih 8).trans f8, (ih 9).trans f9, (ih 10).trans f10⟩, fun _ => ⟨⟨⟨g1, g2, g3.trans n1, g4.trans n2, g5⟩, ⟨g6.trans n1, g7.trans n2⟩, fun f hf => absurd hf (Nat.not_lt_zero f), fun f hf => ?_⟩, fun z => absurd (w7 k0).2.1 z⟩, fun z => by omega⟩⟩
      have hf' : Fn (kd ty) hd (abB (nmS tp (q + 8)).toInt.toNat (nmS tp (q + 8 + 4)).toInt.toNat 0) f := hf
      obtain ⟨-, -, -, -, -, -, ew, -, hw2⟩ := hwf _ et
      have h2 : kd bf ≠ 0 := by
        have hh := Prod.mk.inj ew
        exact (hw2 f (by
          obtain ⟨-, hh2⟩ := hh
          obtain ⟨-, hh3⟩ := Prod.mk.inj hh2
          obtain ⟨-, hh4⟩ := Prod.mk.inj hh3
          obtain ⟨-, hh5⟩ := Prod.mk.inj hh4
          obtain ⟨hh5a, hh6⟩ := Prod.mk.inj hh5
          obtain ⟨hh6a, -⟩ := Prod.mk.inj hh6
          rw [← hh5a, ← hh6a]
          exact hf')).1
      exact absurd k0 h2
  · sorry
end PCTAKE
