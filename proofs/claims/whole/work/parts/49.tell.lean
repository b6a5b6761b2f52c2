/-! Unpacker: told codes: the tellers -/
def ordS (k : Nat) : Nat := ([16, 17, 18, 0, 8, 7, 9, 6, 10, 5, 11, 4, 12, 3, 13, 2, 14, 1, 15] : List Nat).getD k 0
theorem ord_zt : ∀ k, k < 19 → zt0.getD k 0 = nI (ordS k) ∧ ordS k < 19 := by decide +kernel
def tlI (pk : List Nat) (pos : Nat) : Nat → Nat → Nat
  | 0 => fun _ => 0
  | k + 1 => va_up (tlI pk pos k) (ordS k) (numS (pb pk) (pos + 3 * k) 3)
theorem tlI_le (pk : List Nat) (pos : Nat) : ∀ k s, tlI pk pos k s ≤ 7
  | 0, s => Nat.zero_le _
  | k + 1, s => by
    rw [tlI]
    unfold va_up
    split
    · have := numS_lt (pb pk) (pos + 3 * k) 3
      omega
    · exact tlI_le pk pos k s
def tellS (pk : List Nat) (pos : Nat) : Option (Nat × Nat × (Nat → Nat) × Nat) :=
  match takeS pk pos 14 with
  | none => none
  | some (h, p1) => if h % 32 + 257 ≤ 286 ∧ h / 32 % 32 + 1 ≤ 30 ∧ p1 + 3 * (h / 1024 + 4) ≤ 8 * pk.length ∧ leftS (tlI pk p1 (h / 1024 + 4)) 19 15 = 0 then some (h % 32 + 257, h / 32 % 32 + 1, tlI pk p1 (h / 1024 + 4), p1 + 3 * (h / 1024 + 4)) else none
section PTELL
variable {σ : zS} {A : Nat → Nat} {pk out : List Nat} {pos : Nat}
theorem UD.of5 {a : Nat} (h : a = A 5) : UD A a := Or.inr ⟨5, by decide, by decide, h⟩
theorem UD.ofC {a : Nat} (h : UC A a) : UD A a := Or.inr (by obtain ⟨i, h1, h2, e⟩ := h; exact ⟨i, by omega, h2, e⟩)
theorem UD.of18 {a : Nat} (h : a = A 18) : UD A a := Or.inr ⟨18, by decide, by decide, h⟩
theorem UL.nUD (h : UL σ A) (i : Nat) (h1 : 1 ≤ i) (h2 : i < 5) : ¬ UD A (A i) := fun z => by
  rcases z with z | ⟨j, h3, h4, z⟩
  · have := h.1 i 0 (by omega) (by decide) z; omega
  · have := h.1 i j (by omega) h4 z; omega
theorem US.set0 (h : US σ A pk out pos) {j : Nat} {v : Int32} : US (zuI σ (A 0) j v) A pk out pos := h.of (S := fun a => a = A 0) (zsm.rf.uI rfl) (fun i h1 h2 => h.1.ne i 0 (by omega) (by decide) (by omega))
theorem US.keep {σ' : zS} (h : US σ A pk out pos) (hs : zsm (fun a => a = A 18) σ σ') : US σ' A pk out pos := h.of hs (fun i h1 h2 => h.1.ne i 18 (by omega) (by decide) (by omega))
theorem u_tell (h : US σ A pk out pos) : ∃ r σ', fX9_takeTellers σ (A 0) = some (r, σ') ∧ zsm (UD A) σ σ' ∧ ((tellS pk pos = none ∧ r = 0) ∨ ∃ M Dn tl p', tellS pk pos = some (M, Dn, tl, p') ∧ r = 1 ∧ US σ' A pk out p' ∧ zi σ' (A 0) 7 = nI M ∧ zi σ' (A 0) 8 = nI Dn ∧ CD σ' (A 6) (A 7) (A 9) tl 19 ∧ 257 ≤ M ∧ M ≤ 286 ∧ 1 ≤ Dn ∧ Dn ≤ 30) := by
  obtain ⟨l1, l2, l3, l4, l5, l6, l7, l8, l9, l10, l11, l12, l13, l14, l15, l16⟩ := id h.1
  obtain ⟨x1, σ1, e1, m1, c1⟩ := u_take h (m := 14) (by decide)
  have e1' : fX0_take σ (A 5) 14 = some (x1, σ1) := e1
  have m1' : zsm (UD A) σ σ1 := m1.mono (fun a e => UD.of5 e)
  rcases c1 with ⟨t1, r1, h1⟩ | ⟨v, t1, r1, b1, h1⟩
  · refine ⟨0, zuI (zuI σ1 (A 0) 7 ((x1 &&& (31 : Int32)) + (257 : Int32))) (A 0) 8 (((x1 >>> ((5 : Int32) &&& 31)) &&& (31 : Int32)) + (1 : Int32)), ?_, (m1'.uI (Or.inl rfl)).uI (Or.inl rfl), Or.inl ⟨by unfold tellS; rw [t1], rfl⟩⟩
    have hn : x1 < 0 := by rw [r1]; decide
    unfold fX9_takeTellers gX9_takeTellers
    simp only [oGR, oR, oA, oC, oPI, zk_uI, l2, l5, l12, e1', m1.k, hn, true_or, ↓reduceIte]
  · subst r1
    have hn : ¬ nI v < 0 := nI_pos (by omega)
    have q1 : nI v &&& 31 = nI (v % 32) := pk_andN (by omega) 5 (by decide)
    have q2 : nI (v % 32) + 257 = nI (v % 32 + 257) := nI_add _ 257
    have q3 : nI v >>> ((5 : Int32) &&& 31) = nI (v / 32) := zshr (k := 5) (by decide) (by omega)
    have q4 : nI (v / 32) &&& 31 = nI (v / 32 % 32) := pk_andN (by omega) 5 (by decide)
    have q5 : nI (v / 32 % 32) + 1 = nI (v / 32 % 32 + 1) := nI_add _ 1
    have q6 : nI v >>> ((10 : Int32) &&& 31) = nI (v / 1024) := zshr (k := 10) (by decide) (by omega)
    have q7 : nI (v / 1024) + 4 = nI (v / 1024 + 4) := nI_add _ 4
    have c1 : (286 : Int32) < nI (v % 32 + 257) ↔ 286 < v % 32 + 257 := nI_ltI (a := 286) (by decide) (by omega)
    have c2 : nI (v / 32 % 32 + 1) ≤ 30 ↔ v / 32 % 32 + 1 ≤ 30 := nI_leI (b := 30) (by omega) (by decide)
    generalize hσ3 : zuI (zuI σ1 (A 0) 7 (nI (v % 32 + 257))) (A 0) 8 (nI (v / 32 % 32 + 1)) = σ3
    have h3 : US σ3 A pk out (pos + 14) := by rw [← hσ3]; exact (h1.set0).set0
    have m3 : zsm (UD A) σ σ3 := by rw [← hσ3]; exact (m1'.uI (Or.inl rfl)).uI (Or.inl rfl)
    have f7 : zi σ3 (A 0) 7 = nI (v % 32 + 257) := by rw [← hσ3, zi_uI, if_neg (fun z => by omega), zi_uI, if_pos ⟨rfl, rfl⟩]
    have f8 : zi σ3 (A 0) 8 = nI (v / 32 % 32 + 1) := by rw [← hσ3, zi_uI, if_pos ⟨rfl, rfl⟩]
    have hpre : gX9_takeTellers σ (A 0) = if 286 < v % 32 + 257 then some (0, σ3) else if v / 32 % 32 + 1 ≤ 30 then oB (fJ7_fill_53178 σ3 (A 18) 0) (fun σ4 => oB (zloop zF (fun x => bX9_takeTellers_76 (A 0) (nI (v / 1024 + 4)) x.1 x.2) (0, σ4)) (fun b1 => oS b1 (fun c1 => (fun σ7 => oGR σ7 9 (A 0) 3 (fun a5 => oGR σ7 9 (A 0) 6 (fun a6 => oA (zk σ7 a5 = 3) (oC (fX2_build σ7 a5 a6 0 19) (fun x6 σ8 => (if x6 = 0 then some (1, σ8) else some (0, σ8))))))) c1) (fun r1 => some r1))) else some (0, σ3) := by
      unfold gX9_takeTellers
      simp only [oGR, oR, oGI, oA, oC, oPI, oL, zk_uI, l2, l5, l12, e1', m1.k, q1, q2, q3, q4, q5, q6, q7, hσ3, hn, m3.k, m3.r, l9, f7, f8, c1, c2, ↓reduceIte]
    have htell : tellS pk pos = if v % 32 + 257 ≤ 286 ∧ v / 32 % 32 + 1 ≤ 30 ∧ pos + 14 + 3 * (v / 1024 + 4) ≤ 8 * pk.length ∧ leftS (tlI pk (pos + 14) (v / 1024 + 4)) 19 15 = 0 then some (v % 32 + 257, v / 32 % 32 + 1, tlI pk (pos + 14) (v / 1024 + 4), pos + 14 + 3 * (v / 1024 + 4)) else none := by
      unfold tellS
      rw [t1]
    by_cases d1 : 286 < v % 32 + 257
    · refine ⟨0, σ3, ?_, m3, Or.inl ⟨by rw [htell, if_neg (fun z => by omega)], rfl⟩⟩
      unfold fX9_takeTellers
      rw [hpre, if_pos d1]
      simp only [oC, oA, true_or, ↓reduceIte]
    · rw [if_neg d1] at hpre
      by_cases d2 : v / 32 % 32 + 1 ≤ 30
      · rw [if_pos d2] at hpre
        obtain ⟨σ4, e4, m4, f4⟩ := s_fill (σ := σ3) (a := A 18) (by rw [m3.k]; exact l10) (by rw [m3.n, l11]; decide) 0
        have h4 : US σ4 A pk out (pos + 14) := h3.keep m4
        have m4' : zsm (UD A) σ σ4 := m3.trans (m4.mono (fun a e => UD.of18 e))
        have n0 : A 0 ≠ A 18 := h.1.ne 0 18
        obtain ⟨b, eb, pb'⟩ := zloop_cnt (body := fun x => bX9_takeTellers_76 (A 0) (nI (v / 1024 + 4)) x.1 x.2) (fun i x => x.1 = nI i ∧ zsm (fun a => a = A 18 ∨ a = A 5) σ4 x.2 ∧ US x.2 A pk out (pos + 14 + 3 * i) ∧ ∀ s, s < 19 → zi x.2 (A 18) s = nI (tlI pk (pos + 14) i s)) (v / 1024 + 4)
          (fun b => match b with
            | .inl s => zsm (fun a => a = A 18 ∨ a = A 5) σ4 s ∧ US s A pk out (pos + 14 + 3 * (v / 1024 + 4)) ∧ ∀ z, z < 19 → zi s (A 18) z = nI (tlI pk (pos + 14) (v / 1024 + 4) z)
            | .inr r => r.1 = 0 ∧ zsm (fun a => a = A 18 ∨ a = A 5) σ4 r.2 ∧ ¬ pos + 14 + 3 * (v / 1024 + 4) ≤ 8 * pk.length)
          (fun i x hi hx => by
            obtain ⟨k, s⟩ := x
            obtain ⟨x1, x2, x3, x4⟩ := hx
            dsimp only at x1 x2 x3 x4
            subst x1
            have ti : (nI i).toInt = (i : Int) := zt_nI (by omega)
            have tn : (nI (v / 1024 + 4)).toInt = ((v / 1024 + 4 : Nat) : Int) := zt_nI (by omega)
            obtain ⟨y1, s1, g1, n1, k1⟩ := u_take x3 (m := 3) (by decide)
            have g1' : fX0_take s (A 5) 3 = some (y1, s1) := g1
            have mm := m4'.trans (x2.mono (fun a z => z.elim UD.of18 UD.of5))
            have mm1 := mm.trans (n1.mono (fun a z => UD.of5 z))
            rcases k1 with ⟨w1, w2, w3⟩ | ⟨u, w1, w2, w3, w4⟩
            · refine Or.inr ⟨.inr (0, s1), ?_, rfl, x2.trans (n1.mono (fun a z => Or.inr z)), ?_⟩
              · unfold bX9_takeTellers_76
                simp only [oGR, oR, oA, oC, mm.k, mm.r, l2, l5, l12, g1', w2, zle, ti, tn, show ¬ ((0 : Int32).toInt ≤ (-1 : Int32).toInt) from by decide, ↓reduceIte]
                rw [if_neg (by omega)]
              · unfold takeS at w1
                by_cases z : pos + 14 + 3 * i + 3 ≤ 8 * pk.length
                · rw [if_pos z] at w1; cases w1
                · omega
            · obtain ⟨o1, o2⟩ := ord_zt i (by omega)
              have hu : u = numS (pb pk) (pos + 14 + 3 * i) 3 := by
                unfold takeS at w1
                by_cases z : pos + 14 + 3 * i + 3 ≤ 8 * pk.length
                · rw [if_pos z] at w1; cases w1; rfl
                · rw [if_neg z] at w1; cases w1
              have to : (nI (ordS i)).toInt = (ordS i : Int) := zt_nI (by omega)
              have tu : (nI u).toInt = (u : Int) := zt_nI (by omega)
              have a1 : nI i + 1 = nI (i + 1) := nI_1 i
              have hl0 : zt0.length = 19 := rfl
              refine Or.inl ⟨(nI (i + 1), zuI s1 (A 18) (ordS i) (nI u)), ?_, rfl, (x2.trans (n1.mono (fun a z => Or.inr z))).uI (Or.inl rfl), ?_, fun z hz => ?_⟩
              · unfold bX9_takeTellers_76
                simp only [oGR, oR, oA, oC, oLt, oSt, oL, mm.k, mm.r, mm1.k, mm1.n, mm1.r, l2, l5, l9, l10, l11, l12, g1', w2, zle, ti, tn, tu, zt0', znat, Int.toNat_natCast, hl0, o1, to, a1, ↓reduceIte]
                rw [if_neg (by omega), if_pos (by omega), if_pos (by omega), if_pos ⟨trivial, by omega, by omega⟩]
              · have : pos + 14 + 3 * (i + 1) = pos + 14 + 3 * i + 3 := by omega
                rw [this]
                exact w4.keep (zsm.rf.uI rfl)
              · rw [zi_uI, tlI]
                unfold va_up
                by_cases e : z = ordS i
                · rw [if_pos ⟨rfl, e⟩, if_pos e, hu]
                · rw [if_neg (fun q => e q.2), if_neg e, n1.i (h.1.ne 18 5)]
                  exact x4 z hz)
          (fun x hx => by
            obtain ⟨k, s⟩ := x
            obtain ⟨x1, x2, x3, x4⟩ := hx
            dsimp only at x1 x2 x3 x4
            subst x1
            refine ⟨.inl s, ?_, x2, x3, x4⟩
            unfold bX9_takeTellers_76
            simp only [zle, Int.le_refl, ↓reduceIte]) zF (0, σ4) ⟨nI_0.symm, zsm.rf, h4, fun s hs => by rw [f4 s (by rw [m3.n, l11]; omega)]; rfl⟩ (by unfold zF; omega)
        simp only [oB, e4, eb] at hpre
        cases b with
        | inr r =>
          obtain ⟨r1, r2⟩ := r
          obtain ⟨p1, p2, p3⟩ := pb'
          dsimp only at p1 p2
          subst p1
          refine ⟨0, r2, ?_, m4'.trans (p2.mono (fun a z => z.elim UD.of18 UD.of5)), Or.inl ⟨by rw [htell, if_neg (fun z => p3 z.2.2.1)], rfl⟩⟩
          unfold fX9_takeTellers
          rw [hpre]
          simp only [oS, oC, oA, true_or, ↓reduceIte]
        | inl s =>
          obtain ⟨p1, p2, p3⟩ := pb'
          have mm := m4'.trans (p1.mono (fun a z => z.elim UD.of18 UD.of5))
          obtain ⟨r5, σ5, e5, m5, -, -, c5⟩ := s_build (la := A 18) (fr := 0) (M := 19) (len := tlI pk (pos + 14) (v / 1024 + 4)) p2.1.2.2.2.2.2.2.2.2.2.2.2.2.2.1 (by rw [mm.k]; exact l10) (by rw [mm.n, l11]; decide) (by rw [mm.n, l11]; decide) (by decide) (fun j hj => ⟨by have := tlI_le pk (pos + 14) (v / 1024 + 4) j; omega, by rw [Nat.zero_add]; exact p3 j hj⟩) (p2.1.cos (i := 6) (by decide) (by decide) (Or.inr (by decide)))
          have e5' : fX2_build s (A 6) (A 18) 0 19 = some (r5, σ5) := e5
          have k6 : zk σ (A 6) = 3 := l14.1
          have m5' := mm.trans (m5.mono (fun a z => UD.ofC (UC.co (i := 6) (by decide) (by decide) a z)))
          have h5 : US σ5 A pk out (pos + 14 + 3 * (v / 1024 + 4)) := p2.of m5 (fun i h1 h2 => p2.1.cos (i := 6) (by decide) (by omega) (Or.inl (by omega)))
          have g0 : ¬ COs (A 6) (A 7) (A 8) (A 9) (A 0) := p2.1.cos (i := 6) (by decide) (by decide) (Or.inl (by decide))
          have g7 : zi σ5 (A 0) 7 = nI (v % 32 + 257) := by rw [m5.i g0, p1.i (fun z => z.elim n0 (h.1.ne 0 5)), m4.i n0]; exact f7
          have g8 : zi σ5 (A 0) 8 = nI (v / 32 % 32 + 1) := by rw [m5.i g0, p1.i (fun z => z.elim n0 (h.1.ne 0 5)), m4.i n0]; exact f8
          have hbound := h5.2.2.2.2
          have hfin : gX9_takeTellers σ (A 0) = if r5 = 0 then some (1, σ5) else some (0, σ5) := by
            rw [hpre]
            simp only [oS, oGR, oR, oA, oC, mm.k, mm.r, l2, l6, l9, k6, e5', ↓reduceIte]
          by_cases hz : leftS (tlI pk (pos + 14) (v / 1024 + 4)) 19 15 = 0
          · rcases c5 with ⟨c5, -⟩ | ⟨c5, c6, c7⟩
            · omega
            · have hr : r5 = 0 := zeq.mpr (by rw [c6, hz]; rfl)
              refine ⟨1, σ5, ?_, m5', Or.inr ⟨_, _, _, _, by rw [htell, if_pos ⟨by omega, d2, hbound, hz⟩], rfl, h5, g7, g8, c7, by omega, by omega, by omega, by omega⟩⟩
              unfold fX9_takeTellers
              rw [hfin, if_pos hr]
              simp only [oC, oA, or_true, ↓reduceIte]
          · have hr : ¬ r5 = 0 := by
              rcases c5 with ⟨c5, c6⟩ | ⟨c5, c6, -⟩
              · rw [c6]; decide
              · intro e
                rw [e] at c6
                exact hz c6.symm
            refine ⟨0, σ5, ?_, m5', Or.inl ⟨by rw [htell, if_neg (fun z => hz z.2.2.2)], rfl⟩⟩
            unfold fX9_takeTellers
            rw [hfin, if_neg hr]
            simp only [oC, oA, true_or, ↓reduceIte]
      · rw [if_neg d2] at hpre
        refine ⟨0, σ3, ?_, m3, Or.inl ⟨by rw [htell, if_neg (fun z => d2 z.2.1)], rfl⟩⟩
        unfold fX9_takeTellers
        rw [hpre]
        simp only [oC, oA, true_or, ↓reduceIte]
end PTELL
