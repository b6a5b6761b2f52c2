/-! a symbol, bit by bit -/
def codeS (p : Nat → Nat) (pos : Nat) : Nat → Nat
  | 0 => 0
  | l + 1 => 2 * codeS p pos l + bitS p (pos + l)
def symF (p : Nat → Nat) (n pos : Nat) (len : Nat → Nat) (M : Nat) : Nat → Nat → Option (Nat × Nat)
  | 0, _ => none
  | k + 1, l => if pos + l ≤ 8 * n then (if codeS p pos l < fcS len M l + cntS len M l then some (nthS len M l (codeS p pos l - fcS len M l), pos + l) else symF p n pos len M k (l + 1)) else none
def symS (p : Nat → Nat) (n pos : Nat) (len : Nat → Nat) (M : Nat) : Option (Nat × Nat) := symF p n pos len M 15 1
theorem codeS_lt (p : Nat → Nat) (pos : Nat) : ∀ l, codeS p pos l < 2 ^ l
  | 0 => by simp [codeS]
  | l + 1 => by
    have h1 := codeS_lt p pos l
    have h2 := bitS_lt p (pos + l)
    rw [codeS, Nat.pow_succ]
    omega
section PSYM
variable {σ : zS} {t b c N n pos q cA sA yA M : Nat} {len : Nat → Nat}
theorem s_symbol (h : BT σ t b c N n pos) (hC : CO σ q cA sA yA) (hD : CD σ q cA yA len M) (hM : M ≤ 288) :
    ∃ r σ', fX0_symbol σ t q = some (r, σ') ∧ ((symS (zby σ c) n pos len M = none ∧ r = -1 ∧ ∃ p', p' ≤ 8 * n ∧ σ' = zuI σ t 1 (nI p')) ∨ ∃ s p', symS (zby σ c) n pos len M = some (s, p') ∧ r = nI s ∧ s < M ∧ p' ≤ 8 * n ∧ σ' = zuI σ t 1 (nI p')) := by
  have hne := h.ne
  obtain ⟨h1, h2, ⟨b1, b2, b3, b4, b5, b6, b7⟩, h4, h5⟩ := id h
  obtain ⟨g1, g2, g3, g4, g5, g6, g7, g8, g9, g10, n1, n2, n3⟩ := id hC
  obtain ⟨d1, d2, d3⟩ := id hD
  have htc : cA ≠ t := fun e => by rw [e, h1] at g5; exact absurd g5 (by decide)
  have hty : yA ≠ t := fun e => by rw [e, h1] at g9; exact absurd g9 (by decide)
  have hn : (nI n).toInt = (n : Int) := zt_nI (by omega)
  have e8 : nI n * 8 = nI (n * 8) := pk_mul n 8
  have t8 : (nI (n * 8)).toInt = ((n * 8 : Nat) : Int) := zt_nI (by omega)
  have t15 : (15 : Int32).toInt = 15 := by decide
  obtain ⟨r, er, pr⟩ := zloop_cnt (body := fun x => bX0_symbol_22 t q (nI (n * 8)) x.1 x.2.1 x.2.2.1 x.2.2.2.1 x.2.2.2.2)
    (fun i x => x = (nI (2 * codeS (zby σ c) pos i), nI (fcS len M (i + 1)), nI (stS len M (i + 1)), nI (i + 1), zuI σ t 1 (nI (pos + i))) ∧ pos + i ≤ 8 * n ∧ fcS len M (i + 1) ≤ 2 * codeS (zby σ c) pos i ∧ symS (zby σ c) n pos len M = symF (zby σ c) n pos len M (15 - i) (i + 1)) 15
    (fun b => match b with
      | .inl s => symS (zby σ c) n pos len M = none ∧ ∃ p', p' ≤ 8 * n ∧ s = zuI σ t 1 (nI p')
      | .inr r => ∃ s p', symS (zby σ c) n pos len M = some (s, p') ∧ r.1 = nI s ∧ s < M ∧ p' ≤ 8 * n ∧ r.2 = zuI σ t 1 (nI p'))
    (fun i x hi hx => by
      obtain ⟨x1, x2, x3, x4⟩ := hx
      subst x1
      have hcl := codeS_lt (zby σ c) pos i
      have hcl1 := codeS_lt (zby σ c) pos (i + 1)
      have hpw : 2 ^ i ≤ 2 ^ 14 := Nat.pow_le_pow_right (by decide) (by omega)
      have hbl := bitS_lt (zby σ c) (pos + i)
      have hcd : codeS (zby σ c) pos (i + 1) = 2 * codeS (zby σ c) pos i + bitS (zby σ c) (pos + i) := rfl
      have hst : stS len M (i + 1) ≤ M := stS_le _ _
      have hct : cntS len M (i + 1) ≤ M := cntS_le _ _
      have t1 : (nI (i + 1)).toInt = ((i + 1 : Nat) : Int) := zt_nI (by omega)
      have tp : (nI (pos + i)).toInt = ((pos + i : Nat) : Int) := zt_nI (by omega)
      have ht : zi (zuI σ t 1 (nI (pos + i))) t 1 = nI (pos + i) := by rw [zi_uI, if_pos ⟨rfl, rfl⟩]
      have e15 : 15 - i = (15 - (i + 1)) + 1 := by omega
      by_cases hp : pos + i < n * 8
      · have hsh : nI (pos + i) >>> ((3 : Int32) &&& 31) = nI ((pos + i) / 8) := zshr (k := 3) (by decide) (by omega)
        have hix : (nI ((pos + i) / 8)).toInt = (((pos + i) / 8 : Nat) : Int) := zt_nI (by omega)
        have hcc : zi (zuI σ t 1 (nI (pos + i))) c ((pos + i) / 8) = zi σ c ((pos + i) / 8) := by rw [zi_uI, if_neg (fun z => hne.2 z.1.symm)]
        have hb := zbitAt h (k := pos + i) (by omega)
        have a1 : nI (pos + i) + 1 = nI (pos + (i + 1)) := nI_1 (pos + i)
        have a2 : nI (2 * codeS (zby σ c) pos i) + nI (bitS (zby σ c) (pos + i)) = nI (codeS (zby σ c) pos (i + 1)) := by rw [nI_add, hcd]
        have v1 : zi (zuI σ t 1 (nI (pos + (i + 1)))) cA (i + 1) = nI (cntS len M (i + 1)) := by rw [zi_uI, if_neg (fun z => htc z.1)]; exact d1 _ (by omega)
        have a3 : nI (codeS (zby σ c) pos (i + 1)) - nI (fcS len M (i + 1)) = nI (codeS (zby σ c) pos (i + 1) - fcS len M (i + 1)) := pk_sub (by omega)
        have t3 : (nI (codeS (zby σ c) pos (i + 1) - fcS len M (i + 1))).toInt = ((codeS (zby σ c) pos (i + 1) - fcS len M (i + 1) : Nat) : Int) := zt_nI (by omega)
        have t4 : (nI (cntS len M (i + 1))).toInt = ((cntS len M (i + 1) : Nat) : Int) := zt_nI (by omega)
        rw [e15, symF, if_pos (by omega)] at x4
        by_cases hf : cntS len M (i + 1) ≤ codeS (zby σ c) pos (i + 1) - fcS len M (i + 1)
        · rw [if_neg (by omega)] at x4
          have a4 : nI (stS len M (i + 1)) + nI (cntS len M (i + 1)) = nI (stS len M (i + 1 + 1)) := by
            rw [nI_add]; simp [stS]
          have a5 : (nI (fcS len M (i + 1)) + nI (cntS len M (i + 1))) * 2 = nI (fcS len M (i + 1 + 1)) := by
            rw [nI_add, show (2 : Int32) = nI 2 from rfl, pk_mul]
            congr 1
            rw [fcS.eq_2 len M (i + 1)]
            simp; omega
          have a6 : nI (codeS (zby σ c) pos (i + 1)) * 2 = nI (2 * codeS (zby σ c) pos (i + 1)) := by
            rw [show (2 : Int32) = nI 2 from rfl, pk_mul, Nat.mul_comm]
          have a7 : nI (i + 1) + 1 = nI (i + 1 + 1) := nI_1 (i + 1)
          refine Or.inl ⟨_, ?_, rfl, by omega, ?_, x4⟩
          · unfold bX0_symbol_22
            simp only [oGI, oGR, oR, oLd, oL, oPI, zk_uI, zr_uI, zn_uI, h1, h2, b1, b2, b3, b4, g1, g2, g5, g6, ht, hsh, zle, zlt, t1, tp, t8, t15, zt0', hix, znat, Int.toNat_natCast, hcc, hb, a1, zuI_uI, a2, v1, a3, t3, t4, a4, a5, a6, a7, ↓reduceIte]
            rw [if_neg (by omega), if_neg (by omega), if_pos ⟨trivial, by omega, by omega⟩, if_pos ⟨trivial, by omega, by omega⟩, if_pos (by omega)]
          · rw [fcS.eq_2 len M (i + 1)]
            simp
            omega
        · rw [if_pos (by omega)] at x4
          obtain ⟨w1, w2, w3⟩ := nthS_spec (len := len) (M := M) (l := i + 1) (k := codeS (zby σ c) pos (i + 1) - fcS len M (i + 1)) (by omega)
          have hps : posS len M (nthS len M (i + 1) (codeS (zby σ c) pos (i + 1) - fcS len M (i + 1))) = stS len M (i + 1) + (codeS (zby σ c) pos (i + 1) - fcS len M (i + 1)) := by
            unfold posS; rw [w2, w3]
          have hy := d3 _ w1 (by rw [w2]; omega)
          rw [hps] at hy
          have hlt : stS len M (i + 1) + (codeS (zby σ c) pos (i + 1) - fcS len M (i + 1)) < M := by
            have hb1 : stS len M (i + 1 + 1) ≤ M := stS_le _ _
            rw [stS.eq_2 len M (i + 1)] at hb1
            simp at hb1
            omega
          have a4 : nI (stS len M (i + 1)) + nI (codeS (zby σ c) pos (i + 1)) - nI (fcS len M (i + 1)) = nI (stS len M (i + 1) + (codeS (zby σ c) pos (i + 1) - fcS len M (i + 1))) := by
            rw [nI_add, pk_sub (by omega)]
            congr 1
            omega
          have t5 : (nI (stS len M (i + 1) + (codeS (zby σ c) pos (i + 1) - fcS len M (i + 1)))).toInt = ((stS len M (i + 1) + (codeS (zby σ c) pos (i + 1) - fcS len M (i + 1)) : Nat) : Int) := zt_nI (by omega)
          have v2 : zi (zuI σ t 1 (nI (pos + (i + 1)))) yA (stS len M (i + 1) + (codeS (zby σ c) pos (i + 1) - fcS len M (i + 1))) = nI (nthS len M (i + 1) (codeS (zby σ c) pos (i + 1) - fcS len M (i + 1))) := by rw [zi_uI, if_neg (fun z => hty z.1)]; exact hy
          refine Or.inr ⟨.inr (nI (nthS len M (i + 1) (codeS (zby σ c) pos (i + 1) - fcS len M (i + 1))), zuI σ t 1 (nI (pos + (i + 1)))), ?_, _, _, x4, rfl, w1, by omega, rfl⟩
          unfold bX0_symbol_22
          simp only [oGI, oGR, oR, oLd, oL, oPI, zk_uI, zr_uI, zn_uI, h1, h2, b1, b2, b3, b4, g1, g2, g4, g5, g6, g9, g10, ht, hsh, zle, zlt, t1, tp, t8, t15, zt0', hix, znat, Int.toNat_natCast, hcc, hb, a1, zuI_uI, a2, v1, a3, t3, t4, a4, t5, v2, ↓reduceIte]
          rw [if_neg (by omega), if_neg (by omega), if_pos ⟨trivial, by omega, by omega⟩, if_pos ⟨trivial, by omega, by omega⟩, if_neg (by omega), if_pos ⟨trivial, by omega, by omega⟩]
      · rw [e15, symF, if_neg (by omega)] at x4
        refine Or.inr ⟨.inl (zuI σ t 1 (nI (pos + i))), ?_, x4, pos + i, x2, rfl⟩
        unfold bX0_symbol_22
        simp only [oGI, zk_uI, h1, ht, zle, zlt, t1, tp, t8, t15, ↓reduceIte]
        rw [if_neg (by omega), if_pos (by omega)])
    (fun x hx => by
      obtain ⟨x1, x2, x3, x4⟩ := hx
      subst x1
      refine ⟨.inl (zuI σ t 1 (nI (pos + 15))), ?_, by rw [x4]; rfl, pos + 15, x2, rfl⟩
      unfold bX0_symbol_22
      have hd : (15 : Int32) < nI (15 + 1) := by decide
      exact if_pos hd) zF (0, 0, 0, 1, σ) ⟨by
        have q1 : zuI σ t 1 (nI (pos + 0)) = σ := by rw [Nat.add_zero]; exact zuI_self h4
        rw [q1]
        simp [codeS, fcS, stS, nI_0]
        rfl, by omega, by simp [fcS, codeS], rfl⟩ (by unfold zF; omega)
  unfold fX0_symbol
  simp only [oGI, oGR, oR, oB, oL, h1, h2, b1, b5, e8, er, ↓reduceIte]
  cases r with
  | inl s =>
    obtain ⟨p1, p2⟩ := pr
    exact ⟨-1, s, rfl, Or.inl ⟨p1, rfl, p2⟩⟩
  | inr r =>
    obtain ⟨r1, r2⟩ := r
    exact ⟨r1, r2, rfl, Or.inr pr⟩
end PSYM
