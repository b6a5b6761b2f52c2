/-! Unpacker: its layout, by an address map A: 0 itself, 1 2 packed, 3 4 raw, 5 bits, 6-9 tellers, 10-13 symbols, 14-17 distances, 18 lengths -/
def UL (σ : zS) (A : Nat → Nat) : Prop :=
  (∀ i j, i < 19 → j < 19 → A i = A j → i = j) ∧ zk σ (A 0) = 9 ∧ zr σ (A 0) 0 = some (A 1) ∧ zr σ (A 0) 1 = some (A 3) ∧ zr σ (A 0) 2 = some (A 5) ∧ zr σ (A 0) 3 = some (A 6) ∧ zr σ (A 0) 4 = some (A 10) ∧ zr σ (A 0) 5 = some (A 14) ∧ zr σ (A 0) 6 = some (A 18) ∧
  zk σ (A 18) = 21 ∧ zn σ (A 18) = 320 ∧ zk σ (A 5) = 1 ∧ zr σ (A 5) 0 = some (A 1) ∧ CO σ (A 6) (A 7) (A 8) (A 9) ∧ CO σ (A 10) (A 11) (A 12) (A 13) ∧ CO σ (A 14) (A 15) (A 16) (A 17)
def UF (A : Nat → Nat) : Nat → Prop := fun a => ∃ i, i < 19 ∧ a = A i
def pb (pk : List Nat) : Nat → Nat := fun j => pk.getD j 0
/-- the bytes to unpack are pk, out has come out, the next bit is at pos -/
def US (σ : zS) (A : Nat → Nat) (pk out : List Nat) (pos : Nat) : Prop := UL σ A ∧ BL σ (A 1) (A 2) 8000 pk ∧ BL σ (A 3) (A 4) 1100 out ∧ zi σ (A 5) 1 = nI pos ∧ pos ≤ 8 * pk.length
theorem UL.of {σ σ' : zS} {A : Nat → Nat} {S : Nat → Prop} (h : UL σ A) (hs : zsm S σ σ') : UL σ' A := by
  obtain ⟨h1, h2, h3, h4, h5, h6, h7, h8, h9, h10, h11, h12, h13, h14, h15, h16⟩ := h
  refine ⟨h1, ?_, ?_, ?_, ?_, ?_, ?_, ?_, ?_, ?_, ?_, ?_, ?_, h14.of hs, h15.of hs, h16.of hs⟩ <;> first | (rw [hs.k]; assumption) | (rw [hs.r]; assumption) | (rw [hs.n]; assumption)
theorem UL.ne {σ : zS} {A : Nat → Nat} (h : UL σ A) (i j : Nat) (hi : i < 19 := by decide) (hj : j < 19 := by decide) (hij : i ≠ j := by decide) : A i ≠ A j := fun e => hij (h.1 i j hi hj e)
section PUNP
variable {σ : zS} {A : Nat → Nat} {pk out : List Nat} {pos : Nat}
theorem US.bt (h : US σ A pk out pos) : BT σ (A 5) (A 1) (A 2) 8000 pk.length pos := ⟨h.1.2.2.2.2.2.2.2.2.2.2.2.1, h.1.2.2.2.2.2.2.2.2.2.2.2.2.1, h.2.1.1, h.2.2.2.1, h.2.2.2.2⟩
theorem US.at (h : US σ A pk out pos) {p' : Nat} (hp : p' ≤ 8 * pk.length) : US (zuI σ (A 5) 1 (nI p')) A pk out p' := by
  have hs : zsm (fun a => a = A 5) σ (zuI σ (A 5) 1 (nI p')) := zsm.rf.uI rfl
  exact ⟨h.1.of hs, h.2.1.of hs (h.1.ne 1 5) (h.1.ne 2 5), h.2.2.1.of hs (h.1.ne 3 5) (h.1.ne 4 5), by rw [zi_uI, if_pos ⟨rfl, rfl⟩], hp⟩
theorem US.pb (h : US σ A pk out pos) {j : Nat} (hj : j < pk.length) : zby σ (A 2) j = pb pk j := h.2.1.2 j hj
theorem US.plen (h : US σ A pk out pos) : pk.length ≤ 8000 ∧ out.length ≤ 1100 := ⟨h.2.1.1.2.2.2.2.2.1, h.2.2.1.1.2.2.2.2.2.1⟩
theorem bitS_congr {p p' : Nat → Nat} {n k : Nat} (h : ∀ j, j < n → p j = p' j) (hk : k < 8 * n) : bitS p k = bitS p' k := by
  unfold bitS
  rw [h (k / 8) (by omega)]
theorem numS_congr {p p' : Nat → Nat} {n pos : Nat} (h : ∀ j, j < n → p j = p' j) : ∀ m, pos + m ≤ 8 * n → numS p pos m = numS p' pos m
  | 0, _ => rfl
  | m + 1, hm => by rw [numS, numS, numS_congr h m (by omega), bitS_congr h (by omega)]
theorem codeS_congr {p p' : Nat → Nat} {n pos : Nat} (h : ∀ j, j < n → p j = p' j) : ∀ m, pos + m ≤ 8 * n → codeS p pos m = codeS p' pos m
  | 0, _ => rfl
  | m + 1, hm => by rw [codeS, codeS, codeS_congr h m (by omega), bitS_congr h (by omega)]
theorem symF_congr {p p' : Nat → Nat} {n pos M : Nat} {len : Nat → Nat} (h : ∀ j, j < n → p j = p' j) : ∀ k l, symF p n pos len M k l = symF p' n pos len M k l
  | 0, _ => rfl
  | k + 1, l => by
    rw [symF, symF]
    by_cases e : pos + l ≤ 8 * n
    · rw [if_pos e, if_pos e, codeS_congr h l e, symF_congr h k (l + 1)]
    · rw [if_neg e, if_neg e]
def takeS (pk : List Nat) (pos m : Nat) : Option (Nat × Nat) := if pos + m ≤ 8 * pk.length then some (numS (pb pk) pos m, pos + m) else none
theorem u_take (h : US σ A pk out pos) {m : Nat} (hm : m ≤ 16) : ∃ r σ', fX0_take σ (A 5) (nI m) = some (r, σ') ∧ zsm (fun a => a = A 5) σ σ' ∧ ((takeS pk pos m = none ∧ r = -1 ∧ US σ' A pk out pos) ∨ ∃ v, takeS pk pos m = some (v, pos + m) ∧ r = nI v ∧ v < 2 ^ m ∧ US σ' A pk out (pos + m)) := by
  have hc := numS_congr (n := pk.length) (pos := pos) (fun j hj => h.pb hj) m
  unfold takeS
  rw [s_take h.bt hm]
  by_cases e : pos + m ≤ 8 * pk.length
  · rw [if_pos e, if_pos e]
    exact ⟨_, _, rfl, zsm.rf.uI rfl, Or.inr ⟨_, rfl, by rw [hc e], numS_lt _ _ _, h.at e⟩⟩
  · rw [if_neg e, if_neg e]
    exact ⟨_, _, rfl, zsm.rf, Or.inl ⟨rfl, rfl, h⟩⟩
/-- a symbol by the codes q (places i .. i + 3 of A) -/
theorem u_symbol (h : US σ A pk out pos) {q cA sA yA M : Nat} {len : Nat → Nat} (hC : CO σ q cA sA yA) (hD : CD σ q cA yA len M) (hM : M ≤ 288) : ∃ r σ', fX0_symbol σ (A 5) q = some (r, σ') ∧ zsm (fun a => a = A 5) σ σ' ∧ ((symS (pb pk) pk.length pos len M = none ∧ r = -1 ∧ ∃ p', US σ' A pk out p') ∨ ∃ s p', symS (pb pk) pk.length pos len M = some (s, p') ∧ r = nI s ∧ s < M ∧ US σ' A pk out p') := by
  obtain ⟨r, σ', e, hr⟩ := s_symbol h.bt hC hD hM
  have hc : symS (zby σ (A 2)) pk.length pos len M = symS (pb pk) pk.length pos len M := symF_congr (fun j hj => h.pb hj) _ _
  rw [hc] at hr
  rcases hr with ⟨r1, r2, p', r3, r4⟩ | ⟨s, p', r1, r2, r3, r4, r5⟩
  · subst r4
    exact ⟨r, _, e, zsm.rf.uI rfl, Or.inl ⟨r1, r2, p', h.at r3⟩⟩
  · subst r5
    exact ⟨r, _, e, zsm.rf.uI rfl, Or.inr ⟨s, p', r1, r2, r3, h.at r4⟩⟩
theorem u_skip (h : US σ A pk out pos) : ∃ σ', fX0_skipToByte σ (A 5) = some σ' ∧ zsm (fun a => a = A 5) σ σ' ∧ US σ' A pk out ((pos + 7) / 8 * 8) := by
  obtain ⟨e, hp⟩ := s_skip h.bt
  exact ⟨_, e, zsm.rf.uI rfl, h.at hp⟩
/-- some bytes of one row behind another -/
theorem s_addPart {b c N b2 c2 N2 : Nat} {l l2 : List Nat} (h : BL σ b c N l) (h2 : BL σ b2 c2 N2 l2) (n1 : b2 ≠ b) (n2 : b2 ≠ c) (n3 : c2 ≠ b) (n4 : c2 ≠ c) {fr m : Nat} (hf : fr + m ≤ l2.length) (hr : l.length + m ≤ N) : ∃ σ', fX1_addPart σ b b2 (nI fr) (nI (fr + m)) = some σ' ∧ zsm (fun a => a = b ∨ a = c) σ σ' ∧ BL σ' b c N (l ++ (l2.drop fr).take m) := by
  have hl2 : l2.length ≤ 20000 := Nat.le_trans h2.1.2.2.2.2.2.1 h2.1.2.2.2.2.2.2
  have te : (nI (fr + m)).toInt = ((fr + m : Nat) : Int) := zt_nI (by omega)
  obtain ⟨s, es, p1, p2⟩ := zloop_cnt (body := fun x => bX1_addPart_3 b b2 (nI (fr + m)) x.1 x.2) (fun i x => x.1 = nI (fr + i) ∧ zsm (fun a => a = b ∨ a = c) σ x.2 ∧ BL x.2 b c N (l ++ (l2.drop fr).take i)) m (fun s => zsm (fun a => a = b ∨ a = c) σ s ∧ BL s b c N (l ++ (l2.drop fr).take m))
    (fun i x hi hx => by
      obtain ⟨k, s⟩ := x
      obtain ⟨x1, x2, x3⟩ := hx
      dsimp only at x1 x2 x3
      subst x1
      have ti : (nI (fr + i)).toInt = ((fr + i : Nat) : Int) := zt_nI (by omega)
      have hb2 : BL s b2 c2 N2 l2 := h2.of x2 (fun z => z.elim n1 n2) (fun z => z.elim n3 n4)
      have ha := s_atN hb2.1 (j := fr + i) (by omega)
      rw [hb2.2 _ (by omega)] at ha
      have hlt : l2.getD (fr + i) 0 < 256 := hb2.lt (by omega)
      obtain ⟨s', e', m', b'⟩ := s_addL x3 (nI (l2.getD (fr + i) 0)) (by simp; omega)
      refine Or.inl ⟨(nI (fr + (i + 1)), s'), ?_, rfl, x2.trans m', ?_⟩
      · unfold bX1_addPart_3
        have a1 : nI (fr + i) + 1 = nI (fr + (i + 1)) := nI_1 (fr + i)
        simp only [oA, oB, oL, hb2.1.1, x3.1.1, ha, e', zle, te, ti, a1, ↓reduceIte]
        rw [if_neg (by omega)]
      · rw [zbv_nat (by omega), Nat.mod_eq_of_lt hlt] at b'
        have hd : (l2.drop fr).take (i + 1) = (l2.drop fr).take i ++ [l2.getD (fr + i) 0] := by
          rw [List.take_succ, List.getElem?_drop, List.getD_eq_getElem?_getD, List.getElem?_eq_getElem (by omega)]
          rfl
        rw [hd, ← List.append_assoc]
        exact b')
    (fun x hx => by
      obtain ⟨k, s⟩ := x
      obtain ⟨x1, x2, x3⟩ := hx
      dsimp only at x1 x2 x3
      subst x1
      refine ⟨s, ?_, x2, x3⟩
      unfold bX1_addPart_3
      simp only [zle, Int.le_refl, ↓reduceIte]) zF (nI fr, σ) ⟨rfl, zsm.rf, by simpa using h⟩ (by unfold zF; omega)
  refine ⟨s, ?_, p1, p2⟩
  unfold fX1_addPart
  simp only [oB, es]
/-! the plain block -/
def plainS (pk : List Nat) (pos : Nat) (out : List Nat) : Option (Nat × List Nat) :=
  match takeS pk ((pos + 7) / 8 * 8) 16 with
  | none => none
  | some (n, p1) => match takeS pk p1 16 with
    | none => none
    | some (t, p2) => if n ^^^ t = 65535 ∧ p2 / 8 + n ≤ pk.length ∧ out.length + n ≤ 1100 then some (p2 + n * 8, out ++ (pk.drop (p2 / 8)).take n) else none
theorem takeS_some {pk : List Nat} {pos m v p' : Nat} (h : takeS pk pos m = some (v, p')) : p' = pos + m ∧ pos + m ≤ 8 * pk.length ∧ v < 2 ^ m := by
  unfold takeS at h
  by_cases e : pos + m ≤ 8 * pk.length
  · rw [if_pos e] at h
    cases h
    exact ⟨rfl, e, numS_lt _ _ _⟩
  · rw [if_neg e] at h; cases h
def UX (A : Nat → Nat) : Nat → Prop := fun a => a = A 3 ∨ a = A 4 ∨ a = A 5
theorem u_plain (h : US σ A pk out pos) : ∃ r σ', fX9_copyPlain σ (A 0) = some (r, σ') ∧ zsm (UX A) σ σ' ∧ ((plainS pk pos out = none ∧ r = 0) ∨ ∃ p' out', plainS pk pos out = some (p', out') ∧ r = 1 ∧ US σ' A pk out' p') := by
  have hx : ∀ a, a = A 5 → UX A a := fun a e => Or.inr (Or.inr e)
  obtain ⟨l1, l2, l3, l4, l5, l6, l7, l8, l9, l10, l11, l12, l13, -⟩ := id h.1
  obtain ⟨σ1, e1, m1, h1⟩ := u_skip h
  obtain ⟨x1, σ2, e2, m2, c2⟩ := u_take h1 (m := 16) (by omega)
  have k2 : UL σ2 A := by rcases c2 with ⟨-, -, q⟩ | ⟨_, -, -, -, q⟩ <;> exact q.1
  have m12 : zsm (UX A) σ σ2 := (m1.mono hx).trans (m2.mono hx)
  have e2' : fX0_take σ1 (A 5) 16 = some (x1, σ2) := e2
  rcases c2 with ⟨t2, r2, h2⟩ | ⟨v2, t2, r2, b2, h2⟩
  · -- no number
    obtain ⟨x2, σ3, e3, m3, c3⟩ := u_take h2 (m := 16) (by omega)
    have e3' : fX0_take σ2 (A 5) 16 = some (x2, σ3) := e3
    refine ⟨0, σ3, ?_, m12.trans (m3.mono hx), Or.inl ⟨by unfold plainS; rw [t2], rfl⟩⟩
    unfold fX9_copyPlain gX9_copyPlain
    simp only [oGR, oR, oA, oB, oC, l2, l5, l12, e1, m1.k, m1.r, e2', m2.k, m2.r, e3', r2, show ((-1 : Int32) < 0) from by decide, true_or, ↓reduceIte]
  · obtain ⟨x2, σ3, e3, m3, c3⟩ := u_take h2 (m := 16) (by omega)
    have e3' : fX0_take σ2 (A 5) 16 = some (x2, σ3) := e3
    have m13 := m12.trans (m3.mono hx)
    have n2 : ¬ nI v2 < 0 := nI_pos (by omega)
    rcases c3 with ⟨t3, r3, h3⟩ | ⟨v3, t3, r3, b3, h3⟩
    · refine ⟨0, σ3, ?_, m13, Or.inl ⟨by unfold plainS; rw [t2]; dsimp only; rw [t3], rfl⟩⟩
      unfold fX9_copyPlain gX9_copyPlain
      simp only [oGR, oR, oA, oB, oC, l2, l5, l12, e1, m1.k, m1.r, e2', m2.k, m2.r, e3', r2, r3, n2, show ((-1 : Int32) < 0) from by decide, true_or, ↓reduceIte]
    · have n3 : ¬ nI v3 < 0 := nI_pos (by omega)
      have hpk := h.plen
      generalize hp2 : (pos + 7) / 8 * 8 + 16 + 16 = p2 at *
      have hp8 : p2 ≤ 8 * pk.length := h3.2.2.2.2
      have hdv : nI p2 / 8 = nI (p2 / 8) := pk_div (by omega) (by decide) (by decide)
      have hat : zi σ3 (A 5) 1 = nI p2 := h3.2.2.2.1
      have hpl : zi σ3 (A 1) 1 = nI pk.length := h3.2.1.1.2.2.2.2.1
      have hsb : nI pk.length - nI (p2 / 8) = nI (pk.length - p2 / 8) := pk_sub (by omega)
      have ts : (nI (pk.length - p2 / 8)).toInt = ((pk.length - p2 / 8 : Nat) : Int) := zt_nI (by omega)
      have tv : (nI v2).toInt = (v2 : Int) := zt_nI (by omega)
      have hlt : nI (pk.length - p2 / 8) < nI v2 ↔ pk.length - p2 / 8 < v2 := nI_ltI (by omega) (by omega)
      have h65 : nI 65535 = 65535 := rfl
      have hxr : nI v2 ^^^ nI v3 = nI (v2 ^^^ v3) := zxor v2 v3
      have hxb : v2 ^^^ v3 < 65536 := Nat.xor_lt_two_pow (n := 16) b2 b3
      have hxe : nI (v2 ^^^ v3) = 65535 ↔ v2 ^^^ v3 = 65535 := nI_eq (a := v2 ^^^ v3) (b := 65535) (by omega) (by omega)
      have hfit := s_fits h3.2.2.1.1 (nI v2)
      rw [tv] at hfit
      have hpl0 : plainS pk pos out = if v2 ^^^ v3 = 65535 ∧ p2 / 8 + v2 ≤ pk.length ∧ out.length + v2 ≤ 1100 then some (p2 + v2 * 8, out ++ (pk.drop (p2 / 8)).take v2) else none := by
        unfold plainS
        rw [t2]
        dsimp only
        rw [t3]
      by_cases q1 : v2 ^^^ v3 = 65535
      · by_cases q2 : p2 / 8 + v2 ≤ pk.length
        · have q2' : ¬ pk.length - p2 / 8 < v2 := by omega
          by_cases q3 : out.length + v2 ≤ 1100
          · rw [if_pos ⟨q1, q2, q3⟩] at hpl0
            rw [if_pos (by omega)] at hfit
            obtain ⟨σ4, e4, m4, b4⟩ := s_addPart h3.2.2.1 h3.2.1 (h.1.ne 1 3) (h.1.ne 1 4) (h.1.ne 2 3) (h.1.ne 2 4) (fr := p2 / 8) (m := v2) q2 q3
            have ha1 : nI (p2 / 8) + nI v2 = nI (p2 / 8 + v2) := nI_add _ _
            have hm8 : nI v2 * 8 = nI (v2 * 8) := pk_mul v2 8
            have ha2 : nI p2 + nI (v2 * 8) = nI (p2 + v2 * 8) := nI_add _ _
            have hat4 : zi σ4 (A 5) 1 = nI p2 := by rw [m4.i (fun z => z.elim (h.1.ne 5 3) (h.1.ne 5 4))]; exact hat
            have hs5 : US σ4 A pk (out ++ (pk.drop (p2 / 8)).take v2) p2 := ⟨h3.1.of m4, h3.2.1.of m4 (fun z => z.elim (h.1.ne 1 3) (h.1.ne 1 4)) (fun z => z.elim (h.1.ne 2 3) (h.1.ne 2 4)), b4, hat4, hp8⟩
            refine ⟨1, zuI σ4 (A 5) 1 (nI (p2 + v2 * 8)), ?_, ?_, Or.inr ⟨_, _, hpl0, rfl, hs5.at (by omega)⟩⟩
            · unfold fX9_copyPlain gX9_copyPlain
              simp only [oGR, oR, oGI, oPI, oL, oA, oB, oC, l2, l3, l4, l5, l12, e1, m1.k, m1.r, e2', m2.k, m2.r, e3', m13.k, m13.r, r2, r3, n2, n3, hxr, hxe, q1, h65, hat, hdv, hpl, hsb, hlt, h3.2.1.1.1, h3.2.2.1.1.1, h.2.1.1.1, h.2.2.1.1.1, q2', hfit, ha1, e4, m4.k, m4.r, hat4, hm8, ha2, or_true, ↓reduceIte, show ¬ ((1 : Int32) = 0) from by decide]
            · exact (m13.trans (m4.mono (fun a z => z.elim (fun z => Or.inl z) (fun z => Or.inr (Or.inl z))))).uI (Or.inr (Or.inr rfl))
          · rw [if_neg (fun z => q3 z.2.2)] at hpl0
            rw [if_neg (by omega)] at hfit
            refine ⟨0, σ3, ?_, m13, Or.inl ⟨hpl0, rfl⟩⟩
            unfold fX9_copyPlain gX9_copyPlain
            simp only [oGR, oR, oGI, oPI, oL, oA, oB, oC, l2, l3, l4, l5, l12, e1, m1.k, m1.r, e2', m2.k, m2.r, e3', m13.k, m13.r, r2, r3, n2, n3, hxr, hxe, q1, h65, hat, hdv, hpl, hsb, hlt, h3.2.1.1.1, h3.2.2.1.1.1, h.2.1.1.1, h.2.2.1.1.1, q2', hfit, true_or, ↓reduceIte]
        · have q2' : pk.length - p2 / 8 < v2 := by omega
          rw [if_neg (fun z => q2 z.2.1)] at hpl0
          refine ⟨0, σ3, ?_, m13, Or.inl ⟨hpl0, rfl⟩⟩
          unfold fX9_copyPlain gX9_copyPlain
          simp only [oGR, oR, oGI, oPI, oL, oA, oB, oC, l2, l3, l4, l5, l12, e1, m1.k, m1.r, e2', m2.k, m2.r, e3', m13.k, m13.r, r2, r3, n2, n3, hxr, hxe, q1, h65, hat, hdv, hpl, hsb, hlt, q2', h.2.1.1.1, true_or, ↓reduceIte]
      · rw [if_neg (fun z => q1 z.1)] at hpl0
        refine ⟨0, σ3, ?_, m13, Or.inl ⟨hpl0, rfl⟩⟩
        unfold fX9_copyPlain gX9_copyPlain
        simp only [oGR, oR, oA, oB, oC, l2, l5, l12, e1, m1.k, m1.r, e2', m2.k, m2.r, e3', r2, r3, n2, n3, hxr, hxe, q1, true_or, ↓reduceIte]
end PUNP
