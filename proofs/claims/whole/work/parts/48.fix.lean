/-! Unpacker: the start; fixed codes -/
def startS (pk : List Nat) : Bool := decide (2 ≤ pk.length) && decide (pk.getD 0 0 = 120) && decide (pk.getD 1 0 / 32 % 2 = 0) && decide ((30720 + pk.getD 1 0) % 31 = 0)
theorem zstart : ∀ b, b < 256 → (((nI b &&& 32) = 0 ↔ b / 32 % 2 = 0) ∧ ((((30720 : Int32) + nI b) - ((30720 : Int32) + nI b) / 31 * 31) = 0 ↔ (30720 + b) % 31 = 0)) := by decide +kernel
def UC (A : Nat → Nat) : Nat → Prop := fun a => ∃ i, 6 ≤ i ∧ i < 19 ∧ a = A i
def UD (A : Nat → Nat) : Nat → Prop := fun a => a = A 0 ∨ ∃ i, 5 ≤ i ∧ i < 19 ∧ a = A i
section PFIX
variable {σ : zS} {A : Nat → Nat} {pk out : List Nat} {pos : Nat}
theorem UC.not {A : Nat → Nat} (h : UL σ A) (i : Nat) (hi : i < 6) : ¬ UC A (A i) := fun ⟨j, h1, h2, e⟩ => by
  have := h.1 i j (by omega) h2 e
  omega
theorem UC.in {A : Nat → Nat} (i : Nat) (h1 : 6 ≤ i := by decide) (h2 : i < 19 := by decide) : UC A (A i) := ⟨i, h1, h2, rfl⟩
theorem UC.co {A : Nat → Nat} {i : Nat} (h1 : 6 ≤ i) (h2 : i + 3 < 19) : ∀ a, COs (A i) (A (i + 1)) (A (i + 2)) (A (i + 3)) a → UC A a := fun a h => by
  rcases h with h | h | h | h
  · exact ⟨i, h1, by omega, h⟩
  · exact ⟨i + 1, by omega, by omega, h⟩
  · exact ⟨i + 2, by omega, by omega, h⟩
  · exact ⟨i + 3, by omega, by omega, h⟩
theorem UL.cos {A : Nat → Nat} (h : UL σ A) {i j : Nat} (hi : i + 3 < 19) (hj : j < 19) (hij : j < i ∨ i + 3 < j) : ¬ COs (A i) (A (i + 1)) (A (i + 2)) (A (i + 3)) (A j) := fun z => by
  rcases z with z | z | z | z <;> (have := h.1 _ _ hj (by omega) z; omega)
theorem US.of {σ' : zS} {S : Nat → Prop} (h : US σ A pk out pos) (hs : zsm S σ σ') (h1 : ∀ i, 1 ≤ i → i < 6 → ¬ S (A i)) : US σ' A pk out pos := ⟨h.1.of hs, h.2.1.of hs (h1 1 (by decide) (by decide)) (h1 2 (by decide) (by decide)), h.2.2.1.of hs (h1 3 (by decide) (by decide)) (h1 4 (by decide) (by decide)), by rw [hs.i (h1 5 (by decide) (by decide))]; exact h.2.2.2.1, h.2.2.2.2⟩
theorem u_startW (hU : UL σ A) (hB : BL σ (A 1) (A 2) 8000 pk) : fX9_startsAsPacked σ (A 0) = some (if startS pk = true then 1 else 0) := by
  obtain ⟨l1, l2, l3, -⟩ := id hU
  have hb := hB.1.1
  have hp : pk.length ≤ 8000 := hB.1.2.2.2.2.2.1
  have a1 := s_at hB.1 1
  have a0 := s_at hB.1 0
  have t1 : (1 : Int32).toInt = 1 := by decide
  rw [t1] at a1
  rw [zt0'] at a0
  by_cases q : 2 ≤ pk.length
  · have e0 : zby σ (A 2) 0 = pk.getD 0 0 := hB.2 0 (by omega)
    have e1 : zby σ (A 2) 1 = pk.getD 1 0 := hB.2 1 (by omega)
    have b0 : pk.getD 0 0 < 256 := hB.lt (by omega)
    have b1 : pk.getD 1 0 < 256 := hB.lt (by omega)
    rw [if_pos (by omega), show (1 : Int).toNat = 1 from rfl, e1] at a1
    rw [if_pos (by omega), show (0 : Int).toNat = 0 from rfl, e0] at a0
    obtain ⟨s1, s2⟩ := zstart _ b1
    have n1 : ¬ nI (pk.getD 1 0) < 0 := nI_pos (by omega)
    have s3 : nI (pk.getD 0 0) = 120 ↔ pk.getD 0 0 = 120 := nI_eq (b := 120) (by omega) (by omega)
    unfold fX9_startsAsPacked gX9_startsAsPacked startS
    simp only [oGR, oR, oA, oB, l2, l3, hb, a1, a0, s1, s2, s3, n1, q, decide_true, Bool.true_and, ↓reduceIte]
    by_cases c1 : pk.getD 0 0 = 120
    · by_cases c2 : pk.getD 1 0 / 32 % 2 = 0
      · by_cases c3 : (30720 + pk.getD 1 0) % 31 = 0
        · simp only [c1, c2, c3, decide_true, Bool.true_and, or_true, ↓reduceIte]
        · simp only [c1, c2, c3, decide_true, decide_false, Bool.true_and, Bool.and_false, Bool.false_eq_true, true_or, ↓reduceIte]
      · simp only [c1, c2, decide_true, decide_false, Bool.true_and, Bool.false_and, Bool.and_false, Bool.false_eq_true, true_or, ↓reduceIte]
    · simp only [c1, decide_false, Bool.false_and, ↓reduceIte, true_or, Bool.false_eq_true]
  · rw [if_neg (by omega)] at a1
    have n1 : ((-1 : Int32) < 0) := by decide
    unfold fX9_startsAsPacked gX9_startsAsPacked startS
    simp only [oGR, oR, oA, oB, l2, l3, hb, a1, a0, q, decide_false, Bool.false_and, Bool.false_eq_true, n1, ↓reduceIte, ite_self, true_or]
def fixL : Nat → Nat := fun s => if s < 144 then 8 else if s < 256 then 9 else if s < 280 then 7 else 8
def fixD : Nat → Nat := fun _ => 5
theorem u_start (h : US σ A pk out pos) : fX9_startsAsPacked σ (A 0) = some (if startS pk = true then 1 else 0) := u_startW h.1 h.2.1
theorem fixL_le (j : Nat) : fixL j ≤ 15 := by
  unfold fixL
  by_cases c1 : j < 144 <;> by_cases c2 : j < 256 <;> by_cases c3 : j < 280 <;> simp [c1, c2, c3]
theorem u_fix (h : US σ A pk out pos) : ∃ σ', fX9_fixCodes σ (A 0) = some σ' ∧ zsm (UC A) σ σ' ∧ US σ' A pk out pos ∧ CD σ' (A 10) (A 11) (A 13) fixL 288 ∧ CD σ' (A 14) (A 15) (A 17) fixD 32 := by
  obtain ⟨l1, l2, l3, l4, l5, l6, l7, l8, l9, l10, l11, l12, l13, l14, l15, l16⟩ := id h.1
  obtain ⟨s1, e1, m1, f1⟩ := zloop_cnt (body := fun x => bX9_fixCodes_2 (A 0) x.1 x.2) (fun i x => x.1 = nI i ∧ zsm (fun a => a = A 18) σ x.2 ∧ ∀ j, j < i → zi x.2 (A 18) j = nI (fixL j)) 288 (fun s => zsm (fun a => a = A 18) σ s ∧ ∀ j, j < 288 → zi s (A 18) j = nI (fixL j))
    (fun i x hi hx => by
      obtain ⟨k, s⟩ := x
      obtain ⟨x1, x2, x3⟩ := hx
      dsimp only at x1 x2 x3
      subst x1
      have ti : (nI i).toInt = (i : Int) := zt_nI (by omega)
      have t1 : (288 : Int32).toInt = 288 := by decide
      have t2 : (144 : Int32).toInt = 144 := by decide
      have t3 : (256 : Int32).toInt = 256 := by decide
      have t4 : (280 : Int32).toInt = 280 := by decide
      have a1 : nI i + 1 = nI (i + 1) := nI_1 i
      refine Or.inl ⟨(nI (i + 1), zuI s (A 18) i (nI (fixL i))), ?_, rfl, x2.uI rfl, fun j hj => ?_⟩
      · unfold bX9_fixCodes_2 fX9_fixCodes_52
        simp only [oGR, oR, oSt, oL, x2.k, x2.n, x2.r, l2, l9, l10, l11, zle, ti, t1, t2, t3, t4, zt0', znat, Int.toNat_natCast, a1, ↓reduceIte]
        rw [if_neg (by omega)]
        have hin : (True ∧ (0 : Int) ≤ (i : Int) ∧ i < 320) := ⟨trivial, by omega, by omega⟩
        simp only [if_pos hin]
        unfold fixL
        by_cases c1 : i < 144
        · rw [if_neg (by omega), if_pos c1]; rfl
        · rw [if_pos (by omega), if_neg c1]
          by_cases c2 : i < 256
          · rw [if_neg (by omega), if_pos c2]; rfl
          · rw [if_pos (by omega), if_neg c2]
            by_cases c3 : i < 280
            · rw [if_neg (by omega), if_pos c3]; rfl
            · rw [if_pos (by omega), if_neg c3]; rfl
      · rw [zi_uI]
        by_cases q : j = i
        · rw [if_pos ⟨rfl, q⟩, q]
        · rw [if_neg (fun z => q z.2)]; exact x3 j (by omega))
    (fun x hx => by
      obtain ⟨k, s⟩ := x
      obtain ⟨x1, x2, x3⟩ := hx
      dsimp only at x1 x2 x3
      subst x1
      refine ⟨s, ?_, x2, x3⟩
      unfold bX9_fixCodes_2
      have hd : (288 : Int32) ≤ nI 288 := by decide
      exact if_pos hd) zF (0, σ) ⟨nI_0.symm, zsm.rf, fun j hj => absurd hj (Nat.not_lt_zero j)⟩ (by unfold zF; omega)
  obtain ⟨s2, e2, m2, f2, g2⟩ := zloop_cnt (body := fun x => bX9_fixCodes_61 (A 0) x.1 x.2) (fun i x => x.1 = nI i ∧ zsm (fun a => a = A 18) σ x.2 ∧ (∀ j, j < 288 → zi x.2 (A 18) j = nI (fixL j)) ∧ ∀ j, j < i → zi x.2 (A 18) (288 + j) = nI (fixD j)) 32 (fun s => zsm (fun a => a = A 18) σ s ∧ (∀ j, j < 288 → zi s (A 18) j = nI (fixL j)) ∧ ∀ j, j < 32 → zi s (A 18) (288 + j) = nI (fixD j))
    (fun i x hi hx => by
      obtain ⟨k, s⟩ := x
      obtain ⟨x1, x2, x3, x4⟩ := hx
      dsimp only at x1 x2 x3 x4
      subst x1
      have ti : (nI i).toInt = (i : Int) := zt_nI (by omega)
      have t1 : (32 : Int32).toInt = 32 := by decide
      have a1 : nI i + 1 = nI (i + 1) := nI_1 i
      have a2 : (288 : Int32) + nI i = nI (288 + i) := nI_add 288 i
      have t2 : (nI (288 + i)).toInt = ((288 + i : Nat) : Int) := zt_nI (by omega)
      refine Or.inl ⟨(nI (i + 1), zuI s (A 18) (288 + i) 5), ?_, rfl, x2.uI rfl, fun j hj => ?_, fun j hj => ?_⟩
      · unfold bX9_fixCodes_61
        simp only [oGR, oR, oSt, oL, x2.k, x2.n, x2.r, l2, l9, l10, l11, zle, ti, t1, zt0', znat, a1, a2, t2, Int.toNat_natCast, ↓reduceIte]
        rw [if_neg (by omega), if_pos ⟨trivial, by omega, by omega⟩]
      · rw [zi_uI, if_neg (fun z => by omega)]; exact x3 j hj
      · rw [zi_uI]
        by_cases q : j = i
        · rw [if_pos ⟨rfl, by omega⟩]; rfl
        · rw [if_neg (fun z => by omega)]; exact x4 j (by omega))
    (fun x hx => by
      obtain ⟨k, s⟩ := x
      obtain ⟨x1, x2, x3, x4⟩ := hx
      dsimp only at x1 x2 x3 x4
      subst x1
      refine ⟨s, ?_, x2, x3, x4⟩
      unfold bX9_fixCodes_61
      have hd : (32 : Int32) ≤ nI 32 := by decide
      exact if_pos hd) zF (0, s1) ⟨nI_0.symm, m1, f1, fun j hj => absurd hj (Nat.not_lt_zero j)⟩ (by unfold zF; omega)
  have u2 : UL s2 A := h.1.of m2
  obtain ⟨r3, σ3, e3, m3, -, -, c3⟩ := s_build (la := A 18) (fr := 0) (M := 288) (len := fixL) (u2.2.2.2.2.2.2.2.2.2.2.2.2.2.2.1) (by rw [m2.k]; exact l10) (by rw [m2.n, l11]; decide) (by rw [m2.n, l11]; decide) (by decide) (fun j hj => ⟨fixL_le j, by rw [Nat.zero_add]; exact f2 j hj⟩) (u2.cos (by decide) (by decide) (Or.inr (by decide)))
  have hl3 : leftS fixL 288 15 = 0 := by decide +kernel
  have d3 : CD σ3 (A 10) (A 11) (A 13) fixL 288 := by
    rcases c3 with ⟨q, -⟩ | ⟨-, -, q⟩
    · rw [hl3] at q; exact absurd q (by decide)
    · exact q
  have m3' : zsm (UC A) s2 σ3 := m3.mono (UC.co (i := 10) (by decide) (by decide))
  have u3 : UL σ3 A := u2.of m3
  obtain ⟨r4, σ4, e4, m4, -, -, c4⟩ := s_build (la := A 18) (fr := 288) (M := 32) (len := fixD) (u3.2.2.2.2.2.2.2.2.2.2.2.2.2.2.2) (by rw [m3.k, m2.k]; exact l10) (by rw [m3.n, m2.n, l11]; decide) (by rw [m3.n, m2.n, l11]; decide) (by decide) (fun j hj => ⟨by unfold fixD; decide, by rw [m3.i (u2.cos (by decide) (by decide) (Or.inr (by decide)))]; exact g2 j hj⟩) (u3.cos (by decide) (by decide) (Or.inr (by decide)))
  have hl4 : leftS fixD 32 15 ≥ 0 := by decide +kernel
  have d4 : CD σ4 (A 14) (A 15) (A 17) fixD 32 := by
    rcases c4 with ⟨q, -⟩ | ⟨-, -, q⟩
    · omega
    · exact q
  have m4' : zsm (UC A) σ3 σ4 := m4.mono (UC.co (i := 14) (by decide) (by decide))
  have mm : zsm (UC A) σ σ4 := ((m2.mono (fun a e => (⟨18, by decide, by decide, e⟩ : UC A a))).trans m3').trans m4'
  have e3' : fX2_build s2 (A 10) (A 18) 0 288 = some (r3, σ3) := e3
  have e4' : fX2_build σ3 (A 14) (A 18) 288 32 = some (r4, σ4) := e4
  refine ⟨σ4, ?_, mm, h.of mm (fun i _ h2 => UC.not h.1 i h2), d3.of m4 (u3.cos (by decide) (by decide) (Or.inl (by decide))) (u3.cos (by decide) (by decide) (Or.inl (by decide))) (u3.cos (by decide) (by decide) (Or.inl (by decide))), d4⟩
  unfold fX9_fixCodes
  have k10 : zk σ (A 10) = 3 := l15.1
  have k14 : zk σ (A 14) = 3 := l16.1
  simp only [oGR, oR, oA, oB, oC, e1, e2, m2.k, m2.r, l2, l7, l8, l9, k10, k14, e3', m3.k, m3.r, e4', ↓reduceIte]
end PFIX
