/-! the reference's unfilter -/
section PMROWS
variable {σ : zS} {B : Nat → Nat}
theorem m_nearest {a b c : Nat} (ha : a < 256) (hb : b < 256) (hc : c < 256) : fX12_nearest σ (nI a) (nI b) (nI c) = some (nI (nrs a b c)) := by
  have tp : (nI (a + b) - nI c).toInt = ((a + b : Nat) : Int) - c := zt_sub' (by omega) (by omega)
  have ta : (nI a).toInt = (a : Int) := zt_nI (by omega)
  have tb : (nI b).toInt = (b : Int) := zt_nI (by omega)
  have tc : (nI c).toInt = (c : Int) := zt_nI (by omega)
  have h52 : ∀ x1 x2 x3 : Int32, x1 = nI ((b - c) + (c - b)) → x2 = nI ((a - c) + (c - a)) → x3 = nI ((a + b - 2 * c) + (2 * c - (a + b))) → fX12_nearest_52 σ (nI a) (nI b) (nI c) x1 x2 x3 = some (nI (nrs a b c)) := fun x1 x2 x3 h1 h2 h3 => by
    subst h1
    subst h2
    subst h3
    unfold fX12_nearest_52 fX12_nearest_72
    have c1 : nI ((a - c) + (c - a)) < nI ((b - c) + (c - b)) ↔ (a - c) + (c - a) < (b - c) + (c - b) := nI_ltI (by omega) (by omega)
    have c2 : nI ((a + b - 2 * c) + (2 * c - (a + b))) < nI ((b - c) + (c - b)) ↔ (a + b - 2 * c) + (2 * c - (a + b)) < (b - c) + (c - b) := nI_ltI (by omega) (by omega)
    have c3 : nI ((a + b - 2 * c) + (2 * c - (a + b))) < nI ((a - c) + (c - a)) ↔ (a + b - 2 * c) + (2 * c - (a + b)) < (a - c) + (c - a) := nI_ltI (by omega) (by omega)
    simp only [c1, c2, c3]
    unfold nrs
    by_cases d1 : (a - c) + (c - a) < (b - c) + (c - b)
    · rw [if_pos d1, if_neg (show ¬ ((b - c) + (c - b) ≤ (a - c) + (c - a) ∧ (b - c) + (c - b) ≤ (a + b - 2 * c) + (2 * c - (a + b))) by omega)]
      by_cases d3 : (a + b - 2 * c) + (2 * c - (a + b)) < (a - c) + (c - a)
      · rw [if_pos d3, if_neg (by omega)]
      · rw [if_neg d3, if_pos (by omega)]
    · rw [if_neg d1]
      by_cases d2 : (a + b - 2 * c) + (2 * c - (a + b)) < (b - c) + (c - b)
      · rw [if_pos d2, if_neg (show ¬ ((b - c) + (c - b) ≤ (a - c) + (c - a) ∧ (b - c) + (c - b) ≤ (a + b - 2 * c) + (2 * c - (a + b))) by omega)]
        by_cases d3 : (a + b - 2 * c) + (2 * c - (a + b)) < (a - c) + (c - a)
        · rw [if_pos d3, if_neg (by omega)]
        · rw [if_neg d3, if_pos (by omega)]
      · rw [if_neg d2, if_pos (by omega)]
  have hs1 : ∀ {x y : Int32}, -1000 < x.toInt ∧ x.toInt < 1000 → -1000 < y.toInt ∧ y.toInt < 1000 → (x - y).toInt = x.toInt - y.toInt := fun h1 h2 => zt_sub (by omega) (by omega)
  have rp : -1000 < (nI (a + b) - nI c).toInt ∧ (nI (a + b) - nI c).toInt < 1000 := by rw [tp]; omega
  have ra : -1000 < (nI a).toInt ∧ (nI a).toInt < 1000 := by rw [ta]; omega
  have rb : -1000 < (nI b).toInt ∧ (nI b).toInt < 1000 := by rw [tb]; omega
  have rc : -1000 < (nI c).toInt ∧ (nI c).toInt < 1000 := by rw [tc]; omega
  have h36 : ∀ x1 x2 : Int32, x1 = nI ((b - c) + (c - b)) → x2 = nI ((a - c) + (c - a)) → fX12_nearest_36 σ (nI a) (nI b) (nI c) (nI (a + b) - nI c) x1 x2 = some (nI (nrs a b c)) := fun x1 x2 h1 h2 => by
    unfold fX12_nearest_36
    by_cases q : nI c ≤ nI (a + b) - nI c
    · rw [if_pos q]
      rw [zle, tc, tp] at q
      exact h52 _ _ _ h1 h2 (znI_of (by rw [hs1 rp rc, tp, tc]; omega))
    · rw [if_neg q]
      rw [zle, tc, tp] at q
      exact h52 _ _ _ h1 h2 (znI_of (by rw [hs1 rc rp, tp, tc]; omega))
  have h20 : ∀ x1 : Int32, x1 = nI ((b - c) + (c - b)) → fX12_nearest_20 σ (nI a) (nI b) (nI c) (nI (a + b) - nI c) x1 = some (nI (nrs a b c)) := fun x1 h1 => by
    unfold fX12_nearest_20
    by_cases q : nI b ≤ nI (a + b) - nI c
    · rw [if_pos q]
      rw [zle, tb, tp] at q
      exact h36 _ _ h1 (znI_of (by rw [hs1 rp rb, tp, tb]; omega))
    · rw [if_neg q]
      rw [zle, tb, tp] at q
      exact h36 _ _ h1 (znI_of (by rw [hs1 rb rp, tp, tb]; omega))
  unfold fX12_nearest
  rw [oL_eq, nI_add]
  by_cases q : nI a ≤ nI (a + b) - nI c
  · rw [if_pos q]
    rw [zle, ta, tp] at q
    exact h20 _ (znI_of (by rw [hs1 rp ra, tp, ta]; omega))
  · rw [if_neg q]
    rw [zle, ta, tp] at q
    exact h20 _ (znI_of (by rw [hs1 ra rp, tp, ta]; omega))
/-- the reference's bytes and pixels at hand -/
def zMB (σ : zS) (B : Nat → Nat) : Prop := zk σ (B 0) = 12 ∧ zr σ (B 0) 20 = some (B 9) ∧ zk σ (B 9) = 20 ∧ zn σ (B 9) = 1100 ∧ zr σ (B 0) 6 = some (B 4) ∧ zk σ (B 4) = 21 ∧ zn σ (B 4) = 4608
theorem zMB.of {σ' : zS} {S : Nat → Prop} (h : zMB σ B) (hs : zsm S σ σ') : zMB σ' B := by
  unfold zMB
  rw [hs.k, hs.n, hs.r]
  exact h
theorem zML.mb (h : zML σ B) : zMB σ B := by
  obtain ⟨l0, l1, -, -, -, l6, -, -, -, -, l10, -, -, -, -, -, ⟨k4, n4⟩, -, -, -, -, ⟨k9, n9⟩, -⟩ := h
  exact ⟨l1, l10, k9, n9, l6, k4, n4⟩
theorem m_mk {n : Nat} {f : Nat → Nat} (h : zMB σ B) (hn : n ≤ 1100) (hf : zBF σ (B 9) n f) {j : Nat} (hj : j < n) {ρ : Type} (g : Int32 → Option ρ) : oLd σ 20 (B 9) (nI j) (fun x => g (x &&& 255)) = g (nI (f j)) := by
  rw [oLd_eq (v := zi σ (B 9) j) h.2.2.1 (by rw [h.2.2.2.1]; omega) (by omega) rfl, zby_and, hf j hj]
/-- one byte of a row -/
theorem m_unf1 {n R y flt k : Nat} {f : Nat → Nat} {l1 l2 l3 : Int32} (h : zMB σ B) (hn11 : n ≤ 1100) (hf : zBF σ (B 9) n f) (hn : R * (y + 1) ≤ n) (hfl : flt ≤ 4) (hk0 : 1 ≤ k) (hk : k < R) :
    ∃ s, bX12_unfilter_56 (B 0) l1 l2 l3 (nI R) (nI y) (nI flt) (nI k) σ = some (.inl (nI (k + 1), s)) ∧ zsm (fun a => a = B 9) σ s ∧ zBF s (B 9) n (va_up f (R * y + k) (ufV R y flt k f)) := by
  obtain ⟨k0, r20, k9, n9, -, -, -⟩ := id h
  have hRy : R * (y + 1) = R * y + R := Nat.mul_succ R y
  have hyy : y * 1 ≤ R * y := by rw [Nat.mul_comm R y]; exact Nat.mul_le_mul_left y (by omega)
  have ck : nI k ≤ 4 ↔ k ≤ 4 := nI_leI (b := 4) (by omega) (by decide)
  have cy : nI y ≤ 0 ↔ y ≤ 0 := nI_leI (b := 0) (by omega) (by decide)
  have c0 : ¬ nI R ≤ nI k := by rw [nI_leI (by omega) (by omega)]; omega
  have ei : nI R * nI y + nI k = nI (R * y + k) := by rw [pk_mul, nI_add]
  have hA : ufA1 R y k f < 256 := by
    unfold ufA1
    split
    · exact hf.lt (by omega)
    · decide
  have hB : ufB1 R y k f < 256 := by
    unfold ufB1
    split
    · rename_i q
      have : R * (y - 1) + R = R * y := by rw [← Nat.mul_succ]; congr 1; omega
      exact hf.lt (by omega)
    · decide
  have hCC : ufC1 R y k f < 256 := by
    unfold ufC1
    split
    · rename_i q
      have : R * (y - 1) + R = R * y := by rw [← Nat.mul_succ]; congr 1; omega
      exact hf.lt (by omega)
    · decide
  have hg := gsS_lt (flt := flt) hA hB hCC
  have hx := hf.lt (j := R * y + k) (by omega)
  have h218 : ∀ x : Int32, x = nI (gsS flt (ufA1 R y k f) (ufB1 R y k f) (ufC1 R y k f)) → fX12_unfilter_218 σ (B 0) l1 l2 l3 (nI R) (nI y) (nI flt) (nI k) x = some (.inl (nI (k + 1), zuI σ (B 9) (R * y + k) (((zi σ (B 9) (R * y + k) + nI (gsS flt (ufA1 R y k f) (ufB1 R y k f) (ufC1 R y k f))).toInt8.toInt32).toInt8.toInt32))) := fun x hx => by
    subst hx
    unfold fX12_unfilter_218
    rw [oGR_eq k0 r20, oGR_eq k0 r20, ei, oLd_eq k9 (by rw [n9]; omega) (by omega) rfl, oSt_eq k9 (by rw [n9]; omega) (by omega), oL_eq, nI_1]
  have h160 : fX12_unfilter_160 σ (B 0) l1 l2 l3 (nI R) (nI y) (nI flt) (nI k) (nI (ufA1 R y k f)) (nI (ufB1 R y k f)) (nI (ufC1 R y k f)) = some (.inl (nI (k + 1), zuI σ (B 9) (R * y + k) (((zi σ (B 9) (R * y + k) + nI (gsS flt (ufA1 R y k f) (ufB1 R y k f) (ufC1 R y k f))).toInt8.toInt32).toInt8.toInt32))) := by
    have e0 : nI flt = 0 ↔ flt = 0 := nI_eq (b := 0) (by omega) (by decide)
    have e1 : nI flt = 1 ↔ flt = 1 := nI_eq (b := 1) (by omega) (by decide)
    have e2 : nI flt = 2 ↔ flt = 2 := nI_eq (b := 2) (by omega) (by decide)
    have e3 : nI flt = 3 ↔ flt = 3 := nI_eq (b := 3) (by omega) (by decide)
    have hd : nI (ufA1 R y k f + ufB1 R y k f) / 2 = nI ((ufA1 R y k f + ufB1 R y k f) / 2) := pk_div (d := 2) (by omega) (by decide) (by decide)
    unfold fX12_unfilter_160
    rw [oB_eq (m_nearest hA hB hCC)]
    by_cases d0 : flt = 0
    · rw [if_pos (e0.mpr d0)]
      exact h218 _ (by unfold gsS; rw [if_pos d0]; rfl)
    · rw [if_neg (fun z => d0 (e0.mp z))]
      by_cases d1 : flt = 1
      · rw [if_pos (e1.mpr d1)]
        exact h218 _ (by unfold gsS; rw [if_neg d0, if_pos d1])
      · rw [if_neg (fun z => d1 (e1.mp z))]
        by_cases d2 : flt = 2
        · rw [if_pos (e2.mpr d2)]
          exact h218 _ (by unfold gsS; rw [if_neg d0, if_neg d1, if_pos d2])
        · rw [if_neg (fun z => d2 (e2.mp z))]
          by_cases d3 : flt = 3
          · rw [if_pos (e3.mpr d3), nI_add, hd]
            exact h218 _ (by unfold gsS; rw [if_neg d0, if_neg d1, if_neg d2, if_pos d3])
          · rw [if_neg (fun z => d3 (e3.mp z))]
            exact h218 _ (by unfold gsS; rw [if_neg d0, if_neg d1, if_neg d2, if_neg d3])
  have h122 : fX12_unfilter_122 σ (B 0) l1 l2 l3 (nI R) (nI y) (nI flt) (nI k) (nI (ufA1 R y k f)) (nI (ufB1 R y k f)) = fX12_unfilter_160 σ (B 0) l1 l2 l3 (nI R) (nI y) (nI flt) (nI k) (nI (ufA1 R y k f)) (nI (ufB1 R y k f)) (nI (ufC1 R y k f)) := by
    unfold fX12_unfilter_122 fX12_unfilter_159
    by_cases d1 : k ≤ 4
    · rw [if_pos (ck.mpr d1)]
      have : ufC1 R y k f = 0 := by unfold ufC1; rw [if_neg (by omega)]
      rw [this]; rfl
    · rw [if_neg (fun z => d1 (ck.mp z))]
      by_cases d2 : y ≤ 0
      · rw [if_pos (cy.mpr d2)]
        have : ufC1 R y k f = 0 := by unfold ufC1; rw [if_neg (by omega)]
        rw [this]; rfl
      · have hR1 : R * (y - 1) + R = R * y := by rw [← Nat.mul_succ]; congr 1; omega
        have y1 : nI y - 1 = nI (y - 1) := pk_sub (b := 1) (by omega)
        have e1 : (nI R * (nI y - 1) + nI k) - 4 = nI (R * (y - 1) + k - 4) := by
          rw [y1, pk_mul, nI_add]
          exact pk_sub (b := 4) (by omega)
        have : ufC1 R y k f = f (R * (y - 1) + k - 4) := by unfold ufC1; rw [if_pos (by omega)]
        rw [if_neg (fun z => d2 (cy.mp z)), oGR_eq k0 r20, e1, m_mk h hn11 hf (by omega) (g := fun x => fX12_unfilter_160 σ (B 0) l1 l2 l3 (nI R) (nI y) (nI flt) (nI k) (nI (ufA1 R y k f)) (nI (ufB1 R y k f)) x), this]
  have h92 : fX12_unfilter_92 σ (B 0) l1 l2 l3 (nI R) (nI y) (nI flt) (nI k) (nI (ufA1 R y k f)) = fX12_unfilter_122 σ (B 0) l1 l2 l3 (nI R) (nI y) (nI flt) (nI k) (nI (ufA1 R y k f)) (nI (ufB1 R y k f)) := by
    unfold fX12_unfilter_92
    by_cases d2 : y ≤ 0
    · rw [if_pos (cy.mpr d2)]
      have : ufB1 R y k f = 0 := by unfold ufB1; rw [if_neg (by omega)]
      rw [this]; rfl
    · have hR1 : R * (y - 1) + R = R * y := by rw [← Nat.mul_succ]; congr 1; omega
      have y1 : nI y - 1 = nI (y - 1) := pk_sub (b := 1) (by omega)
      have e1 : nI R * (nI y - 1) + nI k = nI (R * (y - 1) + k) := by rw [y1, pk_mul, nI_add]
      have : ufB1 R y k f = f (R * (y - 1) + k) := by unfold ufB1; rw [if_pos (by omega)]
      rw [if_neg (fun z => d2 (cy.mp z)), oGR_eq k0 r20, e1, m_mk h hn11 hf (by omega) (g := fun x => fX12_unfilter_122 σ (B 0) l1 l2 l3 (nI R) (nI y) (nI flt) (nI k) (nI (ufA1 R y k f)) x), this]
  have h56 : bX12_unfilter_56 (B 0) l1 l2 l3 (nI R) (nI y) (nI flt) (nI k) σ = fX12_unfilter_92 σ (B 0) l1 l2 l3 (nI R) (nI y) (nI flt) (nI k) (nI (ufA1 R y k f)) := by
    unfold bX12_unfilter_56
    rw [if_neg c0]
    by_cases d1 : k ≤ 4
    · rw [if_pos (ck.mpr d1)]
      have : ufA1 R y k f = 0 := by unfold ufA1; rw [if_neg (by omega)]
      rw [this]; rfl
    · have e1 : (nI R * nI y + nI k) - 4 = nI (R * y + k - 4) := by
        rw [ei]
        exact pk_sub (b := 4) (by omega)
      have : ufA1 R y k f = f (R * y + k - 4) := by unfold ufA1; rw [if_pos (by omega)]
      rw [if_neg (fun z => d1 (ck.mp z)), oGR_eq k0 r20, e1, m_mk h hn11 hf (by omega) (g := fun x => fX12_unfilter_92 σ (B 0) l1 l2 l3 (nI R) (nI y) (nI flt) (nI k) x), this]
  refine ⟨_, by rw [h56, h92, h122, h160], zsm1, fun j hj => ?_⟩
  unfold va_up
  by_cases q : j = R * y + k
  · rw [if_pos q, q]
    have hz := hf (R * y + k) (by omega)
    unfold zby at hz ⊢
    rw [zi_uI, if_pos ⟨rfl, rfl⟩, zb_narrow, zb_narrow, Int32.toBitVec_add, BitVec.toNat_add, zbv_nat (by omega)]
    unfold ufV
    omega
  · rw [if_neg q, ← hf j hj]
    unfold zby
    rw [zi_uI, if_neg (fun z => q z.2)]
theorem m_unfrow {n R y flt : Nat} {f : Nat → Nat} {l1 l2 l3 : Int32} (h : zMB σ B) (hn11 : n ≤ 1100) (hf : zBF σ (B 9) n f) (hR : 1 ≤ R) (hn : R * (y + 1) ≤ n) (hfl : flt ≤ 4) :
    ∃ s, zloop zF (fun x => bX12_unfilter_56 (B 0) l1 l2 l3 (nI R) (nI y) (nI flt) x.1 x.2) (1, σ) = some s ∧ zsm (fun a => a = B 9) σ s ∧ zBF s (B 9) n (ufR R y flt f (R - 1)) := by
  have hRy : R * (y + 1) = R * y + R := Nat.mul_succ R y
  obtain ⟨s, e, p1, p2⟩ := zloop_cnt (body := fun x => bX12_unfilter_56 (B 0) l1 l2 l3 (nI R) (nI y) (nI flt) x.1 x.2) (fun i x => x.1 = nI (i + 1) ∧ zsm (fun a => a = B 9) σ x.2 ∧ zBF x.2 (B 9) n (ufR R y flt f i)) (R - 1) (fun s => zsm (fun a => a = B 9) σ s ∧ zBF s (B 9) n (ufR R y flt f (R - 1)))
    (fun i x hi hx => by
      obtain ⟨k, s⟩ := x
      obtain ⟨x1, x2, x3⟩ := hx
      dsimp only at x1 x2 x3
      subst x1
      obtain ⟨s', e', m', f'⟩ := m_unf1 (R := R) (y := y) (k := i + 1) (l1 := l1) (l2 := l2) (l3 := l3) (h.of x2) hn11 x3 hn hfl (by omega) (by omega)
      exact Or.inl ⟨_, e', rfl, x2.trans m', f'⟩)
    (fun x hx => by
      obtain ⟨k, s⟩ := x
      obtain ⟨x1, x2, x3⟩ := hx
      dsimp only at x1 x2 x3
      have e1 : R - 1 + 1 = R := by omega
      rw [e1] at x1
      subst x1
      refine ⟨s, ?_, x2, x3⟩
      show bX12_unfilter_56 (B 0) l1 l2 l3 (nI R) (nI y) (nI flt) (nI R) s = _
      unfold bX12_unfilter_56
      rw [if_pos (by rw [zle]; exact Int.le_refl _)]) zF (1, σ) ⟨rfl, zsm.rf, hf⟩ (by unfold zF; omega)
  exact ⟨s, e, p1, p2⟩
/-- the pixels, one by one -/
theorem m_px {n w h to : Nat} {g : Nat → Nat} (hB : zMB σ B) (hn11 : n ≤ 1100) (hf : zBF σ (B 9) n g) (hw1 : 1 ≤ w) (hw16 : w ≤ 16) (hh : h ≤ 16) (hn : n = (1 + 4 * w) * h) (hto : to + 256 ≤ 4608) :
    ∃ s, zloop zF (fun x => bX12_unfilter_265 (B 0) (nI w) (nI h) (nI to) (nI (1 + 4 * w)) x.1 x.2) (0, σ) = some s ∧ zsm (fun a => a = B 4) σ s ∧ (∀ i, i < w * h → zi s (B 4) (to + i) = nI (pxS w g i)) ∧ ∀ j, (j < to ∨ to + w * h ≤ j) → zi s (B 4) j = zi σ (B 4) j := by
  obtain ⟨k0, r20, k9, n9, r6, k4, n4⟩ := id hB
  have n49 : B 9 ≠ B 4 := fun e => by
    rw [e, k4] at k9
    exact absurd k9 (by decide)
  have hwh : w * h ≤ 16 * 16 := Nat.mul_le_mul hw16 hh
  obtain ⟨s, e, p1, p2, p3⟩ := zloop_cnt (body := fun x => bX12_unfilter_265 (B 0) (nI w) (nI h) (nI to) (nI (1 + 4 * w)) x.1 x.2) (fun i x => x.1 = nI i ∧ zsm (fun a => a = B 4) σ x.2 ∧ (∀ t, t < i → zi x.2 (B 4) (to + t) = nI (pxS w g t)) ∧ ∀ j, (j < to ∨ to + i ≤ j) → zi x.2 (B 4) j = zi σ (B 4) j) (w * h) (fun s => zsm (fun a => a = B 4) σ s ∧ (∀ i, i < w * h → zi s (B 4) (to + i) = nI (pxS w g i)) ∧ ∀ j, (j < to ∨ to + w * h ≤ j) → zi s (B 4) j = zi σ (B 4) j)
    (fun i x hi hx => by
      obtain ⟨k, s⟩ := x
      obtain ⟨x1, x2, x3, x4⟩ := hx
      dsimp only at x1 x2 x3 x4
      subst x1
      have c1 : ¬ nI (w * h) ≤ nI i := by rw [nI_leI (by omega) (by omega)]; omega
      have c2 : ¬ nI w = 0 := nI_ne0 (by omega) (by omega)
      have ks : zk s (B 0) = 12 := by rw [x2.k]; exact k0
      have hdv : nI i / nI w = nI (i / w) := pk_div (by omega) (by omega) (by omega)
      have hrm : nI i - nI (i / w) * nI w = nI (i % w) := by rw [← hdv]; exact pk_rem (by omega) (by omega) (by omega)
      have q4 : (4 : Int32) * nI (i % w) = nI (4 * (i % w)) := pk_mul 4 _
      have ev : (nI (1 + 4 * w) * nI (i / w) + 1) + nI (4 * (i % w)) = nI ((1 + 4 * w) * (i / w) + 1 + 4 * (i % w)) := by rw [pk_mul, nI_1, nI_add]
      have hmod : i % w < w := Nat.mod_lt _ (by omega)
      have hdl : i / w < h := Nat.div_lt_of_lt_mul hi
      have hle : (1 + 4 * w) * (i / w) + (1 + 4 * w) ≤ n := by
        rw [hn, ← Nat.mul_succ]
        exact Nat.mul_le_mul_left _ hdl
      have hfs : zBF s (B 9) n g := fun j hj => by rw [zby_of x2 n49]; exact hf j hj
      have hBs := hB.of x2
      generalize hv : (1 + 4 * w) * (i / w) + 1 + 4 * (i % w) = v at *
      have hv4 : v + 3 < n := by omega
      have a1 : nI v + 1 = nI (v + 1) := nI_1 v
      have a2 : nI v + 2 = nI (v + 2) := nI_add v 2
      have a3 : nI v + 3 = nI (v + 3) := nI_add v 3
      have at' : nI to + nI i = nI (to + i) := nI_add _ _
      have hpx : pxS w g i = zn4 g v := by unfold pxS; rw [hv]
      have hs20 : zr s (B 0) 20 = some (B 9) := by rw [x2.r]; exact r20
      have hby : ∀ j, j < n → zi s (B 9) j &&& 255 = nI (g j) := fun j hj => by rw [zby_and, hfs j hj]
      refine Or.inl ⟨(nI (i + 1), zuI s (B 4) (to + i) (nI (pxS w g i))), ?_, rfl, x2.uI rfl, fun t ht => ?_, fun j hj => ?_⟩
      · show bX12_unfilter_265 (B 0) (nI w) (nI h) (nI to) (nI (1 + 4 * w)) (nI i) s = _
        have ld : ∀ j, j < n → ∀ f : Int32 → Option ((Int32 × zS) ⊕ zS), oLd s 20 (B 9) (nI j) f = f (zi s (B 9) j) := fun j hj f => oLd_eq hBs.2.2.1 (by rw [hBs.2.2.2.1]; omega) (by omega) rfl
        unfold bX12_unfilter_265
        rw [pk_mul, if_neg c1, oA_eq c2, oA_eq c2, oL_eq, hdv, hrm, q4, ev, oGR_eq ks (by rw [x2.r]; exact r6), oGR_eq ks hs20, ld v (by omega), oGR_eq ks hs20, a1, ld _ (by omega), oGR_eq ks hs20, a2, ld _ (by omega), oGR_eq ks hs20, a3, ld _ (by omega), hby _ (by omega), hby _ (by omega), hby _ (by omega), hby _ (by omega), znum4 (hfs.lt (by omega)) (hfs.lt (by omega)) (hfs.lt (by omega)) (hfs.lt (by omega)), at', oSt_eq (by rw [x2.k]; exact k4) (by rw [x2.n, n4]; omega) (by omega), oL_eq, nI_1, hpx]
        rfl
      · show zi (zuI s (B 4) _ _) (B 4) _ = _
        rw [zi_uI]
        by_cases q : t = i
        · rw [if_pos ⟨rfl, by omega⟩, q]
        · rw [if_neg (fun z => by omega)]; exact x3 t (by omega)
      · show zi (zuI s (B 4) _ _) (B 4) _ = _
        rw [zi_uI, if_neg (fun z => by omega)]; exact x4 j (by omega))
    (fun x hx => by
      obtain ⟨k, s⟩ := x
      obtain ⟨x1, x2, x3, x4⟩ := hx
      dsimp only at x1 x2 x3 x4
      subst x1
      refine ⟨s, ?_, x2, x3, x4⟩
      show bX12_unfilter_265 (B 0) (nI w) (nI h) (nI to) (nI (1 + 4 * w)) (nI (w * h)) s = _
      unfold bX12_unfilter_265
      rw [pk_mul, if_pos (by rw [zle]; exact Int.le_refl _)]) zF (0, σ) ⟨nI_0.symm, zsm.rf, fun t ht => absurd ht (Nat.not_lt_zero t), fun _ _ => rfl⟩ (by unfold zF; omega)
  exact ⟨s, e, p1, p2, p3⟩
theorem m_unfilter {w h to : Nat} {o : List Nat} (hB : zMB σ B) (hsz : zi σ (B 0) 19 = nI o.length) (ho : o.length ≤ 1100) (hf : zBF σ (B 9) o.length (fun j => o.getD j 0)) (hw1 : 1 ≤ w) (hw16 : w ≤ 16) (hh1 : 1 ≤ h) (hh16 : h ≤ 16) (hto : to + 256 ≤ 4608) :
    ∃ r s, fX12_unfilter σ (B 0) (nI w) (nI h) (nI to) = some (r, s) ∧ zsm (fun a => a = B 9 ∨ a = B 4) σ s ∧ ((rowsS w h o = none ∧ r = 0 ∧ ∀ j, zi s (B 4) j = zi σ (B 4) j) ∨ ∃ g, rowsS w h o = some g ∧ r = 1 ∧ (∀ i, i < w * h → zi s (B 4) (to + i) = nI (pxS w g i)) ∧ ∀ j, (j < to ∨ to + w * h ≤ j) → zi s (B 4) j = zi σ (B 4) j) := by
  obtain ⟨k0, r20, k9, n9, r6, k4, n4⟩ := id hB
  have n49 : B 4 ≠ B 9 := fun e => by
    rw [← e, k4] at k9
    exact absurd k9 (by decide)
  have e4 : (1 : Int32) + (4 : Int32) * nI w = nI (1 + 4 * w) := by
    have q1 : (4 : Int32) * nI w = nI (4 * w) := pk_mul 4 w
    rw [q1]
    exact nI_add 1 (4 * w)
  have hRh : (1 + 4 * w) * h ≤ 65 * 16 := Nat.mul_le_mul (by omega) hh16
  have ce : nI o.length = nI ((1 + 4 * w) * h) ↔ o.length = (1 + 4 * w) * h := nI_eq (by omega) (by omega)
  unfold fX12_unfilter gX12_unfilter
  rw [oL_eq, e4, oGI_eq k0 hsz, pk_mul]
  by_cases d0 : o.length = (1 + 4 * w) * h
  · rw [if_pos (ce.mpr d0)]
    have hrs : rowsS w h o = ufA (1 + 4 * w) (fun j => o.getD j 0) h := by unfold rowsS; rw [if_pos d0]
    have hpx := fun {s : zS} {g : Nat → Nat} (h1 : zMB s B) (h2 : zBF s (B 9) o.length g) => m_px (to := to) h1 ho h2 hw1 hw16 hh16 d0 hto
    generalize hR : 1 + 4 * w = R at *
    obtain ⟨bb, e, pp⟩ := zloop_cnt (body := fun x => bX12_unfilter_23 (B 0) (nI w) (nI h) (nI to) (nI R) x.1 x.2)
      (fun y x => x.1 = nI y ∧ zsm (fun a => a = B 9) σ x.2 ∧ ∃ g, ufA R (fun j => o.getD j 0) y = some g ∧ zBF x.2 (B 9) o.length g) h
      (fun bb => match bb with
        | .inl s => zsm (fun a => a = B 9) σ s ∧ ∃ g, ufA R (fun j => o.getD j 0) h = some g ∧ zBF s (B 9) o.length g
        | .inr r => r.1 = 0 ∧ zsm (fun a => a = B 9) σ r.2 ∧ ufA R (fun j => o.getD j 0) h = none)
      (fun y x hy hx => by
        obtain ⟨k, s⟩ := x
        obtain ⟨x1, x2, g, x3, x4⟩ := hx
        dsimp only at x1 x2 x4
        subst x1
        have hRy : R * (y + 1) ≤ R * h := Nat.mul_le_mul_left R (by omega)
        have hRs : R * (y + 1) = R * y + R := Nat.mul_succ R y
        have c1 : ¬ nI h ≤ nI y := by rw [nI_leI (by omega) (by omega)]; omega
        have ks : zk s (B 0) = 12 := by rw [x2.k]; exact k0
        have hlt := x4.lt (j := R * y) (by omega)
        have cl4 : nI (g (R * y)) ≤ 4 ↔ g (R * y) ≤ 4 := nI_leI (b := 4) (by omega) (by decide)
        have hnext : ufA R (fun j => o.getD j 0) (y + 1) = if g (R * y) ≤ 4 then some (ufR R y (g (R * y)) g (R - 1)) else none := by rw [ufA, x3]
        have hpre : bX12_unfilter_23 (B 0) (nI w) (nI h) (nI to) (nI R) (nI y) s = (if nI (g (R * y)) ≤ (4 : Int32) then oB (zloop zF (fun x => bX12_unfilter_56 (B 0) (nI w) (nI h) (nI to) (nI R) (nI y) (nI (g (R * y))) x.1 x.2) (1, s)) (fun σ2 => some (.inl (nI y + 1, σ2))) else some (.inr (.inr (0, s)))) := by
          unfold bX12_unfilter_23
          rw [if_neg c1, oGR_eq ks (by rw [x2.r]; exact r20), pk_mul, oLd_eq (v := zi s (B 9) (R * y)) (hB.of x2).2.2.1 (by rw [(hB.of x2).2.2.2.1]; omega) (by omega) rfl, oL_eq, zby_and, x4 _ (by omega)]
          rfl
        by_cases d4 : g (R * y) ≤ 4
        · rw [if_pos (cl4.mpr d4)] at hpre
          rw [if_pos d4] at hnext
          obtain ⟨s1, e1, m1, f1⟩ := m_unfrow (R := R) (y := y) (l1 := nI w) (l2 := nI h) (l3 := nI to) (hB.of x2) ho x4 (by omega) (by omega) d4
          rw [oB_eq e1] at hpre
          exact Or.inl ⟨(nI y + 1, s1), hpre, nI_1 y, x2.trans m1, _, hnext, f1⟩
        · rw [if_neg (fun z => d4 (cl4.mp z))] at hpre
          rw [if_neg d4] at hnext
          exact Or.inr ⟨.inr (0, s), hpre, rfl, x2, ufA_none (by omega) hnext⟩)
      (fun x hx => by
        obtain ⟨k, s⟩ := x
        obtain ⟨x1, x2, g, x3, x4⟩ := hx
        dsimp only at x1 x2 x4
        subst x1
        refine ⟨.inl s, ?_, x2, g, x3, x4⟩
        show bX12_unfilter_23 (B 0) (nI w) (nI h) (nI to) (nI R) (nI h) s = _
        unfold bX12_unfilter_23
        rw [if_pos (by rw [zle]; exact Int.le_refl _)]) zF (0, σ) ⟨nI_0.symm, zsm.rf, _, rfl, hf⟩ (by unfold zF; omega)
    rw [oB_eq e]
    cases bb with
    | inl s =>
      obtain ⟨p1, g, p2, p3⟩ := pp
      obtain ⟨s2, e2, m2, f2, g2⟩ := hpx (hB.of p1) p3
      refine ⟨1, s2, ?_, (p1.mono (fun a z => Or.inl z)).trans (m2.mono (fun a z => Or.inr z)), Or.inr ⟨g, by rw [hrs]; exact p2, rfl, f2, fun j hj => (g2 j hj).trans (p1.i n49 j)⟩⟩
      unfold oS
      dsimp only
      rw [oB_eq e2]
      rfl
    | inr r =>
      obtain ⟨r1, r2⟩ := r
      obtain ⟨p1, p2, p3⟩ := pp
      dsimp only at p1 p2
      subst p1
      exact ⟨0, r2, rfl, p2.mono (fun a z => Or.inl z), Or.inl ⟨by rw [hrs]; exact p3, rfl, fun j => p2.i n49 j⟩⟩
  · rw [if_neg (fun z => d0 (ce.mp z))]
    exact ⟨0, σ, rfl, zsm.rf, Or.inl ⟨by unfold rowsS; rw [if_neg d0], rfl, fun _ => rfl⟩⟩
end PMROWS
