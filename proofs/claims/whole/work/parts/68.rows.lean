/-! rows with filters: the mathematics, and the class's Rows -/
def nrs (a b c : Nat) : Nat := if (b - c) + (c - b) ≤ (a - c) + (c - a) ∧ (b - c) + (c - b) ≤ (a + b - 2 * c) + (2 * c - (a + b)) then a else if (a - c) + (c - a) ≤ (a + b - 2 * c) + (2 * c - (a + b)) then b else c
def gsS (flt a b c : Nat) : Nat := if flt = 0 then 0 else if flt = 1 then a else if flt = 2 then b else if flt = 3 then (a + b) / 2 else nrs a b c
def ufA1 (R y k : Nat) (f : Nat → Nat) : Nat := if 4 < k then f (R * y + k - 4) else 0
def ufB1 (R y k : Nat) (f : Nat → Nat) : Nat := if 0 < y then f (R * (y - 1) + k) else 0
def ufC1 (R y k : Nat) (f : Nat → Nat) : Nat := if 4 < k ∧ 0 < y then f (R * (y - 1) + k - 4) else 0
def ufV (R y flt k : Nat) (f : Nat → Nat) : Nat := (f (R * y + k) + gsS flt (ufA1 R y k f) (ufB1 R y k f) (ufC1 R y k f)) % 256
def ufR (R y flt : Nat) (f : Nat → Nat) : Nat → Nat → Nat
  | 0 => f
  | k + 1 => va_up (ufR R y flt f k) (R * y + (k + 1)) (ufV R y flt (k + 1) (ufR R y flt f k))
def ufA (R : Nat) (f : Nat → Nat) : Nat → Option (Nat → Nat)
  | 0 => some f
  | y + 1 => match ufA R f y with
    | none => none
    | some g => if g (R * y) ≤ 4 then some (ufR R y (g (R * y)) g (R - 1)) else none
def rowsS (w h : Nat) (o : List Nat) : Option (Nat → Nat) := if o.length = (1 + 4 * w) * h then ufA (1 + 4 * w) (fun j => o.getD j 0) h else none
def pxS (w : Nat) (g : Nat → Nat) (i : Nat) : Nat := zn4 g ((1 + 4 * w) * (i / w) + 1 + 4 * (i % w))
theorem nrs_lt {a b c : Nat} (ha : a < 256) (hb : b < 256) (hc : c < 256) : nrs a b c < 256 := by
  unfold nrs
  split
  · exact ha
  · split
    · exact hb
    · exact hc
theorem gsS_lt {flt a b c : Nat} (ha : a < 256) (hb : b < 256) (hc : c < 256) : gsS flt a b c < 256 := by
  unfold gsS
  split
  · omega
  · split
    · exact ha
    · split
      · exact hb
      · split
        · omega
        · exact nrs_lt ha hb hc
theorem ufR_low {R y flt : Nat} {f : Nat → Nat} {j : Nat} (hj : j ≤ R * y) : ∀ k, ufR R y flt f k j = f j
  | 0 => rfl
  | k + 1 => by
    rw [ufR]
    unfold va_up
    rw [if_neg (by omega)]
    exact ufR_low hj k
theorem ufA_none {R : Nat} {f : Nat → Nat} {y h : Nat} (hy : y ≤ h) (hn : ufA R f y = none) : ufA R f h = none := by
  induction h with
  | zero => have : y = 0 := by omega
            subst this; exact hn
  | succ h ih =>
    by_cases e : y = h + 1
    · subst e; exact hn
    · rw [ufA, ih (by omega)]
/-! numbers once more -/
theorem znI_of {x : Int32} {n : Nat} (h : x.toInt = (n : Int)) : x = nI n := by
  have := zrange x
  exact zeq.mpr (by rw [h, zt_nI (by omega)])
theorem zt_sub' {a b : Nat} (ha : a < 1073741824) (hb : b < 1073741824) : (nI a - nI b).toInt = (a : Int) - b := by
  have h1 : (nI a).toInt = (a : Int) := zt_nI (by omega)
  have h2 : (nI b).toInt = (b : Int) := zt_nI (by omega)
  rw [zt_sub (by rw [h1, h2]; omega) (by rw [h1, h2]; omega), h1, h2]
theorem zabs_of {x : Int32} {n : Nat} (h : x.toInt = (n : Int) ∨ x.toInt = -(n : Int)) (hn : n < 2147483648) : zabs x = nI n := by
  unfold zabs
  by_cases q : 0 ≤ x
  · rw [if_pos q]
    rw [zle, zt0'] at q
    exact znI_of (by omega)
  · rw [if_neg q]
    rw [zle, zt0'] at q
    refine znI_of ?_
    rw [zt_sub (by rw [zt0']; omega) (by rw [zt0']; omega), zt0']
    omega
section PROWS
variable {σ : zS}
theorem s_nearest {a b c : Nat} (ha : a < 256) (hb : b < 256) (hc : c < 256) : fX6_nearest σ (nI a) (nI b) (nI c) = some (nI (nrs a b c)) := by
  have e1 : zabs (nI b - nI c) = nI ((b - c) + (c - b)) := zabs_of (by rw [zt_sub' (by omega) (by omega)]; omega) (by omega)
  have e2 : zabs (nI a - nI c) = nI ((a - c) + (c - a)) := zabs_of (by rw [zt_sub' (by omega) (by omega)]; omega) (by omega)
  have e3 : zabs (((nI a + nI b) - nI c) - nI c) = nI ((a + b - 2 * c) + (2 * c - (a + b))) := by
    refine zabs_of ?_ (by omega)
    have t1 : (nI (a + b) - nI c).toInt = ((a + b : Nat) : Int) - c := zt_sub' (by omega) (by omega)
    have t2 : (nI c).toInt = (c : Int) := zt_nI (by omega)
    rw [nI_add, zt_sub (by rw [t1, t2]; omega) (by rw [t1, t2]; omega), t1, t2]
    omega
  unfold fX6_nearest fX6_nearest_41
  rw [oL_eq, oL_eq, oL_eq, e1, e2, e3]
  have c1 : nI ((a - c) + (c - a)) < nI ((b - c) + (c - b)) ↔ (a - c) + (c - a) < (b - c) + (c - b) := nI_ltI (by omega) (by omega)
  have c2 : nI ((a + b - 2 * c) + (2 * c - (a + b))) < nI ((b - c) + (c - b)) ↔ (a + b - 2 * c) + (2 * c - (a + b)) < (b - c) + (c - b) := nI_ltI (by omega) (by omega)
  have c3 : nI ((a + b - 2 * c) + (2 * c - (a + b))) < nI ((a - c) + (c - a)) ↔ (a + b - 2 * c) + (2 * c - (a + b)) < (a - c) + (c - a) := nI_ltI (by omega) (by omega)
  simp only [c1, c2, c3]
  unfold nrs
  by_cases d1 : (a - c) + (c - a) < (b - c) + (c - b)
  · rw [if_pos d1, if_neg (show ¬ ((b - c) + (c - b) ≤ (a - c) + (c - a) ∧ (b - c) + (c - b) ≤ (a + b - 2 * c) + (2 * c - (a + b))) by omega)]
    by_cases d3 : (a + b - 2 * c) + (2 * c - (a + b)) < (a - c) + (c - a)
    · rw [if_pos d3, if_neg (by omega)]
    · rw [if_neg d3, if_pos (by omega)]
  · rw [if_neg d1]
    by_cases d2 : (a + b - 2 * c) + (2 * c - (a + b)) < (b - c) + (c - b)
    · rw [if_pos d2, if_neg (show ¬ ((b - c) + (c - b) ≤ (a - c) + (c - a) ∧ (b - c) + (c - b) ≤ (a + b - 2 * c) + (2 * c - (a + b))) by omega)]
      by_cases d3 : (a + b - 2 * c) + (2 * c - (a + b)) < (a - c) + (c - a)
      · rw [if_pos d3, if_neg (by omega)]
      · rw [if_neg d3, if_pos (by omega)]
    · rw [if_neg d2, if_pos (by omega)]
theorem s_guess {flt a b c : Nat} (hf : flt ≤ 4) (ha : a < 256) (hb : b < 256) (hc : c < 256) : fX6_guess σ (nI flt) (nI a) (nI b) (nI c) = some (nI (gsS flt a b c)) := by
  have e0 : nI flt = 0 ↔ flt = 0 := nI_eq (b := 0) (by omega) (by decide)
  have e1 : nI flt = 1 ↔ flt = 1 := nI_eq (b := 1) (by omega) (by decide)
  have e2 : nI flt = 2 ↔ flt = 2 := nI_eq (b := 2) (by omega) (by decide)
  have e3 : nI flt = 3 ↔ flt = 3 := nI_eq (b := 3) (by omega) (by decide)
  have hd : nI (a + b) / 2 = nI ((a + b) / 2) := pk_div (d := 2) (by omega) (by decide) (by decide)
  unfold fX6_guess gsS
  rw [nI_add, hd, oB_eq (s_nearest ha hb hc)]
  simp only [e0, e1, e2, e3]
  by_cases d0 : flt = 0
  · rw [if_pos d0, if_pos d0]; rfl
  · rw [if_neg d0, if_neg d0]
    by_cases d1 : flt = 1
    · rw [if_pos d1, if_pos d1]
    · rw [if_neg d1, if_neg d1]
      by_cases d2 : flt = 2
      · rw [if_pos d2, if_pos d2]
      · rw [if_neg d2, if_neg d2]
        by_cases d3 : flt = 3
        · rw [if_pos d3, if_pos d3]
        · rw [if_neg d3, if_neg d3]
/-- the bytes are those of f -/
def zBF (σ : zS) (c n : Nat) (f : Nat → Nat) : Prop := ∀ j, j < n → zby σ c j = f j
theorem zBF.lt {c n : Nat} {f : Nat → Nat} (h : zBF σ c n f) {j : Nat} (hj : j < n) : f j < 256 := by rw [← h j hj]; exact zby_lt _ _ _
theorem s_atF {b c N n : Nat} {f : Nat → Nat} (h : BY σ b c N n) (hf : zBF σ c n f) {j : Nat} (hj : j < n) : fX1_at σ b (nI j) = some (nI (f j)) := by
  rw [s_atN h hj, hf j hj]
/-- one byte of a row -/
theorem s_unf1 {b c n R y flt k : Nat} {f : Nat → Nat} (h : BY σ b c 1100 n) (hf : zBF σ c n f) (hR : 1 ≤ R) (hn : R * (y + 1) ≤ n) (hfl : flt ≤ 4) (hk : k + 1 < R) :
    ∃ s, bX6_unfilter_10 b (nI y) (nI R) (nI flt) (nI (y * R + 1)) (nI k) σ = some (.inl (nI (k + 1), s)) ∧ zsm (fun a => a = c) σ s ∧ zBF s c n (va_up f (R * y + (k + 1)) (ufV R y flt (k + 1) f)) := by
  have hn11 : n ≤ 1100 := h.2.2.2.2.2.1
  have hRy : R * (y + 1) = R * y + R := Nat.mul_succ R y
  have hyR : y * R = R * y := Nat.mul_comm y R
  have i4 : nI (y * R + 1) + nI k = nI (R * y + (k + 1)) := by rw [nI_add]; congr 1; omega
  have ck : nI k < 4 ↔ k < 4 := nI_ltI (b := 4) (by omega) (by decide)
  have cy : nI y ≤ 0 ↔ y ≤ 0 := nI_leI (b := 0) (by
    have : y * 1 ≤ y * R := Nat.mul_le_mul_left y hR
    omega) (by decide)
  have r1 : nI R - 1 = nI (R - 1) := pk_sub (b := 1) (by omega)
  have c0 : ¬ nI (R - 1) ≤ nI k := by rw [nI_leI (by omega) (by omega)]; omega
  have kb : zk σ b = 2 := h.1
  have hA : ufA1 R y (k + 1) f < 256 := by
    unfold ufA1
    split
    · exact hf.lt (by omega)
    · decide
  have hB : ufB1 R y (k + 1) f < 256 := by
    unfold ufB1
    split
    · rename_i q
      have : R * (y - 1) + R = R * y := by rw [← Nat.mul_succ]; congr 1; omega
      exact hf.lt (by omega)
    · decide
  have hCC : ufC1 R y (k + 1) f < 256 := by
    unfold ufC1
    split
    · rename_i q
      have : R * (y - 1) + R = R * y := by rw [← Nat.mul_succ]; congr 1; omega
      exact hf.lt (by omega)
    · decide
  have hg := gsS_lt (flt := flt) hA hB hCC
  have hx := hf.lt (j := R * y + (k + 1)) (by omega)
  -- the end of the road
  have h87 : fX6_unfilter_87 σ b (nI y) (nI R) (nI flt) (nI (y * R + 1)) (nI k) (nI (R * y + (k + 1))) (nI (ufA1 R y (k + 1) f)) (nI (ufB1 R y (k + 1) f)) (nI (ufC1 R y (k + 1) f)) = some (.inl (nI (k + 1), zuI σ c (R * y + (k + 1)) (((nI (f (R * y + (k + 1)) + gsS flt (ufA1 R y (k + 1) f) (ufB1 R y (k + 1) f) (ufC1 R y (k + 1) f))).toInt8.toInt32).toInt8.toInt32))) := by
    unfold fX6_unfilter_87
    rw [oGR_eq kb h.2.1, oA_eq kb, oB_eq (s_atF h hf (by omega)), oB_eq (s_guess hfl hA hB hCC), nI_add, oSt_eq h.2.2.1 (by rw [h.2.2.2.1]; omega) (by omega), oL_eq, nI_1]
  have h61 : fX6_unfilter_61 σ b (nI y) (nI R) (nI flt) (nI (y * R + 1)) (nI k) (nI (R * y + (k + 1))) (nI (ufA1 R y (k + 1) f)) (nI (ufB1 R y (k + 1) f)) = fX6_unfilter_87 σ b (nI y) (nI R) (nI flt) (nI (y * R + 1)) (nI k) (nI (R * y + (k + 1))) (nI (ufA1 R y (k + 1) f)) (nI (ufB1 R y (k + 1) f)) (nI (ufC1 R y (k + 1) f)) := by
    unfold fX6_unfilter_61 fX6_unfilter_86
    by_cases d1 : k < 4
    · rw [if_pos (ck.mpr d1)]
      have : ufC1 R y (k + 1) f = 0 := by unfold ufC1; rw [if_neg (by omega)]
      rw [this]; rfl
    · rw [if_neg (fun z => d1 (ck.mp z))]
      by_cases d2 : y ≤ 0
      · rw [if_pos (cy.mpr d2)]
        have : ufC1 R y (k + 1) f = 0 := by unfold ufC1; rw [if_neg (by omega)]
        rw [this]; rfl
      · have hR1 : R * (y - 1) + R = R * y := by rw [← Nat.mul_succ]; congr 1; omega
        have e1 : nI (R * y + (k + 1)) - nI R = nI (R * (y - 1) + (k + 1)) := by rw [pk_sub (by omega)]; congr 1; omega
        have e2 : nI (R * (y - 1) + (k + 1)) - 4 = nI (R * (y - 1) + (k + 1) - 4) := pk_sub (b := 4) (by omega)
        have : ufC1 R y (k + 1) f = f (R * (y - 1) + (k + 1) - 4) := by unfold ufC1; rw [if_pos (by omega)]
        rw [if_neg (fun z => d2 (cy.mp z)), oA_eq kb, e1, e2, oB_eq (s_atF h hf (by omega)), this]
  have h43 : fX6_unfilter_43 σ b (nI y) (nI R) (nI flt) (nI (y * R + 1)) (nI k) (nI (R * y + (k + 1))) (nI (ufA1 R y (k + 1) f)) = fX6_unfilter_61 σ b (nI y) (nI R) (nI flt) (nI (y * R + 1)) (nI k) (nI (R * y + (k + 1))) (nI (ufA1 R y (k + 1) f)) (nI (ufB1 R y (k + 1) f)) := by
    unfold fX6_unfilter_43
    by_cases d2 : y ≤ 0
    · rw [if_pos (cy.mpr d2)]
      have : ufB1 R y (k + 1) f = 0 := by unfold ufB1; rw [if_neg (by omega)]
      rw [this]; rfl
    · have hR1 : R * (y - 1) + R = R * y := by rw [← Nat.mul_succ]; congr 1; omega
      have e1 : nI (R * y + (k + 1)) - nI R = nI (R * (y - 1) + (k + 1)) := by rw [pk_sub (by omega)]; congr 1; omega
      have : ufB1 R y (k + 1) f = f (R * (y - 1) + (k + 1)) := by unfold ufB1; rw [if_pos (by omega)]
      rw [if_neg (fun z => d2 (cy.mp z)), oA_eq kb, e1, oB_eq (s_atF h hf (by omega)), this]
  have h10 : bX6_unfilter_10 b (nI y) (nI R) (nI flt) (nI (y * R + 1)) (nI k) σ = fX6_unfilter_43 σ b (nI y) (nI R) (nI flt) (nI (y * R + 1)) (nI k) (nI (R * y + (k + 1))) (nI (ufA1 R y (k + 1) f)) := by
    unfold bX6_unfilter_10
    rw [r1, if_neg c0, oL_eq, i4]
    by_cases d1 : k < 4
    · rw [if_pos (ck.mpr d1)]
      have : ufA1 R y (k + 1) f = 0 := by unfold ufA1; rw [if_neg (by omega)]
      rw [this]; rfl
    · have e2 : nI (R * y + (k + 1)) - 4 = nI (R * y + (k + 1) - 4) := pk_sub (b := 4) (by omega)
      have : ufA1 R y (k + 1) f = f (R * y + (k + 1) - 4) := by unfold ufA1; rw [if_pos (by omega)]
      rw [if_neg (fun z => d1 (ck.mp z)), oA_eq kb, e2, oB_eq (s_atF h hf (by omega)), this]
  refine ⟨_, by rw [h10, h43, h61, h87], zsm1, fun j hj => ?_⟩
  unfold va_up
  by_cases q : j = R * y + (k + 1)
  · rw [if_pos q, q]
    unfold zby
    rw [zi_uI, if_pos ⟨rfl, rfl⟩, zb_narrow, zb_narrow, zbv_nat (by omega)]
    rfl
  · rw [if_neg q, ← hf j hj]
    unfold zby
    rw [zi_uI, if_neg (fun z => q z.2)]
theorem s_unfilter {b c n R y flt : Nat} {f : Nat → Nat} (h : BY σ b c 1100 n) (hf : zBF σ c n f) (hR : 1 ≤ R) (hn : R * (y + 1) ≤ n) (hfl : flt ≤ 4) :
    ∃ s, fX6_unfilter σ b (nI y) (nI R) (nI flt) = some s ∧ zsm (fun a => a = c) σ s ∧ zBF s c n (ufR R y flt f (R - 1)) := by
  have hn11 : n ≤ 1100 := h.2.2.2.2.2.1
  have hRy : R * (y + 1) = R * y + R := Nat.mul_succ R y
  have r1 : nI R - 1 = nI (R - 1) := pk_sub (b := 1) (by omega)
  obtain ⟨s, e, p1, p2⟩ := zloop_cnt (body := fun x => bX6_unfilter_10 b (nI y) (nI R) (nI flt) (nI (y * R + 1)) x.1 x.2) (fun i x => x.1 = nI i ∧ zsm (fun a => a = c) σ x.2 ∧ zBF x.2 c n (ufR R y flt f i)) (R - 1) (fun s => zsm (fun a => a = c) σ s ∧ zBF s c n (ufR R y flt f (R - 1)))
    (fun i x hi hx => by
      obtain ⟨k, s⟩ := x
      obtain ⟨x1, x2, x3⟩ := hx
      dsimp only at x1 x2 x3
      subst x1
      obtain ⟨s', e', m', f'⟩ := s_unf1 (k := i) (h.of x2 (fun z => h.ne z.symm)) x3 hR hn hfl (by omega)
      exact Or.inl ⟨_, e', rfl, x2.trans m', f'⟩)
    (fun x hx => by
      obtain ⟨k, s⟩ := x
      obtain ⟨x1, x2, x3⟩ := hx
      dsimp only at x1 x2 x3
      subst x1
      refine ⟨s, ?_, x2, x3⟩
      show bX6_unfilter_10 b (nI y) (nI R) (nI flt) (nI (y * R + 1)) (nI (R - 1)) s = _
      unfold bX6_unfilter_10
      rw [r1, if_pos (by rw [zle]; exact Int.le_refl _)]) zF (0, σ) ⟨nI_0.symm, zsm.rf, hf⟩ (by unfold zF; omega)
  refine ⟨s, ?_, p1, p2⟩
  unfold fX6_unfilter
  have e1 : nI y * nI R + 1 = nI (y * R + 1) := by rw [pk_mul]; exact nI_1 _
  rw [oL_eq, e1, oB_eq e]
/-- a picture: its object p, its pixels pa -/
def PCL (σ : zS) (p pa : Nat) : Prop := zk σ p = 4 ∧ zr σ p 0 = some pa ∧ zk σ pa = 21 ∧ zn σ pa = 256
theorem PCL.ne {p pa : Nat} (h : PCL σ p pa) : p ≠ pa := fun e => by
  have h1 := h.1
  rw [e, h.2.2.1] at h1
  exact absurd h1 (by decide)
theorem PCL.of {σ' : zS} {S : Nat → Prop} {p pa : Nat} (h : PCL σ p pa) (hs : zsm S σ σ') : PCL σ' p pa := by
  unfold PCL
  rw [hs.k, hs.n, hs.r]
  exact h
/-- the pixels of a row -/
theorem s_pxrow {b c n w h y p pa : Nat} {f : Nat → Nat} (hb : BY σ b c 1100 n) (hf : zBF σ c n f) (hp : PCL σ p pa) (hw : zi σ p 1 = nI w) (hw1 : 1 ≤ w) (hw16 : w ≤ 16) (hh : h ≤ 16) (hy : y < h) (hn : n = (1 + 4 * w) * h) :
    ∃ s, zloop zF (fun x => bX6_fill_67 p b (nI (1 + 4 * w)) (nI y) x.1 x.2) (0, σ) = some s ∧ zsm (fun a => a = pa) σ s ∧ (∀ x, x < w → zi s pa (y * w + x) = nI (zn4 f (y * (1 + 4 * w) + 1 + 4 * x))) ∧ ∀ j, j < y * w → zi s pa j = zi σ pa j := by
  have hn11 : n ≤ 1100 := hb.2.2.2.2.2.1
  have hkb : zk σ b = 2 := hb.1
  have npa : pa ≠ c := fun e => by
    have h1 := hb.2.2.1
    rw [← e, hp.2.2.1] at h1
    exact absurd h1 (by decide)
  have npb : b ≠ pa := fun e => by
    have h1 := hb.1
    rw [e, hp.2.2.1] at h1
    exact absurd h1 (by decide)
  have hyw : y * w + w ≤ 256 := by
    have h1 : (y + 1) * w ≤ 16 * 16 := Nat.mul_le_mul (by omega) hw16
    rw [Nat.add_mul, Nat.one_mul] at h1
    omega
  have hyR : y * (1 + 4 * w) + (1 + 4 * w) ≤ n := by
    have h1 : (y + 1) * (1 + 4 * w) ≤ h * (1 + 4 * w) := Nat.mul_le_mul_right _ (by omega)
    rw [Nat.add_mul, Nat.one_mul] at h1
    rw [hn, Nat.mul_comm (1 + 4 * w) h]
    exact h1
  obtain ⟨s, e, p1, p2, p3⟩ := zloop_cnt (body := fun x => bX6_fill_67 p b (nI (1 + 4 * w)) (nI y) x.1 x.2) (fun i x => x.1 = nI i ∧ zsm (fun a => a = pa) σ x.2 ∧ (∀ t, t < i → zi x.2 pa (y * w + t) = nI (zn4 f (y * (1 + 4 * w) + 1 + 4 * t))) ∧ ∀ j, j < y * w → zi x.2 pa j = zi σ pa j) w (fun s => zsm (fun a => a = pa) σ s ∧ (∀ t, t < w → zi s pa (y * w + t) = nI (zn4 f (y * (1 + 4 * w) + 1 + 4 * t))) ∧ ∀ j, j < y * w → zi s pa j = zi σ pa j)
    (fun i x hi hx => by
      obtain ⟨k, s⟩ := x
      obtain ⟨x1, x2, x3, x4⟩ := hx
      dsimp only at x1 x2 x3 x4
      subst x1
      have c1 : ¬ nI w ≤ nI i := by rw [nI_leI (by omega) (by omega)]; omega
      have kp : zk s p = 4 := by rw [x2.k]; exact hp.1
      have wp : zi s p 1 = nI w := (x2.i hp.ne 1).trans hw
      have hbs : BY s b c 1100 n := hb.of x2 npb
      have e1 : (nI y * nI (1 + 4 * w) + 1) + (4 : Int32) * nI i = nI (y * (1 + 4 * w) + 1 + 4 * i) := by
        have q1 : (4 : Int32) * nI i = nI (4 * i) := pk_mul 4 i
        rw [pk_mul, q1, nI_1, nI_add]
      have hnum := s_number hbs (i := y * (1 + 4 * w) + 1 + 4 * i) (by omega)
      have hz : zn4 (zby s c) (y * (1 + 4 * w) + 1 + 4 * i) = zn4 f (y * (1 + 4 * w) + 1 + 4 * i) := by
        have hzb : ∀ j, j < n → zby s c j = f j := fun j hj => by rw [zby_of x2 (fun z => npa z.symm)]; exact hf j hj
        unfold zn4
        rw [hzb _ (by omega), hzb _ (by omega), hzb _ (by omega), hzb _ (by omega)]
      rw [hz] at hnum
      have e2 : nI y * nI w + nI i = nI (y * w + i) := by rw [pk_mul, nI_add]
      refine Or.inl ⟨(nI (i + 1), zuI s pa (y * w + i) (nI (zn4 f (y * (1 + 4 * w) + 1 + 4 * i)))), ?_, rfl, x2.uI rfl, fun t ht => ?_, fun j hj => ?_⟩
      · show bX6_fill_67 p b (nI (1 + 4 * w)) (nI y) (nI i) s = _
        unfold bX6_fill_67
        rw [oGI_eq kp wp, if_neg c1, oGR_eq kp (by rw [x2.r]; exact hp.2.1), oGI_eq kp wp, oA_eq (by rw [x2.k]; exact hkb), e1, oB_eq hnum, e2, oSt_eq (by rw [x2.k]; exact hp.2.2.1) (by rw [x2.n, hp.2.2.2]; omega) (by omega), oL_eq, nI_1]
      · show zi (zuI s pa _ _) pa _ = _
        rw [zi_uI]
        by_cases q : t = i
        · rw [if_pos ⟨rfl, by omega⟩, q]
        · rw [if_neg (fun z => by omega)]; exact x3 t (by omega)
      · show zi (zuI s pa _ _) pa _ = _
        rw [zi_uI, if_neg (fun z => by omega)]; exact x4 j hj)
    (fun x hx => by
      obtain ⟨k, s⟩ := x
      obtain ⟨x1, x2, x3, x4⟩ := hx
      dsimp only at x1 x2 x3 x4
      subst x1
      refine ⟨s, ?_, x2, x3, x4⟩
      show bX6_fill_67 p b (nI (1 + 4 * w)) (nI y) (nI w) s = _
      unfold bX6_fill_67
      rw [oGI_eq (by rw [x2.k]; exact hp.1) ((x2.i hp.ne 1).trans hw), if_pos (by rw [zle]; exact Int.le_refl _)]) zF (0, σ) ⟨nI_0.symm, zsm.rf, fun t ht => absurd ht (Nat.not_lt_zero t), fun _ _ => rfl⟩ (by unfold zF; omega)
  exact ⟨s, e, p1, p2, p3⟩
theorem s_rows {b c w h p pa : Nat} {o : List Nat} (hb : BL σ b c 1100 o) (hp : PCL σ p pa) (hw : zi σ p 1 = nI w) (hh : zi σ p 2 = nI h) (hw1 : 1 ≤ w) (hw16 : w ≤ 16) (hh1 : 1 ≤ h) (hh16 : h ≤ 16) :
    ∃ r s, fX6_fill σ p b = some (r, s) ∧ zsm (fun a => a = c ∨ a = pa) σ s ∧ BY s b c 1100 o.length ∧ ((rowsS w h o = none ∧ r = 0) ∨ ∃ g, rowsS w h o = some g ∧ r = 1 ∧ ∀ i, i < w * h → zi s pa i = nI (pxS w g i)) := by
  have hn11 : o.length ≤ 1100 := hb.1.2.2.2.2.2.1
  have hkb : zk σ b = 2 := hb.1.1
  have hsz : zi σ b 1 = nI o.length := hb.1.2.2.2.2.1
  have npc : p ≠ c := fun e => by
    have h1 := hb.1.2.2.1
    rw [← e, hp.1] at h1
    exact absurd h1 (by decide)
  have npa : pa ≠ c := fun e => by
    have h1 := hb.1.2.2.1
    rw [← e, hp.2.2.1] at h1
    exact absurd h1 (by decide)
  have nbp : b ≠ pa := fun e => by
    have h1 := hb.1.1
    rw [e, hp.2.2.1] at h1
    exact absurd h1 (by decide)
  have nbc : b ≠ c := fun e => hb.1.ne e.symm
  have e4 : (1 : Int32) + (4 : Int32) * nI w = nI (1 + 4 * w) := by
    have q1 : (4 : Int32) * nI w = nI (4 * w) := pk_mul 4 w
    rw [q1]
    exact nI_add 1 (4 * w)
  have hRh : (1 + 4 * w) * h ≤ 65 * 16 := Nat.mul_le_mul (by omega) hh16
  have ce : nI o.length = nI ((1 + 4 * w) * h) ↔ o.length = (1 + 4 * w) * h := nI_eq (by omega) (by omega)
  unfold fX6_fill gX6_fill
  rw [oGI_eq hp.1 hw, oL_eq, oGI_eq hkb hsz, oGI_eq hp.1 hh, e4, pk_mul]
  by_cases d0 : o.length = (1 + 4 * w) * h
  · rw [if_pos (ce.mpr d0)]
    have hrs : rowsS w h o = ufA (1 + 4 * w) (fun j => o.getD j 0) h := by unfold rowsS; rw [if_pos d0]
    generalize hR : 1 + 4 * w = R at *
    obtain ⟨bb, e, pp⟩ := zloop_cnt (body := fun x => bX6_fill_26 p b (nI R) x.1 x.2)
      (fun y x => x.1 = nI y ∧ zsm (fun a => a = c ∨ a = pa) σ x.2 ∧ ∃ g, ufA R (fun j => o.getD j 0) y = some g ∧ zBF x.2 c o.length g ∧ ∀ i, i < w * y → zi x.2 pa i = nI (pxS w g i)) h
      (fun bb => match bb with
        | .inl s => zsm (fun a => a = c ∨ a = pa) σ s ∧ ∃ g, ufA R (fun j => o.getD j 0) h = some g ∧ ∀ i, i < w * h → zi s pa i = nI (pxS w g i)
        | .inr r => r.1 = 0 ∧ zsm (fun a => a = c ∨ a = pa) σ r.2 ∧ ufA R (fun j => o.getD j 0) h = none)
      (fun y x hy hx => by
        obtain ⟨k, s⟩ := x
        obtain ⟨x1, x2, g, x3, x4, x5⟩ := hx
        dsimp only at x1 x2 x4 x5
        subst x1
        have hRy : R * (y + 1) ≤ R * h := Nat.mul_le_mul_left R (by omega)
        have hRs : R * (y + 1) = R * y + R := Nat.mul_succ R y
        have c1 : ¬ nI h ≤ nI y := by rw [nI_leI (by omega) (by omega)]; omega
        have kp : zk s p = 4 := by rw [x2.k]; exact hp.1
        have hp2 : zi s p 2 = nI h := (x2.i (fun z => z.elim npc hp.ne) 2).trans hh
        have hbs : BY s b c 1100 o.length := hb.1.of x2 (fun z => z.elim nbc nbp)
        have hat := s_atF hbs x4 (j := R * y) (by omega)
        have hyR : nI y * nI R = nI (R * y) := by rw [pk_mul, Nat.mul_comm]
        have hlt := x4.lt (j := R * y) (by omega)
        have hnn : ¬ nI (g (R * y)) < 0 := nI_pos (by omega)
        have cl4 : nI (g (R * y)) ≤ 4 ↔ g (R * y) ≤ 4 := nI_leI (b := 4) (by omega) (by decide)
        have hnext : ufA R (fun j => o.getD j 0) (y + 1) = if g (R * y) ≤ 4 then some (ufR R y (g (R * y)) g (R - 1)) else none := by rw [ufA, x3]
        have hpre : bX6_fill_26 p b (nI R) (nI y) s = (if nI (g (R * y)) < 0 then some (.inr (.inr (0, s))) else (if nI (g (R * y)) ≤ (4 : Int32) then oB (fX6_unfilter s b (nI y) (nI R) (nI (g (R * y)))) (fun σ1 => oB (zloop zF (fun x => bX6_fill_67 p b (nI R) (nI y) x.1 x.2) (0, σ1)) (fun σ3 => some (.inl (nI y + 1, σ3)))) else some (.inr (.inr (0, s))))) := by
          unfold bX6_fill_26
          rw [oGI_eq kp hp2, if_neg c1, oA_eq (by rw [x2.k]; exact hkb), hyR, oB_eq hat]
          rfl
        rw [if_neg hnn] at hpre
        by_cases d4 : g (R * y) ≤ 4
        · rw [if_pos (cl4.mpr d4)] at hpre
          rw [if_pos d4] at hnext
          obtain ⟨s1, e1, m1, f1⟩ := s_unfilter (R := R) (y := y) hbs x4 (by omega) (by omega) d4
          have hb1 : BY s1 b c 1100 o.length := hbs.of m1 nbc
          have hw1' : zi s1 p 1 = nI w := (m1.i npc 1).trans ((x2.i (fun z => z.elim npc hp.ne) 1).trans hw)
          obtain ⟨s2, e2, m2, q2, g2⟩ := s_pxrow (w := w) (h := h) (y := y) hb1 f1 ((hp.of x2).of m1) hw1' hw1 hw16 hh16 hy (by rw [hR]; exact d0)
          rw [hR] at e2 q2
          rw [oB_eq e1, oB_eq e2] at hpre
          refine Or.inl ⟨(nI y + 1, s2), hpre, nI_1 y, (x2.trans (m1.mono (fun a z => Or.inl z))).trans (m2.mono (fun a z => Or.inr z)), _, hnext, fun j hj => by rw [zby_of m2 (fun z => npa z.symm)]; exact f1 j hj, fun i hi => ?_⟩
          show zi s2 pa i = _
          by_cases q : i < w * y
          · rw [g2 i (by rw [Nat.mul_comm]; exact q), m1.i npa, x5 i q]
            unfold pxS
            have hdiv : i / w < y := Nat.div_lt_of_lt_mul q
            have hmod : i % w < w := Nat.mod_lt _ (by omega)
            have hle : (1 + 4 * w) * (i / w) + (1 + 4 * w) ≤ R * y := by
              rw [hR, ← Nat.mul_succ]
              exact Nat.mul_le_mul_left R hdiv
            unfold zn4
            rw [ufR_low (by omega), ufR_low (by omega), ufR_low (by omega), ufR_low (by omega)]
          · have hi' : i < w * y + w := by rw [Nat.mul_succ] at hi; exact hi
            have hx : i = y * w + (i - w * y) := by rw [Nat.mul_comm y w]; omega
            have hd : i / w = y := by
              rw [hx, Nat.mul_comm y w, Nat.mul_add_div (by omega), Nat.div_eq_of_lt (by omega)]; rfl
            have hm : i % w = i - w * y := by
              have := Nat.div_add_mod i w
              rw [hd] at this
              omega
            have := q2 (i - w * y) (by omega)
            rw [← hx] at this
            rw [this]
            unfold pxS
            rw [hd, hm, hR, Nat.mul_comm R y]
        · rw [if_neg (fun z => d4 (cl4.mp z))] at hpre
          rw [if_neg d4] at hnext
          exact Or.inr ⟨.inr (0, s), hpre, rfl, x2, ufA_none (by omega) hnext⟩)
      (fun x hx => by
        obtain ⟨k, s⟩ := x
        obtain ⟨x1, x2, g, x3, x4, x5⟩ := hx
        dsimp only at x1 x2 x4 x5
        subst x1
        refine ⟨.inl s, ?_, x2, g, x3, x5⟩
        show bX6_fill_26 p b (nI R) (nI h) s = _
        unfold bX6_fill_26
        rw [oGI_eq (by rw [x2.k]; exact hp.1) ((x2.i (fun z => z.elim npc hp.ne) 2).trans hh), if_pos (by rw [zle]; exact Int.le_refl _)]) zF (0, σ) ⟨nI_0.symm, zsm.rf, _, rfl, fun j hj => hb.2 j hj, fun i hi => absurd hi (by rw [Nat.mul_zero]; exact Nat.not_lt_zero i)⟩ (by unfold zF; omega)
    rw [oB_eq e]
    cases bb with
    | inl s =>
      obtain ⟨p1, g, p2, p3⟩ := pp
      exact ⟨1, s, rfl, p1, hb.1.of p1 (fun z => z.elim nbc nbp), Or.inr ⟨g, by rw [hrs]; exact p2, rfl, p3⟩⟩
    | inr r =>
      obtain ⟨r1, r2⟩ := r
      obtain ⟨p1, p2, p3⟩ := pp
      dsimp only at p1 p2
      subst p1
      exact ⟨0, r2, rfl, p2, hb.1.of p2 (fun z => z.elim nbc nbp), Or.inl ⟨by rw [hrs]; exact p3, rfl⟩⟩
  · rw [if_neg (fun z => d0 (ce.mp z))]
    exact ⟨0, σ, rfl, zsm.rf, hb.1, Or.inl ⟨by unfold rowsS; rw [if_neg d0], rfl⟩⟩
end PROWS
