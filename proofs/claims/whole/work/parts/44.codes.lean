/-! codes by their lengths: the mathematics -/
def cntS (len : Nat → Nat) : Nat → Nat → Nat
  | 0, _ => 0
  | M + 1, l => cntS len M l + (if len M = l then 1 else 0)
def stS (len : Nat → Nat) (M : Nat) : Nat → Nat
  | 0 => 0
  | l + 1 => stS len M l + (if l = 0 then 0 else cntS len M l)
def fcS (len : Nat → Nat) (M : Nat) : Nat → Nat
  | 0 => 0
  | l + 1 => 2 * (fcS len M l + (if l = 0 then 0 else cntS len M l))
def leftS (len : Nat → Nat) (M : Nat) : Nat → Int
  | 0 => 1
  | l + 1 => leftS len M l * 2 - cntS len M (l + 1)
def nthS (len : Nat → Nat) : Nat → Nat → Nat → Nat
  | 0, _, _ => 0
  | M + 1, l, k => if len M = l ∧ cntS len M l = k then M else nthS len M l k
section PCODES
variable {len : Nat → Nat} {M : Nat}
theorem cntS_mono {a b l : Nat} (h : a ≤ b) : cntS len a l ≤ cntS len b l := by
  induction b with
  | zero => have : a = 0 := by omega
            subst this; exact Nat.le_refl _
  | succ b ih =>
    by_cases e : a = b + 1
    · subst e; exact Nat.le_refl _
    · rw [cntS]
      have := ih (by omega)
      omega
theorem cntS_lt {s b l : Nat} (h : s < b) (hl : len s = l) : cntS len s l < cntS len b l := by
  have h1 : cntS len (s + 1) l ≤ cntS len b l := cntS_mono h
  rw [cntS, if_pos hl] at h1
  omega
theorem cntS_le (l : Nat) : ∀ M, cntS len M l ≤ M
  | 0 => Nat.le_refl _
  | M + 1 => by
    have := cntS_le l M
    rw [cntS]
    split <;> omega
theorem nthS_spec {l k : Nat} (h : k < cntS len M l) : nthS len M l k < M ∧ len (nthS len M l k) = l ∧ cntS len (nthS len M l k) l = k := by
  induction M with
  | zero => simp [cntS] at h
  | succ M ih =>
    rw [nthS]
    by_cases e : len M = l ∧ cntS len M l = k
    · rw [if_pos e]; exact ⟨by omega, e.1, e.2⟩
    · rw [if_neg e]
      rw [cntS] at h
      have h2 : k < cntS len M l := by
        by_cases q : len M = l
        · rw [if_pos q] at h
          have : cntS len M l ≠ k := fun z => e ⟨q, z⟩
          omega
        · rw [if_neg q] at h; omega
      obtain ⟨a, b, c⟩ := ih h2
      exact ⟨by omega, b, c⟩
theorem stS_mono {a b : Nat} (h : a ≤ b) : stS len M a ≤ stS len M b := by
  induction b with
  | zero => have : a = 0 := by omega
            subst this; exact Nat.le_refl _
  | succ b ih =>
    by_cases e : a = b + 1
    · subst e; exact Nat.le_refl _
    · rw [stS]
      have := ih (by omega)
      omega
/-- all that have a length are M at most -/
theorem stS_le (L : Nat) : ∀ M, stS len M L ≤ M := by
  intro M
  induction M with
  | zero =>
    have : ∀ L, stS len 0 L = 0 := fun L => by
      induction L with
      | zero => rfl
      | succ L ih => rw [stS, ih]; simp [cntS]
    rw [this]
    exact Nat.le_refl _
  | succ M ih =>
    have key : ∀ L, stS len (M + 1) L = stS len M L + (if 0 < len M ∧ len M < L then 1 else 0) := fun L => by
      induction L with
      | zero => simp [stS]
      | succ L ihL =>
        rw [stS, stS, ihL, cntS]
        by_cases e0 : L = 0
        · subst e0
          simp only [↓reduceIte]
          rw [if_neg (by omega), if_neg (by omega)]
        · simp only [e0, ↓reduceIte]
          by_cases e1 : len M = L
          · rw [if_neg (by omega), if_pos e1, if_pos (by omega)]; omega
          · rw [if_neg e1]
            by_cases e2 : 0 < len M ∧ len M < L
            · rw [if_pos e2, if_pos (by omega)]; omega
            · rw [if_neg e2, if_neg (by omega)]; omega
    rw [key]
    split <;> omega
/-- the place of a symbol among those that have codes -/
def posS (len : Nat → Nat) (M s : Nat) : Nat := stS len M (len s) + cntS len s (len s)
theorem posS_lt {s : Nat} (hs : s < M) (h0 : len s ≠ 0) (h15 : len s ≤ 15) : posS len M s < stS len M (len s + 1) ∧ stS len M (len s + 1) ≤ M := by
  refine ⟨?_, stS_le _ _⟩
  unfold posS
  have := cntS_lt (len := len) hs rfl
  rw [stS, if_neg h0]
  omega
theorem posS_inj {s k : Nat} (hs : s < k) (hk : k < M) (h0 : len s ≠ 0) (h0' : len k ≠ 0) : posS len M s ≠ posS len M k := by
  intro e
  by_cases q : len s = len k
  · unfold posS at e
    rw [q] at e
    have := cntS_lt (len := len) hs q
    omega
  · rcases Nat.lt_or_gt_of_ne q with z | z
    · have h1 : posS len M s < stS len M (len s + 1) := by
        unfold posS
        have := cntS_lt (len := len) (Nat.lt_trans hs hk) rfl
        rw [stS, if_neg h0]
        omega
      have h2 : stS len M (len s + 1) ≤ stS len M (len k) := stS_mono (by omega)
      unfold posS at e h1
      omega
    · have h1 : posS len M k < stS len M (len k + 1) := by
        unfold posS
        have := cntS_lt (len := len) hk rfl
        rw [stS, if_neg h0']
        omega
      have h2 : stS len M (len k + 1) ≤ stS len M (len s) := stS_mono (by omega)
      unfold posS at e h1
      omega
theorem leftS_le : ∀ l, leftS len M l ≤ 2 ^ l
  | 0 => by simp [leftS]
  | l + 1 => by
    have := leftS_le l
    rw [leftS, Int.pow_succ]
    omega
theorem leftS_neg {a b : Nat} (h : a ≤ b) (hn : leftS len M a < 0) : leftS len M b < 0 := by
  induction b with
  | zero => have : a = 0 := by omega
            subst this; exact hn
  | succ b ih =>
    by_cases e : a = b + 1
    · subst e; exact hn
    · have := ih (by omega)
      rw [leftS]
      omega
end PCODES
/-! Arrays.fill -/
theorem s_fill {σ : zS} {a : Nat} (hk : zk σ a = 21) (hn : zn σ a ≤ 20000) (v : Int32) : ∃ σ', fJ7_fill_53178 σ a v = some σ' ∧ zsm (fun x => x = a) σ σ' ∧ ∀ j, j < zn σ a → zi σ' a j = v := by
  unfold fJ7_fill_53178
  simp only [oLn, hk, ↓reduceIte, oL]
  obtain ⟨b, e, hb⟩ := zloop_cnt (body := fun x => bJ7_fill_53178_5 a v (nI (zn σ a)) x.1 x.2) (fun i x => x.1 = nI i ∧ zsm (fun x => x = a) σ x.2 ∧ ∀ j, j < i → zi x.2 a j = v) (zn σ a) (fun s => zsm (fun x => x = a) σ s ∧ ∀ j, j < zn σ a → zi s a j = v)
    (fun i x hi hx => by
      obtain ⟨l, s⟩ := x
      obtain ⟨h1, h2, h3⟩ := hx
      dsimp only at h1 h2 h3
      subst h1
      have e1 : (nI i).toInt = (i : Int) := zt_nI (by omega)
      have e2 : (nI (zn σ a)).toInt = (zn σ a : Int) := zt_nI (by omega)
      refine Or.inl ⟨(nI (i + 1), zuI s a i v), ?_, rfl, h2.uI rfl, fun j hj => ?_⟩
      · unfold bJ7_fill_53178_5
        simp only [oSt, oL, h2.k, h2.n, hk, zle, e1, e2, zt0', znat, Int.toNat_natCast]
        rw [if_neg (by omega), if_pos ⟨trivial, by omega, by omega⟩, nI_1]
      · rw [zi_uI]
        by_cases q : j = i
        · rw [if_pos ⟨rfl, q⟩]
        · rw [if_neg (fun z => q z.2)]
          exact h3 j (by omega))
    (fun x hx => by
      obtain ⟨l, s⟩ := x
      obtain ⟨h1, h2, h3⟩ := hx
      dsimp only at h1 h2 h3
      subst h1
      refine ⟨s, ?_, h2, h3⟩
      unfold bJ7_fill_53178_5
      simp only [zle, Int.le_refl, ↓reduceIte]) zF (0, σ) ⟨nI_0.symm, zsm.rf, fun j hj => absurd hj (Nat.not_lt_zero j)⟩ (by unfold zF; omega)
  exact ⟨b, by simp only [oB, e], hb.1, hb.2⟩
