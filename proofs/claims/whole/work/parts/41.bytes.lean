/-! Bytes: object b with the row c of N places, n of them in use -/
def BY (σ : zS) (b c N n : Nat) : Prop := zk σ b = 2 ∧ zr σ b 0 = some c ∧ zk σ c = 20 ∧ zn σ c = N ∧ zi σ b 1 = nI n ∧ n ≤ N ∧ N ≤ 20000
section PBYTES
variable {σ : zS} {b c N n : Nat}
theorem BY.ne (h : BY σ b c N n) : c ≠ b := fun e => by
  have h1 := h.1
  have h2 := h.2.2.1
  rw [e, h1] at h2
  exact absurd h2 (by decide)
theorem BY.of {σ' : zS} {S : Nat → Prop} (h : BY σ b c N n) (hs : zsm S σ σ') (hb : ¬ S b) : BY σ' b c N n := by
  obtain ⟨h1, h2, h3, h4, h5, h6, h7⟩ := h
  exact ⟨by rw [hs.k]; exact h1, by rw [hs.r]; exact h2, by rw [hs.k]; exact h3, by rw [hs.n]; exact h4, by rw [hs.i hb]; exact h5, h6, h7⟩
theorem zby_of {σ' : zS} {S : Nat → Prop} (hs : zsm S σ σ') (hc : ¬ S c) (j : Nat) : zby σ' c j = zby σ c j := by unfold zby; rw [hs.i hc]
theorem s_at (h : BY σ b c N n) (i : Int32) : fX1_at σ b i = some (if 0 ≤ i.toInt ∧ i.toInt < n then nI (zby σ c i.toInt.toNat) else -1) := by
  obtain ⟨h1, h2, h3, h4, h5, h6, h7⟩ := h
  have hn : (nI n).toInt = (n : Int) := zt_nI (by omega)
  unfold fX1_at
  simp only [oGI, oGR, oR, oLd, h1, h2, h3, h4, h5, zle, zlt, zt0', hn, znat, zby_and, ↓reduceIte]
  by_cases c1 : i.toInt < 0
  · rw [if_pos c1, if_neg (by omega)]
  · rw [if_neg c1]
    by_cases c2 : (n : Int) ≤ i.toInt
    · rw [if_pos c2, if_neg (by omega)]
    · rw [if_neg c2, if_pos ⟨trivial, by omega, by omega⟩, if_pos (by omega)]
theorem s_atN (h : BY σ b c N n) {j : Nat} (hj : j < n) : fX1_at σ b (nI j) = some (nI (zby σ c j)) := by
  have h6 := h.2.2.2.2.2.1
  have h7 := h.2.2.2.2.2.2
  rw [s_at h, zt_nI (by omega), if_pos (by omega)]
  rfl
theorem s_fits (h : BY σ b c N n) (m : Int32) : fX1_fits σ b m = some (if m.toInt ≤ (N : Int) - n then 1 else 0) := by
  obtain ⟨h1, h2, h3, h4, h5, h6, h7⟩ := h
  have hn : (nI n).toInt = (n : Int) := zt_nI (by omega)
  have hN : (nI N).toInt = (N : Int) := zt_nI (by omega)
  unfold fX1_fits gX1_fits
  simp only [oGI, oGR, oR, oLn, oB, h1, h2, h3, h4, h5, zlt, ↓reduceIte]
  rw [zt_sub (by rw [hn, hN]; omega) (by rw [hn, hN]; omega), hn, hN]
  by_cases c1 : (N : Int) - n < m.toInt
  · rw [if_pos c1, if_neg (by omega)]; rfl
  · rw [if_neg c1, if_pos (by omega)]; rfl
theorem s_clear (h : BY σ b c N n) : fX1_clear σ b = some (zuI σ b 1 0) := by
  unfold fX1_clear
  simp only [oPI, h.1, ↓reduceIte]
theorem BY.clear (h : BY σ b c N n) : BY (zuI σ b 1 0) b c N 0 := by
  obtain ⟨h1, h2, h3, h4, h5, h6, h7⟩ := h
  exact ⟨h1, h2, h3, h4, by rw [zi_uI, if_pos ⟨rfl, rfl⟩]; exact nI_0.symm, Nat.zero_le _, h7⟩
/-- one more byte -/
theorem s_add (h : BY σ b c N n) (v : Int32) (hn : n < N) : ∃ σ', fX1_add σ b v = some σ' ∧ zsm (fun a => a = b ∨ a = c) σ σ' ∧ BY σ' b c N (n + 1) ∧ zby σ' c n = v.toBitVec.toNat % 256 ∧ ∀ j, j ≠ n → zi σ' c j = zi σ c j := by
  have hne := h.ne
  obtain ⟨h1, h2, h3, h4, h5, h6, h7⟩ := h
  have hnt : (nI n).toInt = (n : Int) := zt_nI (by omega)
  have hNt : (nI N).toInt = (N : Int) := zt_nI (by omega)
  refine ⟨zuI (zuI σ c n ((v.toInt8.toInt32).toInt8.toInt32)) b 1 (nI n + 1), ?_, (zsm.rf.uI (Or.inr rfl)).uI (Or.inl rfl), ⟨h1, h2, h3, h4, ?_, hn, h7⟩, ?_, fun j hj => ?_⟩
  · unfold fX1_add
    simp only [oGI, oGR, oR, oLn, oSt, oPI, zk_uI, zr_uI, zi_uI, h1, h2, h3, h4, h5, zle, hnt, hNt, zt0', znat, ↓reduceIte]
    rw [if_neg (by omega), if_pos ⟨trivial, by omega, by omega⟩, if_neg (fun q => hne q.1.symm)]
    rfl
  · rw [zi_uI, if_pos ⟨rfl, rfl⟩, nI_1]
  · unfold zby
    rw [zi_uI, if_neg (fun q => hne q.1), zi_uI, if_pos ⟨rfl, rfl⟩, zb_narrow, zb_narrow]
  · rw [zi_uI, if_neg (fun q => hne q.1), zi_uI, if_neg (fun q => hj q.2)]
end PBYTES
