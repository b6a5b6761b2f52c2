/-! lists of bytes; numbers; Bits -/
def BL (σ : zS) (b c N : Nat) (l : List Nat) : Prop := BY σ b c N l.length ∧ ∀ j, j < l.length → zby σ c j = l.getD j 0
section PBL
variable {σ : zS} {b c N : Nat} {l : List Nat}
theorem BL.of {σ' : zS} {S : Nat → Prop} (h : BL σ b c N l) (hs : zsm S σ σ') (hb : ¬ S b) (hc : ¬ S c) : BL σ' b c N l := ⟨h.1.of hs hb, fun j hj => by rw [zby_of hs hc]; exact h.2 j hj⟩
theorem BL.lt (h : BL σ b c N l) {j : Nat} (hj : j < l.length) : l.getD j 0 < 256 := by rw [← h.2 j hj]; exact zby_lt _ _ _
theorem zgetD_app {l m : List Nat} {j : Nat} (h : j < l.length) : (l ++ m).getD j 0 = l.getD j 0 := by
  rw [List.getD_eq_getElem?_getD, List.getD_eq_getElem?_getD, List.getElem?_append_left h]
theorem zgetD_end {l : List Nat} {x : Nat} : (l ++ [x]).getD l.length 0 = x := by
  rw [List.getD_eq_getElem?_getD, List.getElem?_append_right (Nat.le_refl _)]
  simp
theorem s_addL (h : BL σ b c N l) (v : Int32) (hn : l.length < N) : ∃ σ', fX1_add σ b v = some σ' ∧ zsm (fun a => a = b ∨ a = c) σ σ' ∧ BL σ' b c N (l ++ [v.toBitVec.toNat % 256]) := by
  obtain ⟨σ', e, hs, hB, hv, hk⟩ := s_add h.1 v hn
  refine ⟨σ', e, hs, ?_, ?_⟩
  · rw [List.length_append]; exact hB
  · intro j hj
    rw [List.length_append, List.length_singleton] at hj
    by_cases e : j = l.length
    · subst e; rw [hv, zgetD_end]
    · rw [zgetD_app (by omega), ← h.2 j (by omega)]
      unfold zby
      rw [hk j e]
theorem s_clearL (h : BL σ b c N l) : fX1_clear σ b = some (zuI σ b 1 0) ∧ BL (zuI σ b 1 0) b c N [] ∧ zsm (fun a => a = b) σ (zuI σ b 1 0) := ⟨s_clear h.1, ⟨h.1.clear, fun j hj => absurd hj (Nat.not_lt_zero j)⟩, zsm.rf.uI rfl⟩
/-- a number's four bytes -/
def zb4 (v : Int32) : List Nat := [v.toBitVec.toNat / 16777216 % 256, v.toBitVec.toNat / 65536 % 256, v.toBitVec.toNat / 256 % 256, v.toBitVec.toNat % 256]
theorem s_addNumberL (h : BL σ b c N l) (v : Int32) (hn : l.length + 4 ≤ N) : ∃ σ', fX1_addNumber σ b v = some σ' ∧ zsm (fun a => a = b ∨ a = c) σ σ' ∧ BL σ' b c N (l ++ zb4 v) := by
  obtain ⟨σ1, e1, s1, h1⟩ := s_addL h ((v.toUInt32 >>> ((24 : Int32).toUInt32 &&& Int32.toUInt32 31)).toInt32) (by omega)
  obtain ⟨σ2, e2, s2, h2⟩ := s_addL h1 ((v.toUInt32 >>> ((16 : Int32).toUInt32 &&& Int32.toUInt32 31)).toInt32) (by simp; omega)
  obtain ⟨σ3, e3, s3, h3⟩ := s_addL h2 ((v.toUInt32 >>> ((8 : Int32).toUInt32 &&& Int32.toUInt32 31)).toInt32) (by simp; omega)
  obtain ⟨σ4, e4, s4, h4⟩ := s_addL h3 v (by simp; omega)
  refine ⟨σ4, ?_, ((s1.trans s2).trans s3).trans s4, ?_⟩
  · unfold fX1_addNumber
    simp only [oA, oB, h.1.1, h1.1.1, h2.1.1, h3.1.1, e1, e2, e3, e4, ↓reduceIte]
  · have q1 := zushrX v (k := 24) (by decide)
    have q2 := zushrX v (k := 16) (by decide)
    have q3 := zushrX v (k := 8) (by decide)
    simp only [Nat.reducePow] at q1 q2 q3
    have q1' : ((v.toUInt32 >>> ((24 : Int32).toUInt32 &&& Int32.toUInt32 31)).toInt32).toBitVec.toNat = v.toBitVec.toNat / 16777216 := q1
    have q2' : ((v.toUInt32 >>> ((16 : Int32).toUInt32 &&& Int32.toUInt32 31)).toInt32).toBitVec.toNat = v.toBitVec.toNat / 65536 := q2
    have q3' : ((v.toUInt32 >>> ((8 : Int32).toUInt32 &&& Int32.toUInt32 31)).toInt32).toBitVec.toNat = v.toBitVec.toNat / 256 := q3
    rw [q1', q2', q3'] at h4
    simpa [zb4, List.append_assoc] using h4
theorem s_number {n i : Nat} (h : BY σ b c N n) (hi : i + 4 ≤ n) : fX1_number σ b (nI i) = some (nI (zn4 (zby σ c) i)) := by
  obtain ⟨h1, h2, h3, h4, h5, h6, h7⟩ := h
  have hn : (nI n).toInt = (n : Int) := zt_nI (by omega)
  have hit : (nI i).toInt = (i : Int) := zt_nI (by omega)
  have a1 : nI i + 1 = nI (i + 1) := nI_add i 1
  have a2 : nI i + 2 = nI (i + 2) := nI_add i 2
  have a3 : nI i + 3 = nI (i + 3) := nI_add i 3
  have t4 : (4 : Int32).toInt = 4 := by decide
  have b1 : (nI (i + 1)).toInt = ((i + 1 : Nat) : Int) := zt_nI (by omega)
  have b2 : (nI (i + 2)).toInt = ((i + 2 : Nat) : Int) := zt_nI (by omega)
  have b3 : (nI (i + 3)).toInt = ((i + 3 : Nat) : Int) := zt_nI (by omega)
  have t5 : (nI n - 4).toInt = (n : Int) - 4 := by rw [zt_sub (by rw [hn, t4]; omega) (by rw [hn, t4]; omega), hn, t4]
  unfold fX1_number
  simp only [oGI, oGR, oR, oLd, h1, h2, h3, h4, h5, a1, a2, a3, zle, zlt, zt0', hit, t5, b1, b2, b3, znat, ↓reduceIte, Int.toNat_natCast]
  rw [if_neg (by omega), if_pos (by omega), if_pos ⟨trivial, by omega, by omega⟩, if_pos ⟨trivial, by omega, by omega⟩, if_pos ⟨trivial, by omega, by omega⟩, if_pos ⟨trivial, by omega, by omega⟩]
  simp only [zby_and]
  rw [znum4 (zby_lt _ _ _) (zby_lt _ _ _) (zby_lt _ _ _) (zby_lt _ _ _)]
  rfl
/-- a number that is not there -/
theorem s_numberN {n : Nat} (h : BY σ b c N n) {i : Int32} (hi : i.toInt < 0 ∨ (n : Int) - 4 < i.toInt) : fX1_number σ b i = some (-1) := by
  obtain ⟨h1, h2, h3, h4, h5, h6, h7⟩ := h
  have hn : (nI n).toInt = (n : Int) := zt_nI (by omega)
  have t4 : (4 : Int32).toInt = 4 := by decide
  have t5 : (nI n - 4).toInt = (n : Int) - 4 := by rw [zt_sub (by rw [hn, t4]; omega) (by rw [hn, t4]; omega), hn, t4]
  unfold fX1_number
  simp only [oGI, h1, h5, zle, zlt, zt0', t5, ↓reduceIte]
  by_cases q : i.toInt < 0
  · rw [if_pos q]
  · rw [if_neg q, if_neg (by omega)]
end PBL
/-- bit k of a row of bytes; the number of m bits from pos on -/
def bitS (p : Nat → Nat) (k : Nat) : Nat := p (k / 8) / 2 ^ (k % 8) % 2
def numS (p : Nat → Nat) (pos : Nat) : Nat → Nat
  | 0 => 0
  | m + 1 => numS p pos m + bitS p (pos + m) * 2 ^ m
theorem bitS_lt (p : Nat → Nat) (k : Nat) : bitS p k < 2 := Nat.mod_lt _ (by decide)
theorem numS_lt (p : Nat → Nat) (pos : Nat) : ∀ m, numS p pos m < 2 ^ m
  | 0 => by simp [numS]
  | m + 1 => by
    have h1 := numS_lt p pos m
    have h2 := bitS_lt p (pos + m)
    rw [numS, Nat.pow_succ]
    rcases (show bitS p (pos + m) = 0 ∨ bitS p (pos + m) = 1 by omega) with e | e <;> rw [e] <;> omega
/-- Bits: the object t over the bytes of b, c -/
def BT (σ : zS) (t b c N n pos : Nat) : Prop := zk σ t = 1 ∧ zr σ t 0 = some b ∧ BY σ b c N n ∧ zi σ t 1 = nI pos ∧ pos ≤ 8 * n
section PBT
variable {σ : zS} {t b c N n pos : Nat}
theorem BT.ne (h : BT σ t b c N n pos) : t ≠ b ∧ t ≠ c := by
  obtain ⟨h1, -, ⟨h2, -, h3, -⟩, -⟩ := h
  exact ⟨fun e => by rw [e, h2] at h1; exact absurd h1 (by decide), fun e => by rw [e, h3] at h1; exact absurd h1 (by decide)⟩
theorem BT.set (h : BT σ t b c N n pos) {q : Nat} (hq : q ≤ 8 * n) : BT (zuI σ t 1 (nI q)) t b c N n q := by
  have hne := h.ne
  obtain ⟨h1, h2, h3, h4, h5⟩ := h
  exact ⟨h1, h2, h3.of (S := fun a => a = t) (zsm.rf.uI rfl) (fun e => hne.1 e.symm), by rw [zi_uI, if_pos ⟨rfl, rfl⟩], hq⟩
theorem zby_uI {a k c j : Nat} {v : Int32} (h : c ≠ a) : zby (zuI σ a k v) c j = zby σ c j := by
  unfold zby
  rw [zi_uI, if_neg (fun q => h q.1)]
/-- one bit, at place k -/
theorem zbitAt (h : BT σ t b c N n pos) {k : Nat} (hk : k < 8 * n) : (zi σ c (k / 8) >>> ((nI k &&& 7) &&& 31)) &&& 1 = nI (bitS (zby σ c) k) := by
  obtain ⟨-, -, ⟨-, -, -, -, -, h6, h7⟩, -⟩ := h
  have e1 : nI k &&& 7 = nI (k % 8) := pk_andN (by omega) 3 (by decide)
  rw [e1, zbit _ (by omega)]
  rfl
theorem s_take (h : BT σ t b c N n pos) {m : Nat} (hm : m ≤ 16) : fX0_take σ t (nI m) = some (if pos + m ≤ 8 * n then (nI (numS (zby σ c) pos m), zuI σ t 1 (nI (pos + m))) else (-1, σ)) := by
  have hne := h.ne
  obtain ⟨h1, h2, ⟨g1, g2, g3, g4, g5, g6, g7⟩, h4, h5⟩ := id h
  have hn : (nI n).toInt = (n : Int) := zt_nI (by omega)
  have hp : (nI pos).toInt = (pos : Int) := zt_nI (by omega)
  have hmt : (nI m).toInt = (m : Int) := zt_nI (by omega)
  have t8 : (8 : Int32).toInt = 8 := by decide
  have e8 : (nI n * 8 - nI pos).toInt = (n : Int) * 8 - pos := by
    have : (nI n * 8).toInt = (n : Int) * 8 := by rw [zt_mul (by rw [hn, t8]; omega) (by rw [hn, t8]; omega), hn, t8]
    rw [zt_sub (by rw [this, hp]; omega) (by rw [this, hp]; omega), this, hp]
  unfold fX0_take
  simp only [oGI, oGR, oR, h1, h2, g1, g5, h4, zle, hmt, e8, ↓reduceIte]
  by_cases hc : pos + m ≤ 8 * n
  · rw [if_pos (by omega), if_pos hc]
    have hl : zloop zF (fun x => bX0_take_25 t (nI m) x.1 x.2.1 x.2.2) (0, 0, σ) = some (nI (numS (zby σ c) pos m), zuI σ t 1 (nI (pos + m))) := by
      have hz : ((0 : Int32), (0 : Int32), σ) = (fun k => (nI (numS (zby σ c) pos k), nI k, zuI σ t 1 (nI (pos + k)))) 0 := by
        simp only [numS, nI_0, Nat.add_zero]
        rw [zuI_self h4]
      rw [hz]
      refine zloop_seq (fun k => (nI (numS (zby σ c) pos k), nI k, zuI σ t 1 (nI (pos + k)))) m (fun k hk => ?_) ?_ zF (by unfold zF; omega)
      · have hk1 : (nI k).toInt = (k : Int) := zt_nI (by omega)
        have hpk : (nI (pos + k)).toInt = ((pos + k : Nat) : Int) := zt_nI (by omega)
        have hsh : nI (pos + k) >>> ((3 : Int32) &&& 31) = nI ((pos + k) / 8) := zshr (k := 3) (by decide) (by omega)
        have hix : (nI ((pos + k) / 8)).toInt = (((pos + k) / 8 : Nat) : Int) := zt_nI (by omega)
        have hb := zbitAt h (k := pos + k) (by omega)
        have hbl := bitS_lt (zby σ c) (pos + k)
        have hnl := numS_lt (zby σ c) pos k
        have hpw : 2 ^ k ≤ 2 ^ 16 := Nat.pow_le_pow_right (by decide) (by omega)
        have hs2 : nI (bitS (zby σ c) (pos + k)) <<< (nI k &&& 31) = nI (bitS (zby σ c) (pos + k) * 2 ^ k) := zshl (by omega) (by
          rcases (show bitS (zby σ c) (pos + k) = 0 ∨ bitS (zby σ c) (pos + k) = 1 by omega) with e | e <;> rw [e] <;> omega)
        have ht : zi (zuI σ t 1 (nI (pos + k))) t 1 = nI (pos + k) := by rw [zi_uI, if_pos ⟨rfl, rfl⟩]
        have hcc : zi (zuI σ t 1 (nI (pos + k))) c ((pos + k) / 8) = zi σ c ((pos + k) / 8) := by rw [zi_uI, if_neg (fun q => hne.2 q.1.symm)]
        have a1 : nI (pos + k) + 1 = nI (pos + (k + 1)) := nI_1 (pos + k)
        have a2 : nI k + 1 = nI (k + 1) := nI_1 k
        unfold bX0_take_25
        simp only [oGI, oGR, oR, oLd, oL, oPI, zk_uI, zr_uI, zn_uI, h1, h2, g1, g2, g3, g4, ht, hsh, zle, hmt, hk1, zt0', hix, znat, Int.toNat_natCast, hcc, hb, hs2, zor, a1, a2, zuI_uI, ↓reduceIte]
        rw [if_neg (by omega), if_pos ⟨trivial, by omega, by omega⟩, numS, zor_add hnl]
      · have hmm : ¬ ((m : Int) < m) := by omega
        unfold bX0_take_25
        simp only [zle, Int.le_refl, ↓reduceIte]
    simp only [oB, hl]
  · rw [if_neg (by omega), if_neg hc]
theorem s_skip (h : BT σ t b c N n pos) : fX0_skipToByte σ t = some (zuI σ t 1 (nI ((pos + 7) / 8 * 8))) ∧ (pos + 7) / 8 * 8 ≤ 8 * n := by
  obtain ⟨h1, h2, ⟨g1, g2, g3, g4, g5, g6, g7⟩, h4, h5⟩ := h
  have e1 : nI pos + 7 = nI (pos + 7) := nI_add pos 7
  have e2 : nI (pos + 7) / 8 = nI ((pos + 7) / 8) := pk_div (by omega) (by decide) (by decide)
  have e3 : nI ((pos + 7) / 8) * 8 = nI ((pos + 7) / 8 * 8) := pk_mul _ 8
  unfold fX0_skipToByte
  simp only [oGI, oPI, h1, h4, e1, e2, e3, ↓reduceIte]
  exact ⟨trivial, by omega⟩
end PBT
