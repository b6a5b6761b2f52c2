/-! the reference's codes -/
theorem zite_iff {α : Type} {P Q : Prop} [Decidable P] [Decidable Q] {a b : α} (h : P ↔ Q) : (if P then a else b) = if Q then a else b := by
  by_cases q : P
  · rw [if_pos q, if_pos (h.mp q)]
  · rw [if_neg q, if_neg (fun z => q (h.mpr z))]
def roomS (len : Nat → Nat) (M : Nat) : Nat → Nat
  | 0 => 0
  | l + 1 => roomS len M l + cntS len M (l + 1) * 2 ^ (14 - l)
section PMAKE
variable {len : Nat → Nat} {M : Nat}
theorem left_room : ∀ l, l ≤ 15 → leftS len M l * 2 ^ (15 - l) + (roomS len M l : Int) = 32768
  | 0, _ => by simp [leftS, roomS]
  | l + 1, h => by
    have ih := left_room l (by omega)
    rw [leftS, roomS]
    have e1 : 15 - l = (14 - l) + 1 := by omega
    have e2 : 15 - (l + 1) = 14 - l := by omega
    rw [e1, Int.pow_succ] at ih
    rw [e2]
    push_cast
    rw [Int.sub_mul]
    have e3 : leftS len M l * 2 * 2 ^ (14 - l) = leftS len M l * (2 ^ (14 - l) * 2) := by rw [Int.mul_assoc, Int.mul_comm 2]
    rw [e3]
    omega
theorem stS_key (L : Nat) : stS len (M + 1) L = stS len M L + (if 0 < len M ∧ len M < L then 1 else 0) := by
  induction L with
  | zero => simp [stS]
  | succ L ihL =>
    rw [stS, stS, ihL, cntS]
    by_cases e0 : L = 0
    · subst e0
      simp only [↓reduceIte]
      rw [if_neg (by omega), if_neg (by omega)]
    · simp only [e0, ↓reduceIte]
      by_cases e1 : len M = L
      · rw [if_neg (by omega), if_pos e1, if_pos (by omega)]; omega
      · rw [if_neg e1]
        by_cases e2 : 0 < len M ∧ len M < L
        · rw [if_pos e2, if_pos (by omega)]; omega
        · rw [if_neg e2, if_neg (by omega)]; omega
theorem stS_all : ∀ M, (∀ j, j < M → len j ≤ 15) → stS len M 16 + cntS len M 0 = M
  | 0, _ => by simp [stS, cntS]
  | M + 1, h => by
    have ih := stS_all M (fun j hj => h j (by omega))
    have h1 := h M (by omega)
    rw [stS_key, cntS]
    by_cases e : len M = 0
    · rw [if_neg (by omega), if_pos e]; omega
    · rw [if_pos (by omega), if_neg e]; omega
theorem room_le : ∀ l, l ≤ 14 → roomS len M (l + 1) + 8192 * cntS len M 1 ≤ 16384 * cntS len M 1 + 8192 * stS len M (l + 2) ∧ 16384 * cntS len M 1 ≤ roomS len M (l + 1)
  | 0, _ => by
    have : stS len M 2 = cntS len M 1 := by simp [stS]
    rw [this, roomS, roomS]
    simp only [Nat.zero_add, Nat.sub_zero, Nat.reducePow]
    omega
  | l + 1, h => by
    obtain ⟨i1, i2⟩ := room_le l (by omega)
    rw [roomS, stS, if_neg (by omega)]
    have hp : 2 ^ (14 - (l + 1)) ≤ 2 ^ 13 := Nat.pow_le_pow_right (by decide) (by omega)
    have hm : cntS len M (l + 1 + 1) * 2 ^ (14 - (l + 1)) ≤ cntS len M (l + 1 + 1) * 2 ^ 13 := Nat.mul_le_mul_left _ hp
    simp only [Nat.reducePow] at hm
    have e : l + 1 + 1 = l + 2 := rfl
    rw [e] at hm ⊢
    omega
/-- a lone code of one bit, or none: as the class and as the reference say it -/
theorem few_room (hl : ∀ j, j < M → len j ≤ 15) : (stS len M 16 = M - cntS len M 0) ∧ ((stS len M 16 = 1 ∧ roomS len M 15 = 16384) ↔ (M - cntS len M 0 = 1 ∧ cntS len M 1 = 1)) ∧ ((stS len M 16 = 0 ∨ (M - cntS len M 0 = 1 ∧ cntS len M 1 = 1)) → 0 < leftS len M 15) ∧ (roomS len M 15 = 32768 ↔ leftS len M 15 = 0) := by
  have h1 := stS_all M hl
  obtain ⟨i1, i2⟩ := room_le (len := len) (M := M) 14 (by decide)
  have h2 := left_room (len := len) (M := M) 15 (by decide)
  have h3 : stS len M 2 ≤ stS len M 16 := stS_mono (by decide)
  have h4 : stS len M 2 = cntS len M 1 := by simp [stS]
  have e16 : 14 + 2 = 16 := rfl
  have e15 : 14 + 1 = 15 := rfl
  rw [e16, e15] at i1
  rw [e15] at i2
  simp only [Nat.sub_self, Int.pow_zero, Int.mul_one] at h2
  omega
theorem fcS_le : ∀ l, fcS len M l + 2 * M ≤ M * 2 ^ (l + 1)
  | 0 => by simp [fcS]; omega
  | l + 1 => by
    have ih := fcS_le l
    have hc : cntS len M l ≤ M := cntS_le _ _
    rw [fcS, Nat.pow_succ 2 (l + 1), ← Nat.mul_assoc]
    split <;> omega
theorem fcS_lt (hM : M ≤ 288) {l : Nat} (hl : l ≤ 16) : fcS len M l < 37748736 := by
  have h1 := fcS_le (len := len) (M := M) l
  have hp : 2 ^ (l + 1) ≤ 2 ^ 17 := Nat.pow_le_pow_right (by decide) (by omega)
  have h2 : M * 2 ^ (l + 1) ≤ 288 * 2 ^ 17 := Nat.mul_le_mul hM hp
  simp only [Nat.reducePow, Nat.reduceMul] at h2
  rcases Nat.eq_zero_or_pos M with e | e
  · subst e; omega
  · omega
theorem roomS_le (hM : M ≤ 288) {l : Nat} (hl : l ≤ 15) : roomS len M l ≤ 16384 * M := by
  have key : ∀ l, roomS len M l ≤ 16384 * stS len M (l + 1) := fun l => by
    induction l with
    | zero => simp [roomS]
    | succ l ih =>
      have hp : 2 ^ (14 - l) ≤ 2 ^ 14 := Nat.pow_le_pow_right (by decide) (by omega)
      have hm : cntS len M (l + 1) * 2 ^ (14 - l) ≤ cntS len M (l + 1) * 2 ^ 14 := Nat.mul_le_mul_left _ hp
      simp only [Nat.reducePow] at hm
      rw [roomS, stS, if_neg (by omega)]
      omega
  have h1 := key l
  have h2 : stS len M (l + 1) ≤ M := stS_le _ _
  omega
def zCL (σ : zS) (B : Nat → Nat) (fr : Nat) (len : Nat → Nat) (M : Nat) : Prop := ∀ j, j < M → len j ≤ 15 ∧ zi σ (B 10) (fr + j) = nI (len j)
def zCM (σ : zS) (B : Nat → Nat) (fr : Nat) (len : Nat → Nat) (M : Nat) : Prop := zCL σ B fr len M ∧ ∀ j, j < M → len j ≠ 0 → zi σ (B 11) (fr + j) = nI (fcS len M (len j) + cntS len j (len j))
variable {σ : zS} {B : Nat → Nat} {pk out : List Nat} {pos fr : Nat}
/-- one length's turn -/
theorem m_make1 (h : zML σ B) (hM : M ≤ 288) (hfr : fr + M ≤ 380) (hl : zCL σ B fr len M) {l C Mn R : Nat} {lk : Int32} (hl1 : 1 ≤ l) (hl15 : l ≤ 15) (hC : C < 100000000) (hMn : Mn < 100000000) (hR : R < 100000000) :
    ∃ s, zloop zF (fun x => bX12_makeCodes_28 (B 0) (nI fr) (nI M) lk (nI l) x.1 x.2.1 x.2.2.1 x.2.2.2.1 x.2.2.2.2) (nI C, nI Mn, nI R, nI fr, σ) = some (nI (C + cntS len M l), nI (Mn + cntS len M l), nI (R + cntS len M l * 2 ^ (15 - l)), s) ∧ zsm (fun a => a = B 11) σ s ∧ (∀ j, j < M → len j = l → zi s (B 11) (fr + j) = nI (C + cntS len j l)) ∧ ∀ j, (∀ t, t < M → len t = l → j ≠ fr + t) → zi s (B 11) j = zi σ (B 11) j := by
  obtain ⟨l0, k0, -, -, -, -, -, -, -, -, -, r10, r11, -, -, -, -, -, -, -, -, -, ⟨k10, n10⟩, ⟨k11, n11⟩⟩ := id h
  have n01 : B 10 ≠ B 11 := h.ne 10 11
  have afr : nI fr + nI M = nI (fr + M) := nI_add _ _
  obtain ⟨b, e, hb⟩ := zloop_cnt (body := fun x => bX12_makeCodes_28 (B 0) (nI fr) (nI M) lk (nI l) x.1 x.2.1 x.2.2.1 x.2.2.2.1 x.2.2.2.2)
    (fun i x => x.1 = nI (C + cntS len i l) ∧ x.2.1 = nI (Mn + cntS len i l) ∧ x.2.2.1 = nI (R + cntS len i l * 2 ^ (15 - l)) ∧ x.2.2.2.1 = nI (fr + i) ∧ zsm (fun a => a = B 11) σ x.2.2.2.2 ∧ (∀ j, j < i → len j = l → zi x.2.2.2.2 (B 11) (fr + j) = nI (C + cntS len j l)) ∧ ∀ j, (∀ t, t < i → len t = l → j ≠ fr + t) → zi x.2.2.2.2 (B 11) j = zi σ (B 11) j) M
    (fun b => b.1 = nI (C + cntS len M l) ∧ b.2.1 = nI (Mn + cntS len M l) ∧ b.2.2.1 = nI (R + cntS len M l * 2 ^ (15 - l)) ∧ zsm (fun a => a = B 11) σ b.2.2.2 ∧ (∀ j, j < M → len j = l → zi b.2.2.2 (B 11) (fr + j) = nI (C + cntS len j l)) ∧ ∀ j, (∀ t, t < M → len t = l → j ≠ fr + t) → zi b.2.2.2 (B 11) j = zi σ (B 11) j)
    (fun i x hi hx => by
      obtain ⟨y1, y2, y3, y4, s⟩ := x
      obtain ⟨x1, x2, x3, x4, x5, x6, x7⟩ := hx
      dsimp only at x1 x2 x3 x4 x5 x6 x7
      subst x1
      subst x2
      subst x3
      subst x4
      obtain ⟨u1, u2⟩ := hl i hi
      have hci : cntS len i l ≤ i := cntS_le _ _
      have v1 : zi s (B 10) (fr + i) = nI (len i) := by rw [x5.i n01]; exact u2
      have c1 : ¬ nI (fr + M) ≤ nI (fr + i) := by rw [nI_leI (by omega) (by omega)]; omega
      have c2 : nI (len i) = nI l ↔ len i = l := nI_eq (by omega) (by omega)
      have ti : (nI (fr + i)).toInt = ((fr + i : Nat) : Int) := zt_nI (by omega)
      have hin : (0 : Int32) ≤ nI (fr + i) ∧ (nI (fr + i)).toNatClampNeg < 380 := ⟨by rw [zle, zt0', ti]; omega, by rw [znat, ti, Int.toNat_natCast]; omega⟩
      have hval : (nI (fr + i)).toNatClampNeg = fr + i := by rw [znat, ti, Int.toNat_natCast]
      have hlt : fr + i < 380 := by omega
      have a4 : nI (fr + i) + 1 = nI (fr + (i + 1)) := nI_1 (fr + i)
      by_cases q : len i = l
      · have a1 : nI (C + cntS len i l) + 1 = nI (C + cntS len (i + 1) l) := by rw [nI_1, cntS, if_pos q]; rfl
        have a2 : nI (Mn + cntS len i l) + 1 = nI (Mn + cntS len (i + 1) l) := by rw [nI_1, cntS, if_pos q]; rfl
        have s15 : (15 : Int32) - nI l = nI (15 - l) := pk_sub (a := 15) (by omega)
        have hp : 2 ^ (15 - l) ≤ 2 ^ 14 := Nat.pow_le_pow_right (by decide) (by omega)
        have sh : (1 : Int32) <<< (nI (15 - l) &&& 31) = nI (2 ^ (15 - l)) := by
          have := zshl (n := 1) (k := 15 - l) (by omega) (by omega)
          rw [Nat.one_mul] at this
          exact this
        have a3 : nI (R + cntS len i l * 2 ^ (15 - l)) + nI (2 ^ (15 - l)) = nI (R + cntS len (i + 1) l * 2 ^ (15 - l)) := by rw [nI_add, cntS, if_pos q, Nat.add_mul, Nat.one_mul, Nat.add_assoc]
        refine Or.inl ⟨(nI (C + cntS len (i + 1) l), nI (Mn + cntS len (i + 1) l), nI (R + cntS len (i + 1) l * 2 ^ (15 - l)), nI (fr + (i + 1)), zuI s (B 11) (fr + i) (nI (C + cntS len i l))), ?_, rfl, rfl, rfl, rfl, x5.uI rfl, fun j hj hjl => ?_, fun j hj => ?_⟩
        · unfold bX12_makeCodes_28 fX12_makeCodes_75
          simp only [oGR, oR, oLd, oSt, oL, x5.k, x5.n, x5.r, k0, r10, r11, k10, n10, k11, n11, afr, c1, hin.1, hlt, hval, v1, c2, q, a1, a2, s15, sh, a3, a4, and_self, ↓reduceIte]
        · rw [zi_uI]
          by_cases z : j = i
          · rw [if_pos ⟨rfl, by omega⟩, z]
          · rw [if_neg (fun w => by omega)]; exact x6 j (by omega) hjl
        · rw [zi_uI, if_neg (fun w => hj i (by omega) q w.2)]
          exact x7 j (fun t ht htl => hj t (by omega) htl)
      · refine Or.inl ⟨(nI (C + cntS len (i + 1) l), nI (Mn + cntS len (i + 1) l), nI (R + cntS len (i + 1) l * 2 ^ (15 - l)), nI (fr + (i + 1)), s), ?_, rfl, rfl, rfl, rfl, x5, fun j hj hjl => ?_, fun j hj => x7 j (fun t ht htl => hj t (by omega) htl)⟩
        · unfold bX12_makeCodes_28 fX12_makeCodes_75
          simp only [oGR, oR, oLd, oSt, oL, x5.k, x5.n, x5.r, k0, r10, k10, n10, afr, c1, hin.1, hlt, hval, v1, c2, q, a4, and_self, ↓reduceIte, cntS, Nat.add_zero]
        · have : j ≠ i := fun z => q (by rw [← z]; exact hjl)
          exact x6 j (by omega) hjl)
    (fun x hx => by
      obtain ⟨y1, y2, y3, y4, s⟩ := x
      obtain ⟨x1, x2, x3, x4, x5, x6, x7⟩ := hx
      dsimp only at x1 x2 x3 x4 x5 x6 x7
      subst x4
      refine ⟨(y1, y2, y3, s), ?_, x1, x2, x3, x5, x6, x7⟩
      unfold bX12_makeCodes_28
      simp only [afr, zle, Int.le_refl, ↓reduceIte]) zF (nI C, nI Mn, nI R, nI fr, σ) ⟨by simp [cntS], by simp [cntS], by simp [cntS], rfl, zsm.rf, fun j hj => absurd hj (Nat.not_lt_zero j), fun j _ => rfl⟩ (by unfold zF; omega)
  obtain ⟨b1, b2, b3, s⟩ := b
  obtain ⟨h1, h2, h3, h4, h5, h6⟩ := hb
  dsimp only at h1 h2 h3 h4 h5 h6
  subst h1
  subst h2
  subst h3
  exact ⟨s, e, h4, h5, h6⟩
theorem m_make (h : zMQ σ B pk out pos) {lk : Int32} (hlk : lk = 0 ∨ lk = 1) (hM : M ≤ 288) (hfr : fr + M ≤ 380) (hl : zCL σ B fr len M) (hb : zi σ (B 0) 18 = 0 ∨ zi σ (B 0) 18 = 1) :
    ∃ s, fX12_makeCodes σ (B 0) (nI fr) (nI M) lk = some s ∧ zsm (fun a => a = B 0 ∨ a = B 11) σ s ∧ (∀ j, j ≠ 18 → zi s (B 0) j = zi σ (B 0) j) ∧ (∀ j, (j < fr ∨ fr + M ≤ j) → zi s (B 11) j = zi σ (B 11) j) ∧ zMQ s B pk out pos ∧ zCM s B fr len M ∧
      ((zi s (B 0) 18 = 0 ∧ zi σ (B 0) 18 = 0 ∧ (leftS len M 15 = 0 ∨ (lk = 1 ∧ (M - cntS len M 0 = 0 ∨ (M - cntS len M 0 = 1 ∧ cntS len M 1 = 1))))) ∨ (zi s (B 0) 18 = 1 ∧ ¬ (zi σ (B 0) 18 = 0 ∧ (leftS len M 15 = 0 ∨ (lk = 1 ∧ (M - cntS len M 0 = 0 ∨ (M - cntS len M 0 = 1 ∧ cntS len M 1 = 1))))))) := by
  have k0 : zk σ (B 0) = 12 := h.1.2.1
  have n01 : B 10 ≠ B 11 := h.1.ne 10 11
  have n00 : B 0 ≠ B 11 := h.1.ne 0 11
  obtain ⟨b, e, hbb⟩ := zloop_cnt (body := fun x => bX12_makeCodes_12 (B 0) (nI fr) (nI M) lk x.1 x.2.1 x.2.2.1 x.2.2.2.1 x.2.2.2.2)
    (fun i x => (∃ C, x.1 = nI C ∧ 2 * C = fcS len M (i + 1)) ∧ x.2.1 = nI (stS len M (i + 1)) ∧ x.2.2.1 = nI (roomS len M i) ∧ x.2.2.2.1 = nI (i + 1) ∧ zsm (fun a => a = B 11) σ x.2.2.2.2 ∧ (∀ j, j < M → len j ≠ 0 → len j ≤ i → zi x.2.2.2.2 (B 11) (fr + j) = nI (fcS len M (len j) + cntS len j (len j))) ∧ ∀ j, (j < fr ∨ fr + M ≤ j) → zi x.2.2.2.2 (B 11) j = zi σ (B 11) j) 15
    (fun b => b.1 = nI (stS len M 16) ∧ b.2.1 = nI (roomS len M 15) ∧ zsm (fun a => a = B 11) σ b.2.2 ∧ (∀ j, j < M → len j ≠ 0 → zi b.2.2 (B 11) (fr + j) = nI (fcS len M (len j) + cntS len j (len j))) ∧ ∀ j, (j < fr ∨ fr + M ≤ j) → zi b.2.2 (B 11) j = zi σ (B 11) j)
    (fun i x hi hx => by
      obtain ⟨y1, y2, y3, y4, s⟩ := x
      obtain ⟨⟨C, x1, xC⟩, x2, x3, x4, x5, x6, x7⟩ := hx
      dsimp only at x1 x2 x3 x4 x5 x6 x7
      subst x1
      subst x2
      subst x3
      subst x4
      have hls : zCL s B fr len M := fun j hj => ⟨(hl j hj).1, by rw [x5.i n01]; exact (hl j hj).2⟩
      have b1 := fcS_lt (len := len) hM (l := i + 1) (by omega)
      have b2 : stS len M (i + 1) ≤ M := stS_le _ _
      have b3 := roomS_le (len := len) hM (l := i) (by omega)
      obtain ⟨s', e', m', f', g'⟩ := m_make1 (h.1.of x5) hM hfr hls (l := i + 1) (C := 2 * C) (Mn := stS len M (i + 1)) (R := roomS len M i) (lk := lk) (by omega) (by omega) (by omega) (by omega) (by omega)
      have d2 : (2 : Int32) * nI C = nI (2 * C) := pk_mul 2 C
      have c16 : ¬ (16 : Int32) ≤ nI (i + 1) := by
        have := nI_leI (a := 16) (b := i + 1) (by decide) (by omega)
        intro z
        have := this.mp z
        omega
      refine Or.inl ⟨(nI (2 * C + cntS len M (i + 1)), nI (stS len M (i + 1) + cntS len M (i + 1)), nI (roomS len M i + cntS len M (i + 1) * 2 ^ (15 - (i + 1))), nI (i + 1 + 1), s'), ?_, ⟨_, rfl, ?_⟩, ?_, ?_, rfl, x5.trans m', fun j hj h0 hle => ?_, fun j hj => ?_⟩
      · unfold bX12_makeCodes_12
        rw [if_neg c16, oL_eq, d2, oB_eq e']
        dsimp only
        rw [oL_eq, nI_1]
      · rw [xC, fcS.eq_def len M (i + 1 + 1)]
        simp only [Nat.add_eq_zero_iff, and_false, ↓reduceIte, Nat.succ_ne_zero, Nat.one_ne_zero]
      · show _ = nI (stS len M (i + 1 + 1))
        rw [stS.eq_def len M (i + 1 + 1)]
        simp only [Nat.add_eq_zero_iff, and_false, ↓reduceIte, Nat.succ_ne_zero, Nat.one_ne_zero]
      · show _ = nI (roomS len M (i + 1))
        rw [roomS, show 15 - (i + 1) = 14 - i by omega]
      · by_cases z : len j = i + 1
        · show zi s' (B 11) (fr + j) = _
          rw [f' j hj z, z, xC]
        · show zi s' (B 11) (fr + j) = _
          rw [g' (fr + j) (fun t ht htl w => z (by
            have : j = t := by omega
            rw [this]; exact htl))]
          exact x6 j hj h0 (by omega)
      · show zi s' (B 11) j = _
        rw [g' j (fun t ht _ => by omega)]
        exact x7 j hj)
    (fun x hx => by
      obtain ⟨y1, y2, y3, y4, s⟩ := x
      obtain ⟨-, x2, x3, x4, x5, x6, x7⟩ := hx
      dsimp only at x2 x3 x4 x5 x6 x7
      subst x4
      refine ⟨(y2, y3, s), ?_, x2, x3, x5, fun j hj h0 => x6 j hj h0 (hl j hj).1, x7⟩
      unfold bX12_makeCodes_12
      have hd : (16 : Int32) ≤ nI (15 + 1) := by decide
      rw [if_pos hd]) zF (0, 0, 0, 1, σ) ⟨⟨0, nI_0.symm, by simp [fcS]⟩, by simp [stS, nI_0], by simp [roomS, nI_0], rfl, zsm.rf, fun j hj h0 hle => absurd (Nat.le_zero.mp hle) h0, fun j _ => rfl⟩ (by unfold zF; omega)
  obtain ⟨v10, v11, s⟩ := b
  obtain ⟨h1, h2, h3, h4, h5⟩ := hbb
  dsimp only at h1 h2 h3 h4 h5
  subst h1
  subst h2
  obtain ⟨q1, q2, q3, q4⟩ := few_room (len := len) (M := M) (fun j hj => (hl j hj).1)
  have b2 : stS len M 16 ≤ M := stS_le _ _
  have b3 := roomS_le (len := len) hM (l := 15) (by omega)
  have c0 : nI (stS len M 16) = 0 ↔ stS len M 16 = 0 := nI_eq (b := 0) (by omega) (by decide)
  have c1 : nI (stS len M 16) = 1 ↔ stS len M 16 = 1 := nI_eq (b := 1) (by omega) (by decide)
  have c2 : nI (roomS len M 15) = 16384 ↔ roomS len M 15 = 16384 := nI_eq (b := 16384) (by omega) (by decide)
  have c3 : nI (roomS len M 15) = 32768 ↔ roomS len M 15 = 32768 := nI_eq (b := 32768) (by omega) (by decide)
  have i18 : zi s (B 0) 18 = zi σ (B 0) 18 := h3.i n00 18
  have hmk : ∀ v : Int32, v = 0 ∨ v = 1 → zsm (fun a => a = B 0 ∨ a = B 11) σ (zuI s (B 0) 18 v) ∧ (∀ j, j ≠ 18 → zi (zuI s (B 0) 18 v) (B 0) j = zi σ (B 0) j) ∧ (∀ j, (j < fr ∨ fr + M ≤ j) → zi (zuI s (B 0) 18 v) (B 11) j = zi σ (B 11) j) ∧ zMQ (zuI s (B 0) 18 v) B pk out pos ∧ zCM (zuI s (B 0) 18 v) B fr len M := fun v _ => by
    have ms : zsm (fun a => a = B 0 ∨ a = B 11) σ s := h3.mono (fun a z => Or.inr z)
    refine ⟨ms.uI (Or.inl rfl), fun j hj => by rw [zi_uI, if_neg (fun z => hj z.2)]; exact h3.i n00 j, fun j hj => by rw [zi_uI, if_neg (fun z => n00 z.1.symm)]; exact h5 j hj, (h.of h3 (fun j _ => h3.i n00 j) (h.1.ne 8 11) (h.1.ne 9 11)).bad, fun j hj => ⟨(hl j hj).1, ?_⟩, fun j hj h0 => ?_⟩
    · rw [zi_uI, if_neg (fun z => absurd z.1 (h.1.ne 10 0)), h3.i n01]; exact (hl j hj).2
    · rw [zi_uI, if_neg (fun z => n00 z.1.symm)]; exact h4 j hj h0
  have hfin : ∀ s0 : Int32, (s0 = 0 ∨ s0 = 1) → fX12_makeCodes_111 s (B 0) lk (nI (roomS len M 15)) s0 = some (zuI s (B 0) 18 (if zi σ (B 0) 18 = 0 ∧ (roomS len M 15 = 32768 ∨ (lk = 1 ∧ s0 = 1)) then 0 else 1)) := fun s0 hs0 => by
    unfold fX12_makeCodes_111 fX12_makeCodes_137 fX12_makeCodes_141 fX12_makeCodes_142
    have hz : ¬ ((0 : Int32) = 1) := by decide
    have hz' : ¬ ((1 : Int32) = 0) := by decide
    simp only [oGI, oPZ, h3.k, k0, i18, c3, hz, hz', or_true, or_false, true_or, and_self, and_true, ↓reduceIte]
    rcases hb with w1 | w1
    · by_cases w2 : roomS len M 15 = 32768
      · simp only [w1, w2, true_or, and_self, ↓reduceIte]
      · rcases hlk with w3 | w3 <;> rcases hs0 with w4 | w4 <;> simp only [w1, w2, w3, w4, hz, hz', false_or, and_self, and_false, false_and, ↓reduceIte]
    · simp only [w1, hz', false_and, ↓reduceIte]
  have hall : fX12_makeCodes σ (B 0) (nI fr) (nI M) lk = some (zuI s (B 0) 18 (if zi σ (B 0) 18 = 0 ∧ (leftS len M 15 = 0 ∨ (lk = 1 ∧ (M - cntS len M 0 = 0 ∨ (M - cntS len M 0 = 1 ∧ cntS len M 1 = 1)))) then 0 else 1)) := by
    unfold fX12_makeCodes
    rw [oB_eq e]
    dsimp only
    unfold fX12_makeCodes_106 fX12_makeCodes_110
    rw [hfin 1 (Or.inr rfl), hfin 0 (Or.inl rfl)]
    have hiff : (zi σ (B 0) 18 = 0 ∧ (roomS len M 15 = 32768 ∨ (lk = 1 ∧ (stS len M 16 = 0 ∨ (stS len M 16 = 1 ∧ roomS len M 15 = 16384))))) ↔ (zi σ (B 0) 18 = 0 ∧ (leftS len M 15 = 0 ∨ (lk = 1 ∧ (M - cntS len M 0 = 0 ∨ (M - cntS len M 0 = 1 ∧ cntS len M 1 = 1))))) := by rw [q4, q2, q1]
    rw [← zite_iff hiff]
    have hz : ¬ ((0 : Int32) = 1) := by decide
    simp only [c0, c1, c2, hz, and_false, or_false, and_true]
    by_cases w0 : stS len M 16 = 0
    · simp only [w0, true_or, and_true, ↓reduceIte]
    · by_cases w1 : stS len M 16 = 1
      · by_cases w2 : roomS len M 15 = 16384
        · simp only [w0, w1, w2, and_self, or_true, and_true, ↓reduceIte, show ¬ ((1 : Nat) = 0) from by decide]
        · simp only [w0, w1, w2, and_false, or_false, ↓reduceIte, show ¬ ((1 : Nat) = 0) from by decide]
      · simp only [w0, w1, false_and, or_false, and_false, ↓reduceIte]
  by_cases w : zi σ (B 0) 18 = 0 ∧ (leftS len M 15 = 0 ∨ (lk = 1 ∧ (M - cntS len M 0 = 0 ∨ (M - cntS len M 0 = 1 ∧ cntS len M 1 = 1))))
  · rw [if_pos w] at hall
    obtain ⟨g1, g2, g3, g4, g5⟩ := hmk 0 (Or.inl rfl)
    exact ⟨_, hall, g1, g2, g3, g4, g5, Or.inl ⟨by rw [zi_uI, if_pos ⟨rfl, rfl⟩], w⟩⟩
  · rw [if_neg w] at hall
    obtain ⟨g1, g2, g3, g4, g5⟩ := hmk 1 (Or.inr rfl)
    exact ⟨_, hall, g1, g2, g3, g4, g5, Or.inr ⟨by rw [zi_uI, if_pos ⟨rfl, rfl⟩], w⟩⟩
end PMAKE
