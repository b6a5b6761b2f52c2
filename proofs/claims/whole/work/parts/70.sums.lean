/-! the sums of chunks, on both sides -/
def crS (k : Int32) : Int32 := if (k &&& 1) = 0 then (k.toUInt32 >>> ((1 : Int32).toUInt32 &&& Int32.toUInt32 31)).toInt32 else ((k.toUInt32 >>> ((1 : Int32).toUInt32 &&& Int32.toUInt32 31)).toInt32) ^^^ (-306674912 : Int32)
def crI (k : Int32) : Nat → Int32
  | 0 => k
  | n + 1 => crS (crI k n)
def crN (x b : Int32) : Int32 := ((x.toUInt32 >>> ((8 : Int32).toUInt32 &&& Int32.toUInt32 31)).toInt32) ^^^ crI ((x ^^^ b) &&& 255) 8
def crX (f : Nat → Nat) : Nat → Int32
  | 0 => -1
  | m + 1 => crN (crX f m) (nI (f m))
theorem crX_congr {f g : Nat → Nat} : ∀ m, (∀ j, j < m → f j = g j) → crX f m = crX g m
  | 0, _ => rfl
  | m + 1, h => by rw [crX, crX, crX_congr m (fun j hj => h j (by omega)), h m (by omega)]
theorem and1 (k : Int32) : (k &&& 1) = 1 ↔ ¬ (k &&& 1) = 0 := by
  have h : k &&& 1 = nI (k.toBitVec.toNat % 2 ^ 1) := pk_and k 1 (by decide)
  rw [h]
  have hl : k.toBitVec.toNat % 2 ^ 1 < 2 := Nat.mod_lt _ (by decide)
  have e1 : nI (k.toBitVec.toNat % 2 ^ 1) = 1 ↔ k.toBitVec.toNat % 2 ^ 1 = 1 := nI_eq (b := 1) (by omega) (by decide)
  have e0 : nI (k.toBitVec.toNat % 2 ^ 1) = 0 ↔ k.toBitVec.toNat % 2 ^ 1 = 0 := nI_eq (b := 0) (by omega) (by decide)
  rw [e1, e0]
  omega
section PSUMS
variable {σ : zS}
theorem m_nextSum (x b : Int32) : fX12_nextSum σ x b = some (crN x b) := by
  have e : zloop zF (fun y => bX12_nextSum_10 σ x y.1 y.2) ((x ^^^ b) &&& 255, 0) = some (crI ((x ^^^ b) &&& 255) 8) := by
    refine zloop_seq (fun i => (crI ((x ^^^ b) &&& 255) i, nI i)) 8 (fun i hi => ?_) ?_ zF (by unfold zF; omega)
    · have c : ¬ (8 : Int32) ≤ nI i := fun z => by
        have := (nI_leI (a := 8) (b := i) (by decide) (by omega)).mp z
        omega
      show bX12_nextSum_10 σ x (crI ((x ^^^ b) &&& 255) i) (nI i) = _
      unfold bX12_nextSum_10 fX12_nextSum_35
      rw [if_neg c, crI]
      unfold crS
      by_cases q : (crI ((x ^^^ b) &&& 255) i &&& 1) = 0
      · rw [if_neg (fun z => (and1 _).mp z q), if_pos q, oL_eq, nI_1]
      · rw [if_pos ((and1 _).mpr q), if_neg q, oL_eq, nI_1]
    · show bX12_nextSum_10 σ x (crI ((x ^^^ b) &&& 255) 8) (nI 8) = _
      unfold bX12_nextSum_10
      rw [if_pos (by decide)]
  unfold fX12_nextSum
  rw [oL_eq, oB_eq e]
  rfl
/-- the class's table -/
def SML (σ : zS) (q ta : Nat) : Prop := zk σ q = 8 ∧ zr σ q 0 = some ta ∧ zk σ ta = 21 ∧ zn σ ta = 256
def SMT (σ : zS) (ta : Nat) : Prop := ∀ k, k < 256 → zi σ ta k = crI (nI k) 8
theorem s_ofChunk {q ta b c N n fr m : Nat} {f : Nat → Nat} (hq : SML σ q ta) (ht : SMT σ ta) (hb : BY σ b c N n) (hf : zBF σ c n f) (hm : fr + m ≤ n) : fX8_ofChunk σ q b (nI fr) (nI (fr + m)) = some (crX (fun k => f (fr + k)) m ^^^ (-1)) := by
  have hn : n ≤ 20000 := Nat.le_trans hb.2.2.2.2.2.1 hb.2.2.2.2.2.2
  have e : zloop zF (fun x => bX8_ofChunk_6 σ q b (nI (fr + m)) x.1 x.2) ((-1 : Int32), nI fr) = some (crX (fun k => f (fr + k)) m) := by
    refine zloop_seq (fun i => (crX (fun k => f (fr + k)) i, nI (fr + i))) m (fun i hi => ?_) ?_ zF (by unfold zF; omega)
    · have c1 : ¬ nI (fr + m) ≤ nI (fr + i) := by rw [nI_leI (by omega) (by omega)]; omega
      have hand : (crX (fun k => f (fr + k)) i ^^^ nI (f (fr + i))) &&& 255 = nI ((crX (fun k => f (fr + k)) i ^^^ nI (f (fr + i))).toBitVec.toNat % 2 ^ 8) := pk_and _ 8 (by decide)
      have hlt : (crX (fun k => f (fr + k)) i ^^^ nI (f (fr + i))).toBitVec.toNat % 2 ^ 8 < 256 := Nat.mod_lt _ (by decide)
      show bX8_ofChunk_6 σ q b (nI (fr + m)) (crX (fun k => f (fr + k)) i) (nI (fr + i)) = _
      unfold bX8_ofChunk_6
      rw [if_neg c1, oGR_eq hq.1 hq.2.1, oA_eq hb.1, oB_eq (s_atF hb hf (by omega)), hand, oLd_eq hq.2.2.1 (by rw [hq.2.2.2]; exact hlt) (by omega) (ht _ hlt), ← hand, oL_eq, oL_eq, nI_1]
      rfl
    · show bX8_ofChunk_6 σ q b (nI (fr + m)) (crX (fun k => f (fr + k)) m) (nI (fr + m)) = _
      unfold bX8_ofChunk_6
      rw [if_pos (by rw [zle]; exact Int.le_refl _)]
  unfold fX8_ofChunk
  rw [oB_eq e]
end PSUMS
/-! bytes as the machine holds them -/
theorem sx_of (x : Int32) : x.toInt8.toInt32.toInt8.toInt32 = sx (x.toBitVec.toNat % 256) := by
  have h1 : ∀ y : Int32, y.toInt8.toInt32.toInt8 = y.toInt8 := fun y => by
    apply Int8.toBitVec_inj.mp
    rw [Int32.toBitVec_toInt8, Int8.toBitVec_toInt32, Int32.toBitVec_toInt8]
    apply BitVec.eq_of_getLsbD_eq
    intro i hi
    rw [BitVec.getLsbD_signExtend, BitVec.getLsbD_signExtend, if_pos (by omega), if_pos hi]
    simp [hi, show i < 32 by omega]
  rw [h1]
  unfold sx
  congr 1
  apply Int8.toBitVec_inj.mp
  rw [Int32.toBitVec_toInt8, Int32.toBitVec_toInt8, znI_bv]
  apply BitVec.eq_of_getLsbD_eq
  intro i hi
  rw [BitVec.getLsbD_signExtend, BitVec.getLsbD_signExtend, if_pos (by omega), if_pos (by omega), BitVec.getLsbD_ofNat]
  rw [show x.toBitVec.getLsbD i = x.toBitVec.toNat.testBit i from rfl, show (256 : Nat) = 2 ^ 8 from rfl, Nat.testBit_mod_two_pow]
  simp [hi, show i < 32 by omega]
theorem sx_idem : ∀ n, n < 256 → (sx n).toInt8.toInt32 = sx n := by decide +kernel
theorem sx_toNat : ∀ n, n < 256 → sx n &&& 255 = nI n := by decide +kernel
/-- a byte of a number, by a shift that keeps the sign -/
theorem zshrB (x : Int32) {k : Nat} (hk : k < 4) : (x >>> (nI (8 * k) &&& 31)).toBitVec.toNat % 256 = x.toBitVec.toNat / 2 ^ (8 * k) % 256 := by
  have h1 := pk_shr x (nI (8 * k) &&& 31) (8 * k) (s_l (8 * k) (by omega))
  have e1 : (x >>> (nI (8 * k) &&& 31)).toInt = (x >>> (nI (8 * k) &&& 31)).toBitVec.toInt := rfl
  have e2 : x.toInt = x.toBitVec.toInt := rfl
  rw [e1, e2] at h1
  have hx : x.toBitVec.toNat < 2 ^ 32 := x.toBitVec.isLt
  have hy : (x >>> (nI (8 * k) &&& 31)).toBitVec.toNat < 2 ^ 32 := (x >>> (nI (8 * k) &&& 31)).toBitVec.isLt
  rw [BitVec.toInt_eq_toNat_cond, BitVec.toInt_eq_toNat_cond, Int.shiftRight_eq_div_pow] at h1
  generalize (x >>> (nI (8 * k) &&& 31)).toBitVec.toNat = y at h1 hy ⊢
  generalize x.toBitVec.toNat = z at h1 hx ⊢
  have hk' : k = 0 ∨ k = 1 ∨ k = 2 ∨ k = 3 := by omega
  rcases hk' with rfl | rfl | rfl | rfl <;> (split at h1 <;> split at h1 <;> simp only [Nat.reduceMul, Nat.reducePow] at h1 hx hy ⊢ <;> omega)
theorem zushrB (x : Int32) {k : Nat} (hk : k < 4) : ((x.toUInt32 >>> ((nI (8 * k)).toUInt32 &&& Int32.toUInt32 31)).toInt32).toBitVec.toNat % 256 = x.toBitVec.toNat / 2 ^ (8 * k) % 256 := by
  rw [zushrX x (by omega)]
