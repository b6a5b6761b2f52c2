/-! LAYER 2: pure Lean. Base rows. -/
theorem bp_b (x : Int32) : x.toInt8.toInt32 &&& 255 = x &&& 255 := by
  apply Int32.toBitVec_inj.mp
  rw [Int32.toBitVec_and, Int32.toBitVec_and, Int8.toBitVec_toInt32, Int32.toBitVec_toInt8]
  apply BitVec.eq_of_getLsbD_eq
  intro i hi
  rw [BitVec.getLsbD_and, BitVec.getLsbD_and]
  have hm : ∀ i < 32, 8 ≤ i → (255 : Int32).toBitVec.getLsbD i = false := by decide
  rcases Nat.lt_or_ge i 8 with z | z
  · rw [BitVec.getLsbD_signExtend, BitVec.getLsbD_signExtend, if_pos z, if_pos hi]
    simp only [z, hi, decide_true, Bool.true_and]
  · rw [hm i hi z]; simp
section PBASE
variable {σ : zS}
theorem zk_uI {a k : Nat} {v : Int32} : zk (zuI σ a k v) = zk σ := rfl
theorem zn_uI {a k : Nat} {v : Int32} : zn (zuI σ a k v) = zn σ := rfl
theorem zr_uI {a k : Nat} {v : Int32} : zr (zuI σ a k v) = zr σ := rfl
theorem zl_uI {a k : Nat} {v : Int32} : zl (zuI σ a k v) = zl σ := rfl
theorem zx_uI {a k : Nat} {v : Int32} : zx (zuI σ a k v) = zx σ := rfl
theorem zi_uI {a k b j : Nat} {v : Int32} : zi (zuI σ a k v) b j = if b = a ∧ j = k then v else zi σ b j := rfl
theorem zk_uR {a k : Nat} {v : Option Nat} : zk (zuR σ a k v) = zk σ := rfl
theorem zn_uR {a k : Nat} {v : Option Nat} : zn (zuR σ a k v) = zn σ := rfl
theorem zi_uR {a k : Nat} {v : Option Nat} : zi (zuR σ a k v) = zi σ := rfl
theorem zl_uR {a k : Nat} {v : Option Nat} : zl (zuR σ a k v) = zl σ := rfl
theorem zx_uR {a k : Nat} {v : Option Nat} : zx (zuR σ a k v) = zx σ := rfl
theorem zr_uR {a k b j : Nat} {v : Option Nat} : zr (zuR σ a k v) b j = if b = a ∧ j = k then v else zr σ b j := rfl
theorem zk_uC {s sp d dp m : Nat} : zk (zuC σ s sp d dp m) = zk σ := rfl
theorem zn_uC {s sp d dp m : Nat} : zn (zuC σ s sp d dp m) = zn σ := rfl
theorem zr_uC {s sp d dp m : Nat} : zr (zuC σ s sp d dp m) = zr σ := rfl
theorem zx_uC {s sp d dp m : Nat} : zx (zuC σ s sp d dp m) = zx σ := rfl
theorem zl_uC {s sp d dp m : Nat} : zl (zuC σ s sp d dp m) = zl σ := rfl
/-- the same but for the ints of the cells in S -/
def zsm (S : Nat → Prop) (σ σ' : zS) : Prop := zk σ' = zk σ ∧ zn σ' = zn σ ∧ zr σ' = zr σ ∧ zl σ' = zl σ ∧ zx σ' = zx σ ∧ ∀ a j, ¬ S a → zi σ' a j = zi σ a j
theorem zsm.rf {S : Nat → Prop} : zsm S σ σ := ⟨rfl, rfl, rfl, rfl, rfl, fun _ _ _ => rfl⟩
theorem zsm.k {S : Nat → Prop} {σ' : zS} (h : zsm S σ σ') : zk σ' = zk σ := h.1
theorem zsm.n {S : Nat → Prop} {σ' : zS} (h : zsm S σ σ') : zn σ' = zn σ := h.2.1
theorem zsm.r {S : Nat → Prop} {σ' : zS} (h : zsm S σ σ') : zr σ' = zr σ := h.2.2.1
theorem zsm.l {S : Nat → Prop} {σ' : zS} (h : zsm S σ σ') : zl σ' = zl σ := h.2.2.2.1
theorem zsm.x {S : Nat → Prop} {σ' : zS} (h : zsm S σ σ') : zx σ' = zx σ := h.2.2.2.2.1
theorem zsm.i {S : Nat → Prop} {σ' : zS} (h : zsm S σ σ') {a : Nat} (ha : ¬ S a) (j : Nat) : zi σ' a j = zi σ a j := h.2.2.2.2.2 a j ha
theorem zsm.trans {S : Nat → Prop} {σ1 σ2 : zS} (h : zsm S σ σ1) (h2 : zsm S σ1 σ2) : zsm S σ σ2 := ⟨h2.k.trans h.k, h2.n.trans h.n, h2.r.trans h.r, h2.l.trans h.l, h2.x.trans h.x, fun a j ha => (h2.i ha j).trans (h.i ha j)⟩
theorem zsm.mono {S S' : Nat → Prop} {σ' : zS} (h : zsm S σ σ') (hs : ∀ a, S a → S' a) : zsm S' σ σ' := ⟨h.k, h.n, h.r, h.l, h.x, fun a j ha => h.i (fun q => ha (hs a q)) j⟩
theorem zsm.uI {S : Nat → Prop} {σ' : zS} (h : zsm S σ σ') {a k : Nat} {v : Int32} (ha : S a) : zsm S σ (zuI σ' a k v) := ⟨h.k, h.n, h.r, h.l, h.x, fun b j hb => by
  rw [zi_uI, if_neg (fun q => hb (by rw [q.1]; exact ha))]; exact h.i hb j⟩
theorem zsm.uC {S : Nat → Prop} {σ' : zS} (h : zsm S σ σ') {s sp d dp m : Nat} (ha : S d) : zsm S σ (zuC σ' s sp d dp m) := ⟨h.k, h.n, h.r, h.l, h.x, fun b j hb => by
  rw [zuC_ne (fun q => hb (by rw [q]; exact ha))]; exact h.i hb j⟩
/-! numbers -/
theorem zle {x y : Int32} : x ≤ y ↔ x.toInt ≤ y.toInt := Int32.le_iff_toInt_le
theorem zlt {x y : Int32} : x < y ↔ x.toInt < y.toInt := Int32.lt_iff_toInt_lt
theorem zeq {x y : Int32} : x = y ↔ x.toInt = y.toInt := Int32.toInt_inj.symm
theorem zt0' : (0 : Int32).toInt = 0 := by decide
theorem zrange (x : Int32) : -2147483648 ≤ x.toInt ∧ x.toInt < 2147483648 := ⟨Int32.le_toInt x, Int32.toInt_lt x⟩
theorem znat {x : Int32} : x.toNatClampNeg = x.toInt.toNat := rfl
theorem zt_nI {n : Nat} (h : n < 2147483648) : (nI n).toInt = (n : Int) := nI_toInt h
theorem znI {x : Int32} (h : 0 ≤ x.toInt) : x = nI x.toInt.toNat := by
  apply Int32.toInt_inj.mp
  rw [zt_nI (by have := zrange x; omega)]
  omega
theorem zt_add {x y : Int32} (h1 : -2147483648 ≤ x.toInt + y.toInt) (h2 : x.toInt + y.toInt < 2147483648) : (x + y).toInt = x.toInt + y.toInt := by
  rw [Int32.toInt_add, Int.bmod_eq_of_le (by omega) (by omega)]
theorem zt_sub {x y : Int32} (h1 : -2147483648 ≤ x.toInt - y.toInt) (h2 : x.toInt - y.toInt < 2147483648) : (x - y).toInt = x.toInt - y.toInt := by
  rw [Int32.toInt_sub, Int.bmod_eq_of_le (by omega) (by omega)]
theorem zt_mul {x y : Int32} (h1 : -2147483648 ≤ x.toInt * y.toInt) (h2 : x.toInt * y.toInt < 2147483648) : (x * y).toInt = x.toInt * y.toInt := by
  rw [Int32.toInt_mul, Int.bmod_eq_of_le (by omega) (by omega)]
/-- the byte at a place -/
def zby (σ : zS) (c j : Nat) : Nat := (zi σ c j).toBitVec.toNat % 256
theorem zby_lt (σ : zS) (c j : Nat) : zby σ c j < 256 := Nat.mod_lt _ (by decide)
theorem zby_and {c j : Nat} : zi σ c j &&& 255 = nI (zby σ c j) := pk_and _ 8 (by decide)
theorem zb_narrow (x : Int32) : x.toInt8.toInt32.toBitVec.toNat % 256 = x.toBitVec.toNat % 256 := by
  have h := bp_b x
  rw [pk_and _ 8 (by decide), pk_and _ 8 (by decide)] at h
  have h1 : x.toInt8.toInt32.toBitVec.toNat % 2 ^ 8 < 256 := Nat.mod_lt _ (by decide)
  have h2 : x.toBitVec.toNat % 2 ^ 8 < 256 := Nat.mod_lt _ (by decide)
  exact (nI_eq (by omega) (by omega)).mp h
end PBASE
