/-! numbers: bits of Int32 -/
theorem s_l : ∀ n, n < 32 → ((nI n &&& 31).toBitVec.smod 32).toNat = n := by decide +kernel
theorem s_u : ∀ n, n < 32 → (((nI n).toUInt32 &&& Int32.toUInt32 31).toBitVec % 32).toNat = n := by decide +kernel
theorem znI_bv (n : Nat) : (nI n).toBitVec = BitVec.ofNat 32 n := rfl
theorem zbv_nat {n : Nat} (h : n < 4294967296) : (nI n).toBitVec.toNat = n := by
  rw [znI_bv, BitVec.toNat_ofNat]
  exact Nat.mod_eq_of_lt h
theorem zor (a b : Nat) : nI a ||| nI b = nI (a ||| b) := by
  apply Int32.toBitVec_inj.mp
  rw [Int32.toBitVec_or, znI_bv, znI_bv, znI_bv, BitVec.ofNat_or]
theorem zxor (a b : Nat) : nI a ^^^ nI b = nI (a ^^^ b) := by
  apply Int32.toBitVec_inj.mp
  rw [Int32.toBitVec_xor, znI_bv, znI_bv, znI_bv, BitVec.ofNat_xor]
theorem zor_add {a b k : Nat} (h : a < 2 ^ k) : a ||| b * 2 ^ k = a + b * 2 ^ k := by
  rw [Nat.or_comm, Nat.mul_comm, ← Nat.two_pow_add_eq_or_of_lt h]
  omega
theorem zadd_or {a b k : Nat} (h : a < 2 ^ k) : b * 2 ^ k ||| a = b * 2 ^ k + a := by
  rw [Nat.mul_comm, ← Nat.two_pow_add_eq_or_of_lt h]
theorem zshl {n k : Nat} (hk : k < 32) (h : n * 2 ^ k < 4294967296) : nI n <<< (nI k &&& 31) = nI (n * 2 ^ k) := pk_shlN _ k (s_l k hk) h
theorem zshr {n k : Nat} (hk : k < 32) (h : n < 2147483648) : nI n >>> (nI k &&& 31) = nI (n / 2 ^ k) := pk_shrN h _ k (s_l k hk)
theorem zushr {n k : Nat} (hk : k < 32) (h : n < 4294967296) : ((nI n).toUInt32 >>> ((nI k).toUInt32 &&& Int32.toUInt32 31)).toInt32 = nI (n / 2 ^ k) := pk_ushrN h _ k (s_u k hk)
theorem zof (x : Int32) : x = nI x.toBitVec.toNat := by
  apply Int32.toBitVec_inj.mp
  rw [znI_bv, BitVec.ofNat_toNat, BitVec.setWidth_eq]
theorem zushrX (x : Int32) {k : Nat} (hk : k < 32) : ((x.toUInt32 >>> ((nI k).toUInt32 &&& Int32.toUInt32 31)).toInt32).toBitVec.toNat = x.toBitVec.toNat / 2 ^ k := pk_ushr x _ k (s_u k hk)
/-- bit k of x, by a shift that keeps the sign -/
theorem zbit (x : Int32) {k : Nat} (hk : k < 8) : (x >>> (nI k &&& 31)) &&& 1 = nI (x.toBitVec.toNat % 256 / 2 ^ k % 2) := by
  rw [pk_and _ 1 (by decide)]
  congr 1
  have h1 := pk_shr x (nI k &&& 31) k (s_l k (by omega))
  have e1 : (x >>> (nI k &&& 31)).toInt = (x >>> (nI k &&& 31)).toBitVec.toInt := rfl
  have e2 : x.toInt = x.toBitVec.toInt := rfl
  rw [e1, e2] at h1
  have hx : x.toBitVec.toNat < 2 ^ 32 := x.toBitVec.isLt
  have hy : (x >>> (nI k &&& 31)).toBitVec.toNat < 2 ^ 32 := (x >>> (nI k &&& 31)).toBitVec.isLt
  rw [BitVec.toInt_eq_toNat_cond, BitVec.toInt_eq_toNat_cond, Int.shiftRight_eq_div_pow] at h1
  generalize (x >>> (nI k &&& 31)).toBitVec.toNat = y at h1 hy ⊢
  generalize x.toBitVec.toNat = z at h1 hx ⊢
  have hk' : k = 0 ∨ k = 1 ∨ k = 2 ∨ k = 3 ∨ k = 4 ∨ k = 5 ∨ k = 6 ∨ k = 7 := by omega
  rcases hk' with rfl | rfl | rfl | rfl | rfl | rfl | rfl | rfl <;> (split at h1 <;> split at h1 <;> simp only [Nat.reducePow] at h1 hx hy ⊢ <;> omega)
/-- the number that four bytes are -/
def zn4 (f : Nat → Nat) (i : Nat) : Nat := f i * 16777216 + f (i + 1) * 65536 + f (i + 2) * 256 + f (i + 3)
set_option maxRecDepth 20000 in
theorem znum4 {a b c d : Nat} (ha : a < 256) (hb : b < 256) (hc : c < 256) (hd : d < 256) : ((nI a <<< ((24 : Int32) &&& 31) ||| nI b <<< ((16 : Int32) &&& 31)) ||| nI c <<< ((8 : Int32) &&& 31)) ||| nI d = nI (a * 16777216 + b * 65536 + c * 256 + d) := by
  have e1 : nI a <<< ((24 : Int32) &&& 31) = nI (a * 2 ^ 24) := zshl (k := 24) (by decide) (by omega)
  have e2 : nI b <<< ((16 : Int32) &&& 31) = nI (b * 2 ^ 16) := zshl (k := 16) (by decide) (by omega)
  have e3 : nI c <<< ((8 : Int32) &&& 31) = nI (c * 2 ^ 8) := zshl (k := 8) (by decide) (by omega)
  rw [e1, e2, e3, zor, zor, zor]
  congr 1
  rw [zadd_or (k := 24) (a := b * 2 ^ 16) (by omega)]
  have e4 : a * 2 ^ 24 + b * 2 ^ 16 = (a * 256 + b) * 2 ^ 16 := by omega
  rw [e4, zadd_or (k := 16) (a := c * 2 ^ 8) (by omega)]
  have e5 : (a * 256 + b) * 2 ^ 16 + c * 2 ^ 8 = (a * 65536 + b * 256 + c) * 2 ^ 8 := by clear e1 e2 e3 e4; omega
  rw [e5, zadd_or (k := 8) (by omega)]
/-! states: setting twice -/
theorem zuI_uI {σ : zS} {a k : Nat} {v w : Int32} : zuI (zuI σ a k v) a k w = zuI σ a k w := by
  unfold zuI
  congr 1
  congr 1
  congr 1
  funext b j
  unfold zup
  by_cases e : b = a ∧ j = k
  · simp only [if_pos e]
  · simp only [if_neg e]
theorem zuI_self {σ : zS} {a k : Nat} {v : Int32} (h : zi σ a k = v) : zuI σ a k v = σ := by
  have e : zup σ.2.2.1 a k v = σ.2.2.1 := by
    funext b j
    unfold zup
    by_cases q : b = a ∧ j = k
    · rw [if_pos q, q.1, q.2]; exact h.symm
    · rw [if_neg q]
  unfold zuI
  rw [e]
/-! loops -/
theorem zloop_seq {α β : Type} {body : α → Option (α ⊕ β)} (s : Nat → α) (m : Nat) {b : β} (hs : ∀ i, i < m → body (s i) = some (.inl (s (i + 1)))) (he : body (s m) = some (.inr b)) : ∀ n, m < n → zloop n body (s 0) = some b := by
  suffices H : ∀ k i n, i + k = m → k < n → zloop n body (s i) = some b by
    intro n hn
    exact H m 0 n (by omega) hn
  intro k
  induction k with
  | zero =>
    intro i n hi hn
    obtain ⟨n, rfl⟩ : ∃ q, n = q + 1 := ⟨n - 1, by omega⟩
    have e : i = m := by omega
    subst e
    rw [zloop, he]
  | succ k ih =>
    intro i n hi hn
    obtain ⟨n, rfl⟩ : ∃ q, n = q + 1 := ⟨n - 1, by omega⟩
    rw [zloop, hs i (by omega)]
    exact ih (i + 1) n (by omega) (by omega)
/-- a loop with an invariant and a measure -/
theorem zloop_inv {α β : Type} {body : α → Option (α ⊕ β)} (I : α → Prop) (μ : α → Nat) (P : β → Prop) (hs : ∀ x, I x → (∃ y, body x = some (.inl y) ∧ I y ∧ μ y < μ x) ∨ ∃ b, body x = some (.inr b) ∧ P b) : ∀ n x, I x → μ x < n → ∃ b, zloop n body x = some b ∧ P b := by
  intro n
  induction n with
  | zero => intro x _ h; omega
  | succ n ih =>
    intro x hx hm
    rcases hs x hx with ⟨y, e, hy, hlt⟩ | ⟨b, e, hb⟩
    · obtain ⟨b, e2, hb⟩ := ih y hy (by omega)
      exact ⟨b, by rw [zloop, e]; exact e2, hb⟩
    · exact ⟨b, by rw [zloop, e], hb⟩
/-- a counted loop: the invariant by the count -/
theorem zloop_cnt {α β : Type} {body : α → Option (α ⊕ β)} (I : Nat → α → Prop) (m : Nat) (P : β → Prop) (hs : ∀ i x, i < m → I i x → (∃ y, body x = some (.inl y) ∧ I (i + 1) y) ∨ ∃ b, body x = some (.inr b) ∧ P b) (he : ∀ x, I m x → ∃ b, body x = some (.inr b) ∧ P b) : ∀ n x, I 0 x → m < n → ∃ b, zloop n body x = some b ∧ P b := by
  suffices H : ∀ k i n x, i + k = m → I i x → k < n → ∃ b, zloop n body x = some b ∧ P b by
    intro n x hx hn
    exact H m 0 n x (by omega) hx hn
  intro k
  induction k with
  | zero =>
    intro i n x hi hx hn
    obtain ⟨n, rfl⟩ : ∃ q, n = q + 1 := ⟨n - 1, by omega⟩
    have e : i = m := by omega
    subst e
    obtain ⟨b, e, hb⟩ := he x hx
    exact ⟨b, by rw [zloop, e], hb⟩
  | succ k ih =>
    intro i n x hi hx hn
    obtain ⟨n, rfl⟩ : ∃ q, n = q + 1 := ⟨n - 1, by omega⟩
    rcases hs i x (by omega) hx with ⟨y, e, hy⟩ | ⟨b, e, hb⟩
    · obtain ⟨b, e2, hb⟩ := ih (i + 1) n y (by omega) hy (by omega)
      exact ⟨b, by rw [zloop, e]; exact e2, hb⟩
    · exact ⟨b, by rw [zloop, e], hb⟩
