/-! THE REFERENCE: its layout by an address map B: 0 itself, 1 tape, 2 about, 3 regions, 4 pixels, 5 canvas, 6 before, 7 out, 8 pack, 9 made, 10 lengths, 11 codes -/
def zML (σ : zS) (B : Nat → Nat) : Prop :=
  (∀ i j, i < 12 → j < 12 → B i = B j → i = j) ∧ zk σ (B 0) = 12 ∧ zr σ (B 0) 2 = some (B 1) ∧ zr σ (B 0) 4 = some (B 2) ∧ zr σ (B 0) 5 = some (B 3) ∧ zr σ (B 0) 6 = some (B 4) ∧ zr σ (B 0) 10 = some (B 5) ∧ zr σ (B 0) 11 = some (B 6) ∧ zr σ (B 0) 13 = some (B 7) ∧ zr σ (B 0) 15 = some (B 8) ∧ zr σ (B 0) 20 = some (B 9) ∧ zr σ (B 0) 21 = some (B 10) ∧ zr σ (B 0) 22 = some (B 11) ∧
  (zk σ (B 1) = 20 ∧ zn σ (B 1) = 8000) ∧ (zk σ (B 2) = 21 ∧ zn σ (B 2) = 12) ∧ (zk σ (B 3) = 21 ∧ zn σ (B 3) = 96) ∧ (zk σ (B 4) = 21 ∧ zn σ (B 4) = 4608) ∧ (zk σ (B 5) = 21 ∧ zn σ (B 5) = 256) ∧ (zk σ (B 6) = 21 ∧ zn σ (B 6) = 256) ∧ (zk σ (B 7) = 20 ∧ zn σ (B 7) = 14000) ∧ (zk σ (B 8) = 20 ∧ zn σ (B 8) = 8000) ∧ (zk σ (B 9) = 20 ∧ zn σ (B 9) = 1100) ∧ (zk σ (B 10) = 21 ∧ zn σ (B 10) = 380) ∧ (zk σ (B 11) = 21 ∧ zn σ (B 11) = 380)
theorem zML.of {σ σ' : zS} {B : Nat → Nat} {S : Nat → Prop} (h : zML σ B) (hs : zsm S σ σ') : zML σ' B := by
  unfold zML
  rw [hs.k, hs.n, hs.r]
  exact h
theorem zML.ne {σ : zS} {B : Nat → Nat} (h : zML σ B) (i j : Nat) (hi : i < 12 := by decide) (hj : j < 12 := by decide) (hij : i ≠ j := by decide) : B i ≠ B j := fun e => hij (h.1 i j hi hj e)
/-- a byte as the machine holds it -/
def sx (n : Nat) : Int32 := (nI n).toInt8.toInt32
/-- the state of unpacking, but for 'bad' -/
def zMQ (σ : zS) (B : Nat → Nat) (pk out : List Nat) (pos : Nat) : Prop := zML σ B ∧ (zi σ (B 0) 14 = nI pk.length ∧ pk.length ≤ 8000 ∧ ∀ j, j < pk.length → zi σ (B 8) j = sx (pk.getD j 0) ∧ pk.getD j 0 < 256) ∧ (zi σ (B 0) 16 = nI (pos / 8) ∧ zi σ (B 0) 17 = nI (pos % 8) ∧ pos ≤ 8 * pk.length) ∧ (zi σ (B 0) 19 = nI out.length ∧ out.length ≤ 1100 ∧ ∀ j, j < out.length → zby σ (B 9) j = out.getD j 0)
def zMF (σ : zS) (B : Nat → Nat) (pk : List Nat) : Prop := ∃ out pos, zMQ σ B pk out pos ∧ zi σ (B 0) 18 = 1
theorem sx_by : ∀ n, n < 256 → (sx n).toBitVec.toNat % 256 = n := by decide +kernel
theorem zsm1 {σ : zS} {b k : Nat} {v : Int32} : zsm (fun a => a = b) σ (zuI σ b k v) := zsm.uI (S := fun a => a = b) zsm.rf rfl
theorem zsm2 {σ : zS} {b k l : Nat} {v w : Int32} : zsm (fun a => a = b) σ (zuI (zuI σ b k v) b l w) := zsm.uI (S := fun a => a = b) zsm1 rfl
theorem zsm3 {σ : zS} {b k l m : Nat} {v w x : Int32} : zsm (fun a => a = b) σ (zuI (zuI (zuI σ b k v) b l w) b m x) := zsm.uI (S := fun a => a = b) zsm2 rfl
section PMOD
variable {σ : zS} {B : Nat → Nat} {pk out : List Nat} {pos : Nat}
theorem zMQ.pb (h : zMQ σ B pk out pos) {j : Nat} (hj : j < pk.length) : zby σ (B 8) j = pb pk j := by
  obtain ⟨h1, h2⟩ := h.2.1.2.2 j hj
  unfold zby
  rw [h1, sx_by _ h2]
  rfl
/-- another field of the object, or another cell, changes nothing -/
theorem zMQ.of {σ' : zS} {S : Nat → Prop} (h : zMQ σ B pk out pos) (hs : zsm S σ σ') (h0 : ∀ j, j = 14 ∨ j = 16 ∨ j = 17 ∨ j = 19 → zi σ' (B 0) j = zi σ (B 0) j) (h8 : ¬ S (B 8)) (h9 : ¬ S (B 9)) : zMQ σ' B pk out pos := by
  obtain ⟨a, ⟨b1, b2, b3⟩, ⟨c1, c2, c3⟩, ⟨d1, d2, d3⟩⟩ := h
  refine ⟨a.of hs, ⟨by rw [h0 14 (by omega)]; exact b1, b2, fun j hj => by rw [hs.i h8]; exact b3 j hj⟩, ⟨by rw [h0 16 (by omega)]; exact c1, by rw [h0 17 (by omega)]; exact c2, c3⟩, ⟨by rw [h0 19 (by omega)]; exact d1, d2, fun j hj => by rw [zby_of hs h9]; exact d3 j hj⟩⟩
theorem zMQ.bad (h : zMQ σ B pk out pos) {v : Int32} : zMQ (zuI σ (B 0) 18 v) B pk out pos := h.of (S := fun a => a = B 0) (zsm.rf.uI rfl) (fun j hj => by rw [zi_uI, if_neg (fun z => by omega)]) (h.1.ne 8 0) (h.1.ne 9 0)
theorem zMQ.at (h : zMQ σ B pk out pos) {p' : Nat} (hp : p' ≤ 8 * pk.length) : zMQ (zuI (zuI σ (B 0) 16 (nI (p' / 8))) (B 0) 17 (nI (p' % 8))) B pk out p' := by
  obtain ⟨a, ⟨b1, b2, b3⟩, ⟨c1, c2, c3⟩, ⟨d1, d2, d3⟩⟩ := h
  have hs : zsm (fun x => x = B 0) σ (zuI (zuI σ (B 0) 16 (nI (p' / 8))) (B 0) 17 (nI (p' % 8))) := zsm2
  refine ⟨a.of hs, ⟨?_, b2, fun j hj => by rw [hs.i (a.ne 8 0)]; exact b3 j hj⟩, ⟨?_, ?_, hp⟩, ⟨?_, d2, fun j hj => by rw [zby_of hs (a.ne 9 0)]; exact d3 j hj⟩⟩
  · rw [zi_uI, if_neg (by omega), zi_uI, if_neg (by omega)]; exact b1
  · rw [zi_uI, if_neg (by omega), zi_uI, if_pos ⟨rfl, rfl⟩]
  · rw [zi_uI, if_pos ⟨rfl, rfl⟩]
  · rw [zi_uI, if_neg (by omega), zi_uI, if_neg (by omega)]; exact d1
/-- one bit -/
theorem m_bit1 (h : zMQ σ B pk out pos) {m k v : Nat} (hm : m ≤ 16) (hk : k < m) (hv : v < 2 ^ k) : (pos < 8 * pk.length → ∃ s, bX12_bits_4 (B 0) (nI m) (nI v) (nI k) σ = some (.inl (nI (v + bitS (pb pk) pos * 2 ^ k), nI (k + 1), s)) ∧ zsm (fun a => a = B 0) σ s ∧ zi s (B 0) 18 = zi σ (B 0) 18 ∧ (∀ j, j ≠ 16 → j ≠ 17 → zi s (B 0) j = zi σ (B 0) j) ∧ zMQ s B pk out (pos + 1)) ∧ (¬ pos < 8 * pk.length → bX12_bits_4 (B 0) (nI m) (nI v) (nI k) σ = some (.inr (.inr (0, zuI σ (B 0) 18 1)))) := by
  obtain ⟨a, ⟨b1, b2, b3⟩, ⟨c1, c2, c3⟩, ⟨d1, d2, d3⟩⟩ := id h
  obtain ⟨l0, l1, l2, l3, l4, l5, l6, l7, l8, l9, -, -, -, -, -, -, -, -, -, -, ⟨l10, l11⟩, -⟩ := id a
  have tk : (nI k).toInt = (k : Int) := zt_nI (by omega)
  have tm : (nI m).toInt = (m : Int) := zt_nI (by omega)
  have cmk : ¬ nI m ≤ nI k := by rw [zle, tm, tk]; omega
  have clt : nI (pos / 8) < nI pk.length ↔ pos / 8 < pk.length := nI_ltI (by omega) (by omega)
  constructor
  · intro hp
    have tp : (nI (pos / 8)).toInt = ((pos / 8 : Nat) : Int) := zt_nI (by omega)
    obtain ⟨q1, q2⟩ := b3 (pos / 8) (by omega)
    have hbit : (zi σ (B 8) (pos / 8) >>> (nI (pos % 8) &&& 31)) &&& 1 = nI (bitS (pb pk) pos) := by
      rw [zbit _ (by omega), q1, sx_by _ q2]
      rfl
    have hbl := bitS_lt (pb pk) pos
    have hpw : 2 ^ k ≤ 2 ^ 15 := Nat.pow_le_pow_right (by decide) (by omega)
    have hs2 : nI (bitS (pb pk) pos) <<< (nI k &&& 31) = nI (bitS (pb pk) pos * 2 ^ k) := zshl (by omega) (by
      rcases (show bitS (pb pk) pos = 0 ∨ bitS (pb pk) pos = 1 by omega) with e | e <;> rw [e] <;> omega)
    have hor : nI v ||| nI (bitS (pb pk) pos * 2 ^ k) = nI (v + bitS (pb pk) pos * 2 ^ k) := by rw [zor, zor_add hv]
    have a1 : nI k + 1 = nI (k + 1) := nI_1 k
    have a2 : nI (pos % 8) + 1 = nI (pos % 8 + 1) := nI_1 _
    have a3 : nI (pos / 8) + 1 = nI (pos / 8 + 1) := nI_1 _
    have c8 : nI (pos % 8 + 1) = 8 ↔ pos % 8 + 1 = 8 := nI_eq (b := 8) (by omega) (by decide)
    have hpre : ∀ X, X = (if pos % 8 + 1 = 8 then fX12_bits_81 (zuI σ (B 0) 17 (nI (pos % 8 + 1))) (B 0) (nI m) (nI (v + bitS (pb pk) pos * 2 ^ k)) (nI k) (nI (pos / 8 + 1)) (B 0) else fX12_bits_81 (zuI σ (B 0) 17 (nI (pos % 8 + 1))) (B 0) (nI m) (nI (v + bitS (pb pk) pos * 2 ^ k)) (nI k) (nI (pos / 8)) (B 0)) → bX12_bits_4 (B 0) (nI m) (nI v) (nI k) σ = X := by
      intro X hX
      subst hX
      unfold bX12_bits_4
      have i8 : zi (zuI σ (B 0) 17 (nI (pos % 8 + 1))) (B 0) 17 = nI (pos % 8 + 1) := by rw [zi_uI, if_pos ⟨rfl, rfl⟩]
      have i16 : zi (zuI σ (B 0) 17 (nI (pos % 8 + 1))) (B 0) 16 = nI (pos / 8) := by rw [zi_uI, if_neg (by omega)]; exact c1
      have hin : zk σ (B 8) = 20 ∧ (0 : Int32) ≤ nI (pos / 8) ∧ (nI (pos / 8)).toNatClampNeg < zn σ (B 8) := ⟨l10, by rw [zle, zt0', tp]; omega, by rw [znat, tp, l11, Int.toNat_natCast]; omega⟩
      have hval : zi σ (B 8) (nI (pos / 8)).toNatClampNeg = zi σ (B 8) (pos / 8) := by rw [znat, tp, Int.toNat_natCast]
      have p8 : pos / 8 < pk.length := by omega
      simp only [oGI, oGR, oR, oLd, oL, oPI, zk_uI, l1, l9, cmk, c1, c2, b1, clt, p8, hin, hval, hbit, hs2, hor, a2, i8, i16, c8, a3, and_self, ↓reduceIte]
    by_cases e8 : pos % 8 + 1 = 8
    · refine ⟨zuI (zuI (zuI σ (B 0) 17 (nI (pos % 8 + 1))) (B 0) 16 (nI (pos / 8 + 1))) (B 0) 17 0, ?_, zsm3, ?_, fun j h16 h17 => ?_, ?_⟩
      · refine hpre _ ?_
        rw [if_pos e8]
        unfold fX12_bits_81 fX12_bits_102
        have i8 : zi (zuI (zuI σ (B 0) 17 (nI (pos % 8 + 1))) (B 0) 16 (nI (pos / 8 + 1))) (B 0) 17 = 8 := by rw [zi_uI, if_neg (by omega), zi_uI, if_pos ⟨rfl, rfl⟩, e8]; rfl
        simp only [oGI, oPI, oL, zk_uI, l1, i8, a1, ↓reduceIte]
      · rw [zi_uI, if_neg (by omega), zi_uI, if_neg (by omega), zi_uI, if_neg (by omega)]
      · rw [zi_uI, if_neg (by omega), zi_uI, if_neg (by omega), zi_uI, if_neg (by omega)]
      · have hq := (h.of (S := fun x => x = B 0) (σ' := zuI (zuI (zuI σ (B 0) 17 (nI (pos % 8 + 1))) (B 0) 16 (nI (pos / 8 + 1))) (B 0) 17 0))
        have hs : zsm (fun x => x = B 0) σ (zuI (zuI (zuI σ (B 0) 17 (nI (pos % 8 + 1))) (B 0) 16 (nI (pos / 8 + 1))) (B 0) 17 0) := zsm3
        refine ⟨a.of hs, ⟨?_, b2, fun j hj => by rw [hs.i (a.ne 8 0)]; exact b3 j hj⟩, ⟨?_, ?_, by omega⟩, ⟨?_, d2, fun j hj => by rw [zby_of hs (a.ne 9 0)]; exact d3 j hj⟩⟩
        · rw [zi_uI, if_neg (by omega), zi_uI, if_neg (by omega), zi_uI, if_neg (by omega)]; exact b1
        · rw [zi_uI, if_neg (by omega), zi_uI, if_pos ⟨rfl, rfl⟩, show pos / 8 + 1 = (pos + 1) / 8 by omega]
        · rw [zi_uI, if_pos ⟨rfl, rfl⟩, show (pos + 1) % 8 = 0 by omega]; rfl
        · rw [zi_uI, if_neg (by omega), zi_uI, if_neg (by omega), zi_uI, if_neg (by omega)]; exact d1
    · refine ⟨zuI (zuI (zuI σ (B 0) 17 (nI (pos % 8 + 1))) (B 0) 16 (nI (pos / 8))) (B 0) 17 (nI (pos % 8 + 1)), ?_, zsm3, ?_, fun j h16 h17 => ?_, ?_⟩
      · refine hpre _ ?_
        rw [if_neg e8]
        unfold fX12_bits_81 fX12_bits_102
        have i8 : zi (zuI (zuI σ (B 0) 17 (nI (pos % 8 + 1))) (B 0) 16 (nI (pos / 8))) (B 0) 17 = nI (pos % 8 + 1) := by rw [zi_uI, if_neg (by omega), zi_uI, if_pos ⟨rfl, rfl⟩]
        simp only [oGI, oPI, oL, zk_uI, l1, i8, c8, e8, a1, ↓reduceIte]
      · rw [zi_uI, if_neg (by omega), zi_uI, if_neg (by omega), zi_uI, if_neg (by omega)]
      · rw [zi_uI, if_neg (by omega), zi_uI, if_neg (by omega), zi_uI, if_neg (by omega)]
      · have hs : zsm (fun x => x = B 0) σ (zuI (zuI (zuI σ (B 0) 17 (nI (pos % 8 + 1))) (B 0) 16 (nI (pos / 8))) (B 0) 17 (nI (pos % 8 + 1))) := zsm3
        refine ⟨a.of hs, ⟨?_, b2, fun j hj => by rw [hs.i (a.ne 8 0)]; exact b3 j hj⟩, ⟨?_, ?_, by omega⟩, ⟨?_, d2, fun j hj => by rw [zby_of hs (a.ne 9 0)]; exact d3 j hj⟩⟩
        · rw [zi_uI, if_neg (by omega), zi_uI, if_neg (by omega), zi_uI, if_neg (by omega)]; exact b1
        · rw [zi_uI, if_neg (by omega), zi_uI, if_pos ⟨rfl, rfl⟩, show pos / 8 = (pos + 1) / 8 by omega]
        · rw [zi_uI, if_pos ⟨rfl, rfl⟩, show pos % 8 + 1 = (pos + 1) % 8 by omega]
        · rw [zi_uI, if_neg (by omega), zi_uI, if_neg (by omega), zi_uI, if_neg (by omega)]; exact d1
  · intro hp
    have p8 : ¬ pos / 8 < pk.length := by omega
    unfold bX12_bits_4
    simp only [oGI, oPZ, l1, cmk, c1, b1, clt, p8, or_true, and_self, ↓reduceIte]
/-- a number of m bits, or 'bad' -/
theorem m_bits (h : zMQ σ B pk out pos) {m : Nat} (hm : m ≤ 16) : ∃ r s, fX12_bits σ (B 0) (nI m) = some (r, s) ∧ zsm (fun a => a = B 0) σ s ∧ (∀ j, j ≠ 16 → j ≠ 17 → j ≠ 18 → zi s (B 0) j = zi σ (B 0) j) ∧ ((takeS pk pos m = none ∧ r = 0 ∧ zi s (B 0) 18 = 1 ∧ zMQ s B pk out (8 * pk.length)) ∨ ∃ v, takeS pk pos m = some (v, pos + m) ∧ r = nI v ∧ v < 2 ^ m ∧ zi s (B 0) 18 = zi σ (B 0) 18 ∧ zMQ s B pk out (pos + m)) := by
  obtain ⟨b, e, hb⟩ := zloop_cnt (body := fun x => bX12_bits_4 (B 0) (nI m) x.1 x.2.1 x.2.2)
    (fun i x => x.1 = nI (numS (pb pk) pos i) ∧ x.2.1 = nI i ∧ pos + i ≤ 8 * pk.length ∧ zsm (fun a => a = B 0) σ x.2.2 ∧ (∀ j, j ≠ 16 → j ≠ 17 → zi x.2.2 (B 0) j = zi σ (B 0) j) ∧ zMQ x.2.2 B pk out (pos + i)) m
    (fun b => match b with
      | .inl c => c.1 = nI (numS (pb pk) pos m) ∧ pos + m ≤ 8 * pk.length ∧ zsm (fun a => a = B 0) σ c.2 ∧ (∀ j, j ≠ 16 → j ≠ 17 → zi c.2 (B 0) j = zi σ (B 0) j) ∧ zMQ c.2 B pk out (pos + m)
      | .inr r => r.1 = 0 ∧ ¬ pos + m ≤ 8 * pk.length ∧ zsm (fun a => a = B 0) σ r.2 ∧ (∀ j, j ≠ 16 → j ≠ 17 → j ≠ 18 → zi r.2 (B 0) j = zi σ (B 0) j) ∧ zi r.2 (B 0) 18 = 1 ∧ zMQ r.2 B pk out (8 * pk.length))
    (fun i x hi hx => by
      obtain ⟨y1, y2, s⟩ := x
      obtain ⟨x1, x2, x3, x4, x5, x6⟩ := hx
      dsimp only at x1 x2 x4 x5 x6
      subst x1
      subst x2
      obtain ⟨p1, p2⟩ := m_bit1 x6 (m := m) (k := i) (v := numS (pb pk) pos i) hm hi (numS_lt _ _ _)
      by_cases hp : pos + i < 8 * pk.length
      · obtain ⟨s', q1, q2, q3, q4, q5⟩ := p1 hp
        exact Or.inl ⟨_, q1, rfl, rfl, by omega, x4.trans q2, fun j h16 h17 => by rw [q4 j h16 h17]; exact x5 j h16 h17, q5⟩
      · have he : pos + i = 8 * pk.length := by omega
        rw [he] at x6
        refine Or.inr ⟨.inr (0, zuI s (B 0) 18 1), p2 hp, rfl, by omega, x4.uI rfl, fun j h16 h17 h18 => ?_, ?_, x6.bad⟩
        · rw [zi_uI, if_neg (fun z => h18 z.2)]; exact x5 j h16 h17
        · rw [zi_uI, if_pos ⟨rfl, rfl⟩])
    (fun x hx => by
      obtain ⟨y1, y2, s⟩ := x
      obtain ⟨x1, x2, x3, x4, x5, x6⟩ := hx
      dsimp only at x1 x2 x4 x5 x6
      subst x1
      subst x2
      refine ⟨.inl (nI (numS (pb pk) pos m), s), ?_, rfl, x3, x4, x5, x6⟩
      unfold bX12_bits_4
      simp only [zle, Int.le_refl, ↓reduceIte]) zF (0, 0, σ) ⟨rfl, nI_0.symm, h.2.2.1.2.2, zsm.rf, fun _ _ _ => rfl, h⟩ (by unfold zF; omega)
  unfold fX12_bits
  rw [oB_eq e]
  cases b with
  | inl c =>
    obtain ⟨c1, c2⟩ := c
    obtain ⟨p1, p2, p3, p4, p5⟩ := hb
    dsimp only at p1 p3 p4 p5
    subst p1
    exact ⟨_, c2, rfl, p3, fun j h16 h17 _ => p4 j h16 h17, Or.inr ⟨_, by unfold takeS; rw [if_pos p2], rfl, numS_lt _ _ _, p4 18 (by decide) (by decide), p5⟩⟩
  | inr r =>
    obtain ⟨r1, r2⟩ := r
    obtain ⟨p1, p2, p3, p4, p5, p6⟩ := hb
    dsimp only at p1 p3 p4 p5 p6
    subst p1
    exact ⟨0, r2, rfl, p3, p4, Or.inl ⟨by unfold takeS; rw [if_neg p2], rfl, p5, p6⟩⟩
theorem m_even (h : zMQ σ B pk out pos) : ∃ s, fX12_evenOut σ (B 0) = some s ∧ zsm (fun a => a = B 0) σ s ∧ (∀ j, j ≠ 16 → j ≠ 17 → zi s (B 0) j = zi σ (B 0) j) ∧ zMQ s B pk out ((pos + 7) / 8 * 8) := by
  obtain ⟨a, ⟨b1, b2, b3⟩, ⟨c1, c2, c3⟩, ⟨d1, d2, d3⟩⟩ := id h
  have l1 : zk σ (B 0) = 12 := a.2.1
  have c0 : nI (pos % 8) ≤ 0 ↔ pos % 8 ≤ 0 := nI_leI (b := 0) (by omega) (by decide)
  have a3 : nI (pos / 8) + 1 = nI (pos / 8 + 1) := nI_1 _
  have hq := h.at (p' := (pos + 7) / 8 * 8) (by omega)
  have e1 : (pos + 7) / 8 * 8 / 8 = (pos + 7) / 8 := Nat.mul_div_cancel _ (by decide)
  have e2 : (pos + 7) / 8 * 8 % 8 = 0 := Nat.mul_mod_left _ _
  rw [e1, e2] at hq
  refine ⟨_, ?_, zsm2, fun j h16 h17 => ?_, hq⟩
  · unfold fX12_evenOut fX12_evenOut_21
    by_cases z : pos % 8 ≤ 0
    · have : (pos + 7) / 8 = pos / 8 := by omega
      rw [this]
      simp only [oGI, oPI, zk_uI, l1, c1, c2, c0, z, ↓reduceIte]
      rfl
    · have : (pos + 7) / 8 = pos / 8 + 1 := by omega
      rw [this]
      simp only [oGI, oPI, zk_uI, l1, c1, c2, c0, z, a3, ↓reduceIte]
      rfl
  · rw [zi_uI, if_neg (fun w => h17 w.2), zi_uI, if_neg (fun w => h16 w.2)]
theorem m_emit (h : zMQ σ B pk out pos) (v : Int32) : ∃ s, fX12_emit σ (B 0) v = some s ∧ zsm (fun a => a = B 0 ∨ a = B 9) σ s ∧ (∀ j, j ≠ 18 → j ≠ 19 → zi s (B 0) j = zi σ (B 0) j) ∧ ((out.length = 1100 ∧ zi s (B 0) 18 = 1 ∧ zMQ s B pk out pos) ∨ (out.length < 1100 ∧ zi s (B 0) 18 = zi σ (B 0) 18 ∧ zMQ s B pk (out ++ [v.toBitVec.toNat % 256]) pos)) := by
  obtain ⟨a, ⟨b1, b2, b3⟩, ⟨c1, c2, c3⟩, ⟨d1, d2, d3⟩⟩ := id h
  obtain ⟨l0, l1, l2, l3, l4, l5, l6, l7, l8, l9, l10, -, -, -, -, -, -, -, -, -, -, ⟨l11, l12⟩, -⟩ := id a
  have c11 : nI out.length = 1100 ↔ out.length = 1100 := nI_eq (b := 1100) (by omega) (by decide)
  have to : (nI out.length).toInt = (out.length : Int) := zt_nI (by omega)
  have n90 : B 9 ≠ B 0 := a.ne 9 0
  by_cases q : out.length = 1100
  · refine ⟨zuI σ (B 0) 18 1, ?_, zsm.rf.uI (Or.inl rfl), fun j h18 _ => by rw [zi_uI, if_neg (fun z => h18 z.2)], Or.inl ⟨q, by rw [zi_uI, if_pos ⟨rfl, rfl⟩], h.bad⟩⟩
    unfold fX12_emit
    simp only [oGI, oPZ, l1, d1, q, show nI 1100 = 1100 from rfl, or_true, and_self, ↓reduceIte]
  · have hs : zsm (fun a => a = B 0 ∨ a = B 9) σ (zuI (zuI σ (B 9) out.length ((v.toInt8.toInt32).toInt8.toInt32)) (B 0) 19 (nI (out.length + 1))) := (zsm.rf.uI (Or.inr rfl)).uI (Or.inl rfl)
    have f0 : ∀ j, j ≠ 19 → zi (zuI (zuI σ (B 9) out.length ((v.toInt8.toInt32).toInt8.toInt32)) (B 0) 19 (nI (out.length + 1))) (B 0) j = zi σ (B 0) j := fun j hj => by
      rw [zi_uI, if_neg (fun z => hj z.2), zi_uI, if_neg (fun z => n90 z.1.symm)]
    refine ⟨zuI (zuI σ (B 9) out.length ((v.toInt8.toInt32).toInt8.toInt32)) (B 0) 19 (nI (out.length + 1)), ?_, hs, fun j _ h19 => f0 j h19, Or.inr ⟨by omega, f0 18 (by decide), ?_⟩⟩
    · have i19 : zi (zuI σ (B 9) out.length ((v.toInt8.toInt32).toInt8.toInt32)) (B 0) 19 = nI out.length := by rw [zi_uI, if_neg (fun z => n90 z.1.symm)]; exact d1
      have a1 : nI out.length + 1 = nI (out.length + 1) := nI_1 _
      unfold fX12_emit
      simp only [oGI, oGR, oR, oSt, oPI, zk_uI, l1, l10, d1, c11, q, l11, l12, zle, zt0', to, znat, Int.toNat_natCast, i19, a1, ↓reduceIte]
      rw [if_pos ⟨trivial, by omega, by omega⟩]
    · refine ⟨a.of hs, ⟨by rw [f0 14 (by decide)]; exact b1, b2, fun j hj => by rw [hs.i (fun z => z.elim (a.ne 8 0) (a.ne 8 9))]; exact b3 j hj⟩, ⟨by rw [f0 16 (by decide)]; exact c1, by rw [f0 17 (by decide)]; exact c2, c3⟩, ⟨?_, by simp; omega, fun j hj => ?_⟩⟩
      · rw [zi_uI, if_pos ⟨rfl, rfl⟩]; simp
      · rw [List.length_append, List.length_singleton] at hj
        by_cases e : j = out.length
        · subst e
          rw [zgetD_end]
          unfold zby
          rw [zi_uI, if_neg (fun z => n90 z.1), zi_uI, if_pos ⟨rfl, rfl⟩, zb_narrow, zb_narrow]
        · rw [zgetD_app (by omega), ← d3 j (by omega)]
          unfold zby
          rw [zi_uI, if_neg (fun z => n90 z.1), zi_uI, if_neg (fun z => e z.2)]
end PMOD
