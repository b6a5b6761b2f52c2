/-! the reference's plain and fixed blocks -/
theorem numS_byte (p : Nat → Nat) (q : Nat) (h : p q < 256) : numS p (8 * q) 8 = p q := by
  have e : ∀ k, k < 8 → bitS p (8 * q + k) = p q / 2 ^ k % 2 := fun k hk => by
    unfold bitS
    rw [show (8 * q + k) / 8 = q by omega, show (8 * q + k) % 8 = k by omega]
  simp only [numS, e 0 (by decide), e 1 (by decide), e 2 (by decide), e 3 (by decide), e 4 (by decide), e 5 (by decide), e 6 (by decide), e 7 (by decide), Nat.reducePow]
  omega
theorem numS_add (p : Nat → Nat) (pos a : Nat) : ∀ b, numS p pos (a + b) = numS p pos a + numS p (pos + a) b * 2 ^ a
  | 0 => by simp [numS]
  | b + 1 => by
    rw [← Nat.add_assoc, numS, numS, numS_add p pos a b, Nat.add_mul, Nat.mul_assoc, ← Nat.pow_add, Nat.add_comm b a, Nat.add_assoc, Nat.add_assoc]
theorem ztake_end {l : List Nat} {fr i : Nat} (h : fr + i < l.length) : (l.drop fr).take (i + 1) = (l.drop fr).take i ++ [l.getD (fr + i) 0] := by
  rw [List.take_succ, List.getElem?_drop, List.getD_eq_getElem?_getD, List.getElem?_eq_getElem h]
  rfl
/-- what unpacking may change -/
def zfr (B : Nat → Nat) (σ s : zS) : Prop := zsm (fun a => a = B 0 ∨ a = B 9 ∨ a = B 10 ∨ a = B 11) σ s ∧ ∀ j, j ≠ 16 → j ≠ 17 → j ≠ 18 → j ≠ 19 → zi s (B 0) j = zi σ (B 0) j
section PMPLAIN
variable {σ : zS} {B : Nat → Nat} {pk out : List Nat} {pos : Nat}
theorem zfr.trans {s t : zS} (h : zfr B σ s) (h2 : zfr B s t) : zfr B σ t := ⟨h.1.trans h2.1, fun j a b c d => (h2.2 j a b c d).trans (h.2 j a b c d)⟩
theorem zfr.rf : zfr B σ σ := ⟨zsm.rf, fun _ _ _ _ _ => rfl⟩
theorem zft.zfr {s : zS} (h : zft B σ s) : zfr B σ s := ⟨h.1.mono (fun a z => z.elim (fun z => Or.inl z) (fun z => Or.inr (Or.inl z))), h.2⟩
theorem zfs.zfr {s : zS} (h : zfs B σ s) : zfr B σ s := h.zft.zfr
theorem zfr.bad {s : zS} (h : zfr B σ s) {v : Int32} : zfr B σ (zuI s (B 0) 18 v) := h.trans (zfs.rf.bad).zfr
theorem zMR.bad {s : zS} {x : Option (Nat × List Nat)} (h : ∃ o p, zMQ s B pk o p) (hx : x = none) : zMR (zuI s (B 0) 18 1) B pk x := by
  obtain ⟨o, p, h⟩ := h
  exact Or.inl ⟨hx, zi_bad, o, p, h.bad⟩
theorem takeS_at {pk : List Nat} {pos m v p' : Nat} (h : takeS pk pos m = some (v, p')) : v = numS (pb pk) pos m ∧ pos + m ≤ 8 * pk.length := by
  unfold takeS at h
  by_cases z : pos + m ≤ 8 * pk.length
  · rw [if_pos z] at h; cases h; exact ⟨rfl, z⟩
  · rw [if_neg z] at h; cases h
theorem takeS_no {pk : List Nat} {pos m : Nat} (h : takeS pk pos m = none) : ¬ pos + m ≤ 8 * pk.length := fun z => by
  unfold takeS at h
  rw [if_pos z] at h; cases h
theorem m_plain (h : zMQ σ B pk out pos) (hb : zi σ (B 0) 18 = 0) : ∃ s, fX12_plain σ (B 0) = some s ∧ zft B σ s ∧ zMR s B pk (plainS pk pos out) := by
  have k0 : zk σ (B 0) = 12 := h.1.2.1
  have h34 : ∀ s v, zft B σ s → (∃ o p, zMQ s B pk o p) → plainS pk pos out = none → ∃ s', fX12_plain_34 s (B 0) v (B 0) = some s' ∧ zft B σ s' ∧ zMR s' B pk (plainS pk pos out) := fun s v hs hq hn => by
    have ks : zk s (B 0) = 12 := by rw [hs.1.k]; exact k0
    refine ⟨zuI s (B 0) 18 1, ?_, hs.bad, zMR.bad hq hn⟩
    have e1 : bX12_plain_44 (B 0) v 0 (zuI s (B 0) 18 1) = some (.inr (zuI s (B 0) 18 1)) := by
      unfold bX12_plain_44
      by_cases q : v ≤ 0
      · rw [if_pos q]
      · rw [if_neg q, oGI_eq (by rw [zk_uI]; exact ks) zi_bad, if_neg (by decide)]
    unfold fX12_plain_34 fX12_plain_39
    rw [oPZ_eq ks (Or.inr rfl), oB_eq (zloop_one (body := fun x => bX12_plain_44 (B 0) v x.1 x.2) (x := (0, zuI s (B 0) 18 1)) e1)]
  obtain ⟨s1, e1, m1, f1, h1⟩ := m_even h
  have z1 : zfs B σ s1 := ⟨m1, fun j a b _ => f1 j a b⟩
  have k1 : zk s1 (B 0) = 12 := by rw [m1.k]; exact k0
  obtain ⟨r2, s2, e2, m2, f2, w2⟩ := m_bits h1 (m := 16) (by decide)
  have e2' : fX12_bits s1 (B 0) 16 = some (r2, s2) := e2
  have z2 : zfs B σ s2 := z1.trans ⟨m2, f2⟩
  have k2 : zk s2 (B 0) = 12 := by rw [m2.k]; exact k1
  have hb1 : zi s1 (B 0) 18 = 0 := (f1 18 (by decide) (by decide)).trans hb
  have hx : ∃ p, zMQ s2 B pk out p := by
    rcases w2 with ⟨-, -, -, q⟩ | ⟨v, -, -, -, -, q⟩
    · exact ⟨_, q⟩
    · exact ⟨_, q⟩
  unfold fX12_plain
  rw [oA_eq k0, oB_eq e1, oA_eq k1, oC_eq e2', oA_eq k2]
  rcases w2 with ⟨t1, t2, t3, t4⟩ | ⟨n, t1, t2, t3, t4, t5⟩
  · obtain ⟨r3, s3, e3, m3, f3, w3⟩ := m_bits t4 (m := 16) (by decide)
    have e3' : fX12_bits s2 (B 0) 16 = some (r3, s3) := e3
    have z3 : zfs B σ s3 := z2.trans ⟨m3, f3⟩
    have k3 : zk s3 (B 0) = 12 := by rw [m3.k]; exact k2
    rw [oC_eq e3']
    have hbad : zi s3 (B 0) 18 = 1 := by
      rcases w3 with ⟨-, -, q, -⟩ | ⟨v, -, -, -, q, -⟩
      · exact q
      · exact q.trans t3
    have hq : ∃ o p, zMQ s3 B pk o p := by
      rcases w3 with ⟨-, -, -, q⟩ | ⟨v, -, -, -, -, q⟩
      · exact ⟨_, _, q⟩
      · exact ⟨_, _, q⟩
    rw [oGI_eq k3 hbad, if_neg (by decide)]
    exact h34 s3 _ z3.zft hq (by unfold plainS; rw [t1])
  · subst t2
    obtain ⟨r3, s3, e3, m3, f3, w3⟩ := m_bits t5 (m := 16) (by decide)
    have e3' : fX12_bits s2 (B 0) 16 = some (r3, s3) := e3
    have z3 : zfs B σ s3 := z2.trans ⟨m3, f3⟩
    have k3 : zk s3 (B 0) = 12 := by rw [m3.k]; exact k2
    rw [oC_eq e3']
    rcases w3 with ⟨u1, u2, u3, u4⟩ | ⟨t, u1, u2, u3, u4, u5⟩
    · rw [oGI_eq k3 u3, if_neg (by decide)]
      exact h34 s3 _ z3.zft ⟨_, _, u4⟩ (by unfold plainS; rw [t1]; dsimp only; rw [u1])
    · subst u2
      have hb3 : zi s3 (B 0) 18 = 0 := u4.trans (t4.trans hb1)
      have hxr : nI n ^^^ nI t = nI (n ^^^ t) := zxor n t
      have hxb : n ^^^ t < 65536 := Nat.xor_lt_two_pow (n := 16) t3 u3
      have hxe : nI (n ^^^ t) = 65535 ↔ n ^^^ t = 65535 := nI_eq (a := n ^^^ t) (b := 65535) (by omega) (by omega)
      have hn16 : n < 65536 := t3
      generalize hp2 : (pos + 7) / 8 * 8 + 16 + 16 = p2 at u5
      have hps : plainS pk pos out = if n ^^^ t = 65535 ∧ p2 / 8 + n ≤ pk.length ∧ out.length + n ≤ 1100 then some (p2 + n * 8, out ++ (pk.drop (p2 / 8)).take n) else none := by
        unfold plainS
        rw [t1]
        dsimp only
        rw [u1]
        dsimp only
        rw [hp2]
      have hm8 : 8 * (p2 / 8) = p2 := by omega
      rw [oGI_eq k3 hb3, if_pos rfl, hxr]
      by_cases q1 : n ^^^ t = 65535
      · rw [if_pos (hxe.mpr q1)]
        have q0 : zMQ (zuI s3 (B 0) 18 0) B pk out p2 := u5.bad
        have z4 : zft B σ (zuI s3 (B 0) 18 0) := z3.zft.bad
        have k4 : zk (zuI s3 (B 0) 18 0) (B 0) = 12 := by rw [zk_uI]; exact k3
        have b4 : zi (zuI s3 (B 0) 18 0) (B 0) 18 = 0 := zi_bad
        have e39 : fX12_plain_39 s3 (B 0) (nI n) 0 (B 0) = oB (zloop zF (fun x => bX12_plain_44 (B 0) (nI n) x.1 x.2) (0, zuI s3 (B 0) 18 0)) (fun b1 => some b1) := by
          unfold fX12_plain_39
          rw [oPZ_eq k3 (Or.inl rfl)]
        generalize zuI s3 (B 0) 18 0 = s4 at q0 z4 k4 b4 e39
        obtain ⟨s, e, p1, p3⟩ := zloop_cnt (body := fun x => bX12_plain_44 (B 0) (nI n) x.1 x.2)
          (fun i x => x.1 = nI i ∧ zft B σ x.2 ∧ ((zi x.2 (B 0) 18 = 0 ∧ p2 / 8 + i ≤ pk.length ∧ out.length + i ≤ 1100 ∧ zMQ x.2 B pk (out ++ (pk.drop (p2 / 8)).take i) (p2 + i * 8)) ∨ (zi x.2 (B 0) 18 = 1 ∧ ¬ (p2 / 8 + n ≤ pk.length ∧ out.length + n ≤ 1100) ∧ ∃ o p, zMQ x.2 B pk o p))) n
          (fun s => zft B σ s ∧ zMR s B pk (plainS pk pos out))
          (fun i x hi hx => by
            obtain ⟨k, s⟩ := x
            obtain ⟨x1, x2, x3⟩ := hx
            dsimp only at x1 x2 x3
            subst x1
            have c1 : ¬ nI n ≤ nI i := by rw [nI_leI (by omega) (by omega)]; omega
            have ks : zk s (B 0) = 12 := by rw [x2.1.k]; exact k0
            rcases x3 with ⟨g1, g2, g3, g4⟩ | ⟨g1, g2, g3⟩
            · obtain ⟨r5, s5, e5, m5, f5, w5⟩ := m_bits g4 (m := 8) (by decide)
              have e5' : fX12_bits s (B 0) 8 = some (r5, s5) := e5
              have k5 : zk s5 (B 0) = 12 := by rw [m5.k]; exact ks
              have z5 : zft B σ s5 := x2.trans (show zfs B s s5 from ⟨m5, f5⟩).zft
              rcases w5 with ⟨v1, v2, v3, v4⟩ | ⟨v, v1, v2, v3, v4, v5⟩
              · have hno := takeS_no v1
                refine Or.inl ⟨(nI (i + 1), s5), ?_, rfl, z5, Or.inr ⟨v3, by omega, _, _, v4⟩⟩
                show bX12_plain_44 _ _ _ _ = _
                unfold bX12_plain_44 fX12_plain_77
                rw [if_neg c1, oGI_eq ks g1, if_pos rfl, oA_eq ks, oC_eq e5', oGI_eq k5 v3, if_neg (by decide), oL_eq, nI_1]
              · subst v2
                obtain ⟨y1, y2⟩ := takeS_at v1
                have hbyte : v = pk.getD (p2 / 8 + i) 0 := by
                  have : p2 + i * 8 = 8 * (p2 / 8 + i) := by omega
                  rw [y1, this, numS_byte (pb pk) (p2 / 8 + i) (h.2.1.2.2 (p2 / 8 + i) (by omega)).2]
                  rfl
                have hv256 : v < 256 := v3
                have hb5 : zi s5 (B 0) 18 = 0 := v4.trans g1
                obtain ⟨s6, e6, m6, f6, w6⟩ := m_emit v5 (nI v)
                have z6 : zft B σ s6 := z5.trans ⟨m6, fun j _ _ c d => f6 j c d⟩
                have hlen : (out ++ (pk.drop (p2 / 8)).take i).length = out.length + i := by
                  rw [List.length_append, List.length_take, List.length_drop]
                  omega
                refine Or.inl ⟨(nI (i + 1), s6), ?_, rfl, z6, ?_⟩
                · show bX12_plain_44 _ _ _ _ = _
                  unfold bX12_plain_44 fX12_plain_77
                  rw [if_neg c1, oGI_eq ks g1, if_pos rfl, oA_eq ks, oC_eq e5', oGI_eq k5 hb5, if_pos rfl, oA_eq k5, oB_eq e6, oL_eq, nI_1]
                · rw [hlen] at w6
                  rcases w6 with ⟨j1, j2, j3⟩ | ⟨j1, j2, j3⟩
                  · exact Or.inr ⟨j2, by omega, _, _, j3⟩
                  · refine Or.inl ⟨j2.trans hb5, by omega, by omega, ?_⟩
                    rw [zbv_nat (by omega), Nat.mod_eq_of_lt hv256, List.append_assoc, hbyte, ← ztake_end (by omega)] at j3
                    have : p2 + i * 8 + 8 = p2 + (i + 1) * 8 := by omega
                    rw [this] at j3
                    exact j3
            · refine Or.inr ⟨s, ?_, x2, Or.inl ⟨by rw [hps, if_neg (fun z => g2 z.2)], g1, g3⟩⟩
              show bX12_plain_44 _ _ _ _ = _
              unfold bX12_plain_44
              rw [if_neg c1, oGI_eq ks g1, if_neg (by decide)])
          (fun x hx => by
            obtain ⟨k, s⟩ := x
            obtain ⟨x1, x2, x3⟩ := hx
            dsimp only at x1 x2 x3
            subst x1
            refine ⟨s, ?_, x2, ?_⟩
            · show bX12_plain_44 _ _ _ _ = _
              unfold bX12_plain_44
              simp only [zle, Int.le_refl, ↓reduceIte]
            · rcases x3 with ⟨g1, g2, g3, g4⟩ | ⟨g1, g2, g3⟩
              · exact Or.inr ⟨_, _, by rw [hps, if_pos ⟨q1, g2, g3⟩], g1, g4⟩
              · exact Or.inl ⟨by rw [hps, if_neg (fun z => g2 z.2)], g1, g3⟩) zF (0, s4) ⟨nI_0.symm, z4, Or.inl ⟨b4, by have := u5.2.2.1.2.2; omega, u5.2.2.2.2.1, by simpa using q0⟩⟩ (by unfold zF; omega)
        exact ⟨s, by rw [e39, oB_eq e], p1, p3⟩
      · rw [if_neg (fun z => q1 (hxe.mp z))]
        exact h34 s3 _ z3.zft ⟨_, _, u5⟩ (by rw [hps, if_neg (fun z => q1 z.1)])
theorem zCM.keep {s : zS} {fr M fr' M' : Nat} {len : Nat → Nat} (h : zCM σ B fr len M) (hs : zsm (fun a => a = B 0 ∨ a = B 11) σ s) (hB : zML σ B) (hk : ∀ j, (j < fr' ∨ fr' + M' ≤ j) → zi s (B 11) j = zi σ (B 11) j) (hd : fr + M ≤ fr') : zCM s B fr len M :=
  ⟨fun j hj => ⟨(h.1 j hj).1, by rw [hs.i (fun z => z.elim (hB.ne 10 0) (hB.ne 10 11))]; exact (h.1 j hj).2⟩, fun j hj h0 => by rw [hk _ (Or.inl (by omega))]; exact h.2 j hj h0⟩
theorem zfr_make {s : zS} (hs : zsm (fun a => a = B 0 ∨ a = B 11) σ s) (hf : ∀ j, j ≠ 18 → zi s (B 0) j = zi σ (B 0) j) : zfr B σ s := ⟨hs.mono (fun a z => z.elim (fun z => Or.inl z) (fun z => Or.inr (Or.inr (Or.inr z)))), fun j _ _ c _ => hf j c⟩
theorem zfr_len {s : zS} (h : zML σ B) (hs : zsm (fun a => a = B 10) σ s) : zfr B σ s := ⟨hs.mono (fun a z => Or.inr (Or.inr (Or.inl z))), fun j _ _ _ _ => hs.i (h.ne 0 10) j⟩
theorem zMQ.len {s : zS} (h : zMQ σ B pk out pos) (hs : zsm (fun a => a = B 10) σ s) : zMQ s B pk out pos := h.of hs (fun j _ => hs.i (h.1.ne 0 10) j) (h.1.ne 8 10) (h.1.ne 9 10)
theorem m_fixed (h : zMQ σ B pk out pos) (hb : zi σ (B 0) 18 = 0) : ∃ s, fX12_fixed σ (B 0) = some s ∧ zfr B σ s ∧ zMR s B pk (codedS pk fixL 288 fixD 32 pos out) := by
  obtain ⟨l0, k0, -, -, -, -, -, -, -, -, -, r10, -, -, -, -, -, -, -, -, -, -, ⟨k10, n10⟩, -⟩ := id h.1
  obtain ⟨s1, e1, m1, f1⟩ := zloop_cnt (body := fun x => bX12_fixed_2 (B 0) x.1 x.2) (fun i x => x.1 = nI i ∧ zsm (fun a => a = B 10) σ x.2 ∧ ∀ j, j < i → zi x.2 (B 10) j = nI (fixL j)) 288 (fun s => zsm (fun a => a = B 10) σ s ∧ ∀ j, j < 288 → zi s (B 10) j = nI (fixL j))
    (fun i x hi hx => by
      obtain ⟨k, s⟩ := x
      obtain ⟨x1, x2, x3⟩ := hx
      dsimp only at x1 x2 x3
      subst x1
      have ti : (nI i).toInt = (i : Int) := zt_nI (by omega)
      have t1 : (288 : Int32).toInt = 288 := by decide
      have t2 : (144 : Int32).toInt = 144 := by decide
      have t3 : (256 : Int32).toInt = 256 := by decide
      have t4 : (280 : Int32).toInt = 280 := by decide
      have a1 : nI i + 1 = nI (i + 1) := nI_1 i
      refine Or.inl ⟨(nI (i + 1), zuI s (B 10) i (nI (fixL i))), ?_, rfl, x2.uI rfl, fun j hj => ?_⟩
      · unfold bX12_fixed_2 fX12_fixed_52
        simp only [oGR, oR, oSt, oL, x2.k, x2.n, x2.r, k0, r10, k10, n10, zle, ti, t1, t2, t3, t4, zt0', znat, Int.toNat_natCast, a1, ↓reduceIte]
        rw [if_neg (by omega)]
        have hin : (True ∧ (0 : Int) ≤ (i : Int) ∧ i < 380) := ⟨trivial, by omega, by omega⟩
        simp only [if_pos hin]
        unfold fixL
        by_cases c1 : i < 144
        · rw [if_neg (by omega), if_pos c1]; rfl
        · rw [if_pos (by omega), if_neg c1]
          by_cases c2 : i < 256
          · rw [if_neg (by omega), if_pos c2]; rfl
          · rw [if_pos (by omega), if_neg c2]
            by_cases c3 : i < 280
            · rw [if_neg (by omega), if_pos c3]; rfl
            · rw [if_pos (by omega), if_neg c3]; rfl
      · rw [zi_uI]
        by_cases q : j = i
        · rw [if_pos ⟨rfl, q⟩, q]
        · rw [if_neg (fun z => q z.2)]; exact x3 j (by omega))
    (fun x hx => by
      obtain ⟨k, s⟩ := x
      obtain ⟨x1, x2, x3⟩ := hx
      dsimp only at x1 x2 x3
      subst x1
      refine ⟨s, ?_, x2, x3⟩
      unfold bX12_fixed_2
      have hd : (288 : Int32) ≤ nI 288 := by decide
      exact if_pos hd) zF (0, σ) ⟨nI_0.symm, zsm.rf, fun j hj => absurd hj (Nat.not_lt_zero j)⟩ (by unfold zF; omega)
  obtain ⟨s2, e2, m2, f2, g2⟩ := zloop_cnt (body := fun x => bX12_fixed_61 (B 0) x.1 x.2) (fun i x => x.1 = nI i ∧ zsm (fun a => a = B 10) σ x.2 ∧ (∀ j, j < 288 → zi x.2 (B 10) j = nI (fixL j)) ∧ ∀ j, j < i → zi x.2 (B 10) (320 + j) = nI (fixD j)) 32 (fun s => zsm (fun a => a = B 10) σ s ∧ (∀ j, j < 288 → zi s (B 10) j = nI (fixL j)) ∧ ∀ j, j < 32 → zi s (B 10) (320 + j) = nI (fixD j))
    (fun i x hi hx => by
      obtain ⟨k, s⟩ := x
      obtain ⟨x1, x2, x3, x4⟩ := hx
      dsimp only at x1 x2 x3 x4
      subst x1
      have ti : (nI i).toInt = (i : Int) := zt_nI (by omega)
      have t1 : (32 : Int32).toInt = 32 := by decide
      have a1 : nI i + 1 = nI (i + 1) := nI_1 i
      have a2 : (320 : Int32) + nI i = nI (320 + i) := nI_add 320 i
      have t2 : (nI (320 + i)).toInt = ((320 + i : Nat) : Int) := zt_nI (by omega)
      refine Or.inl ⟨(nI (i + 1), zuI s (B 10) (320 + i) 5), ?_, rfl, x2.uI rfl, fun j hj => ?_, fun j hj => ?_⟩
      · unfold bX12_fixed_61
        simp only [oGR, oR, oSt, oL, x2.k, x2.n, x2.r, k0, r10, k10, n10, zle, ti, t1, zt0', znat, a1, a2, t2, Int.toNat_natCast, ↓reduceIte]
        rw [if_neg (by omega), if_pos ⟨trivial, by omega, by omega⟩]
      · rw [zi_uI, if_neg (fun z => by omega)]; exact x3 j hj
      · rw [zi_uI]
        by_cases q : j = i
        · rw [if_pos ⟨rfl, by omega⟩]; rfl
        · rw [if_neg (fun z => by omega)]; exact x4 j (by omega))
    (fun x hx => by
      obtain ⟨k, s⟩ := x
      obtain ⟨x1, x2, x3, x4⟩ := hx
      dsimp only at x1 x2 x3 x4
      subst x1
      refine ⟨s, ?_, x2, x3, x4⟩
      unfold bX12_fixed_61
      have hd : (32 : Int32) ≤ nI 32 := by decide
      exact if_pos hd) zF (0, s1) ⟨nI_0.symm, m1, f1, fun j hj => absurd hj (Nat.not_lt_zero j)⟩ (by unfold zF; omega)
  have h2 : zMQ s2 B pk out pos := h.len m2
  have b2 : zi s2 (B 0) 18 = 0 := (m2.i (h.1.ne 0 10) 18).trans hb
  have k2 : zk s2 (B 0) = 12 := by rw [m2.k]; exact k0
  obtain ⟨s3, e3, m3, f3, g3, h3, c3, w3⟩ := m_make (len := fixL) (M := 288) (fr := 0) (lk := 0) h2 (Or.inl rfl) (by decide) (by decide) (fun j hj => ⟨fixL_le j, by rw [Nat.zero_add]; exact f2 j hj⟩) (Or.inl b2)
  have hl3 : leftS fixL 288 15 = 0 := by decide +kernel
  have b3 : zi s3 (B 0) 18 = 0 := by
    rcases w3 with ⟨q, -⟩ | ⟨-, q⟩
    · exact q
    · exact absurd ⟨b2, Or.inl hl3⟩ q
  have k3 : zk s3 (B 0) = 12 := by rw [m3.k]; exact k2
  have n10' : ¬ (B 10 = B 0 ∨ B 10 = B 11) := fun z => z.elim (h.1.ne 10 0) (h.1.ne 10 11)
  obtain ⟨s4, e4, m4, f4, g4, h4, c4, w4⟩ := m_make (len := fixD) (M := 32) (fr := 320) (lk := 0) h3 (Or.inl rfl) (by decide) (by decide) (fun j hj => ⟨by unfold fixD; decide, by rw [m3.i n10']; exact g2 j hj⟩) (Or.inl b3)
  have hl4 : leftS fixD 32 15 = 0 := by decide +kernel
  have b4 : zi s4 (B 0) 18 = 0 := by
    rcases w4 with ⟨q, -⟩ | ⟨-, q⟩
    · exact q
    · exact absurd ⟨b3, Or.inl hl4⟩ q
  have k4 : zk s4 (B 0) = 12 := by rw [m4.k]; exact k3
  have e3' : fX12_makeCodes s2 (B 0) 0 288 0 = some s3 := e3
  have e4' : fX12_makeCodes s3 (B 0) 320 32 0 = some s4 := e4
  obtain ⟨s5, e5, z5, w5⟩ := m_coded (L := fixL) (D := fixD) (M := 288) (Dn := 32) h4 b4 (c3.keep m4 h3.1 g4 (by decide)) c4 (by decide) (by decide)
  have e5' : fX12_coded s4 (B 0) 288 32 = some s5 := e5
  refine ⟨s5, ?_, ((zfr_len h.1 m2).trans ((zfr_make m3 f3).trans (zfr_make m4 f4))).trans z5.zfr, w5⟩
  unfold fX12_fixed
  rw [oB_eq e1]
  dsimp only
  rw [oB_eq e2, oA_eq k2, oB_eq e3', oA_eq k3, oB_eq e4', oA_eq k4, oB_eq e5']
end PMPLAIN
