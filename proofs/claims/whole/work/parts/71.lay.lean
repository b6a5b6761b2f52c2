/-! the class's whole layout, by an address map C: 0 the object, 1 2 sums, 3 4 tape, 5 reader, 6-24 unpacker, 25-44 and 45-64 the two reels, 65 writer, 66 67 file, 68 screen, 69 70 its pixels -/
def RLL (σ : zS) (Q : Nat → Nat) : Prop := zk σ (Q 0) = 6 ∧ zr σ (Q 0) 0 = some (Q 1) ∧ zr σ (Q 0) 1 = some (Q 18) ∧ zk σ (Q 1) = 22 ∧ zn σ (Q 1) = 8 ∧ (∀ f, f < 8 → zr σ (Q 1) f = some (Q (2 + 2 * f))) ∧ ∀ f, f < 9 → PCL σ (Q (2 + 2 * f)) (Q (3 + 2 * f))
def BYL (σ : zS) (b c N : Nat) : Prop := zk σ b = 2 ∧ zr σ b 0 = some c ∧ zk σ c = 20 ∧ zn σ c = N
def CLL (σ : zS) (C : Nat → Nat) : Prop :=
  (∀ i j, i < 71 → j < 71 → C i = C j → i = j) ∧ (zk σ (C 0) = 11 ∧ zr σ (C 0) 0 = some (C 3) ∧ zr σ (C 0) 1 = some (C 5) ∧ zr σ (C 0) 2 = some (C 65) ∧ zr σ (C 0) 3 = some (C 68)) ∧ SML σ (C 1) (C 2) ∧ BYL σ (C 3) (C 4) 8000 ∧
  (zk σ (C 5) = 5 ∧ zr σ (C 5) 0 = some (C 3) ∧ zr σ (C 5) 1 = some (C 1) ∧ zr σ (C 5) 2 = some (C 6)) ∧ UL σ (fun i => C (6 + i)) ∧ BYL σ (C 7) (C 8) 8000 ∧ BYL σ (C 9) (C 10) 1100 ∧ RLL σ (fun i => C (25 + i)) ∧ RLL σ (fun i => C (45 + i)) ∧
  (zk σ (C 65) = 10 ∧ zr σ (C 65) 0 = some (C 66) ∧ zr σ (C 65) 1 = some (C 1)) ∧ BYL σ (C 66) (C 67) 9968 ∧ (zk σ (C 68) = 7 ∧ zr σ (C 68) 0 = some (C 69) ∧ zr σ (C 68) 1 = some (C 70) ∧ (zk σ (C 69) = 21 ∧ zn σ (C 69) = 256) ∧ (zk σ (C 70) = 21 ∧ zn σ (C 70) = 256))
section PLAY
variable {σ σ' : zS} {C : Nat → Nat} {S : Nat → Prop}
theorem RLL.of {Q : Nat → Nat} (h : RLL σ Q) (hs : zsm S σ σ') : RLL σ' Q := by
  unfold RLL PCL
  rw [hs.k, hs.n, hs.r]
  exact h
theorem CLL.of (h : CLL σ C) (hs : zsm S σ σ') : CLL σ' C := by
  obtain ⟨h1, h2, h3, h4, h5, h6, h7, h8, h9, h10, h11, h12, h13⟩ := h
  refine ⟨h1, ?_, ?_, ?_, ?_, h6.of hs, ?_, ?_, h9.of hs, h10.of hs, ?_, ?_, ?_⟩
  · rw [hs.k, hs.r]; exact h2
  · unfold SML; rw [hs.k, hs.r, hs.n]; exact h3
  · unfold BYL; rw [hs.k, hs.r, hs.n]; exact h4
  · rw [hs.k, hs.r]; exact h5
  · unfold BYL; rw [hs.k, hs.r, hs.n]; exact h7
  · unfold BYL; rw [hs.k, hs.r, hs.n]; exact h8
  · rw [hs.k, hs.r]; exact h11
  · unfold BYL; rw [hs.k, hs.r, hs.n]; exact h12
  · rw [hs.k, hs.r, hs.n]; exact h13
theorem CLL.ne (h : CLL σ C) (i j : Nat) (hi : i < 71 := by decide) (hj : j < 71 := by decide) (hij : i ≠ j := by decide) : C i ≠ C j := fun e => hij (h.1 i j hi hj e)
theorem CLL.k0 (h : CLL σ C) : zk σ (C 0) = 11 := h.2.1.1
theorem CLL.tp (h : CLL σ C) : zr σ (C 0) 0 = some (C 3) := h.2.1.2.1
theorem CLL.rd (h : CLL σ C) : zr σ (C 0) 1 = some (C 5) := h.2.1.2.2.1
theorem CLL.wr (h : CLL σ C) : zr σ (C 0) 2 = some (C 65) := h.2.1.2.2.2.1
theorem CLL.sc (h : CLL σ C) : zr σ (C 0) 3 = some (C 68) := h.2.1.2.2.2.2
theorem CLL.sm (h : CLL σ C) : SML σ (C 1) (C 2) := h.2.2.1
theorem CLL.k5 (h : CLL σ C) : zk σ (C 5) = 5 := h.2.2.2.2.1.1
theorem CLL.ul (h : CLL σ C) : UL σ (fun i => C (6 + i)) := h.2.2.2.2.2.1
theorem CLL.wrl (h : CLL σ C) : zk σ (C 65) = 10 ∧ zr σ (C 65) 0 = some (C 66) ∧ zr σ (C 65) 1 = some (C 1) := h.2.2.2.2.2.2.2.2.2.2.1
theorem CLL.scl (h : CLL σ C) : zk σ (C 68) = 7 ∧ zr σ (C 68) 0 = some (C 69) ∧ zr σ (C 68) 1 = some (C 70) ∧ (zk σ (C 69) = 21 ∧ zn σ (C 69) = 256) ∧ (zk σ (C 70) = 21 ∧ zn σ (C 70) = 256) := h.2.2.2.2.2.2.2.2.2.2.2.2
theorem CLL.rl (h : CLL σ C) {b : Nat} (hb : b = 25 ∨ b = 45) : RLL σ (fun i => C (b + i)) := by
  rcases hb with hb | hb
  · subst hb; exact h.2.2.2.2.2.2.2.2.1
  · subst hb; exact h.2.2.2.2.2.2.2.2.2.1
end PLAY
/-! the tape -/
def TPm (σ : zS) (B : Nat → Nat) (tp : List Nat) : Prop := zi σ (B 0) 1 = nI tp.length ∧ tp.length ≤ 8000 ∧ ∀ j, j < tp.length → zi σ (B 1) j = sx (tp.getD j 0) ∧ tp.getD j 0 < 256
def byS (w : Int32) : Nat → List Nat
  | 0 => []
  | m + 1 => (w.toBitVec.toNat / 2 ^ (8 * m) % 256) :: byS w m
theorem byS_len (w : Int32) : ∀ m, (byS w m).length = m
  | 0 => rfl
  | m + 1 => by rw [byS, List.length_cons, byS_len w m]
theorem byS_4 (w : Int32) : byS w 4 = zb4 w := by
  unfold zb4
  simp only [byS, Nat.reduceMul, Nat.reducePow, Nat.div_one]
def typeS (tp : List Nat) (w n : Int32) : Int32 × List Nat := if n.toInt < 1 ∨ 4 < n.toInt then (-12, tp) else if 8000 < tp.length + n.toInt.toNat then (-14, tp) else (nI (tp.length + n.toInt.toNat), tp ++ byS w n.toInt.toNat)
def wordsS (tp : List Nat) (a b c d : Int32) : Int32 × List Nat := if 8000 < tp.length + 16 then (-14, tp) else (nI (tp.length + 16), tp ++ zb4 a ++ zb4 b ++ zb4 c ++ zb4 d)
theorem zm1 (r : Nat) : nI r + (-1 : Int32) = nI r - 1 := (Int32.sub_eq_add_neg (nI r) 1).symm
theorem zm1n (r : Nat) (h : r < 1000) : nI r - 1 < 0 ↔ r = 0 := by
  have t1 : (1 : Int32).toInt = 1 := by decide
  have tr : (nI r).toInt = (r : Int) := zt_nI (by omega)
  rw [zlt, zt_sub (by rw [tr, t1]; omega) (by rw [tr, t1]; omega), tr, t1, zt0']
  omega
section PTYPE
variable {σ : zS} {C B : Nat → Nat} {tp : List Nat}
theorem c_type (h : CLL σ C) (ht : BL σ (C 3) (C 4) 8000 tp) (w n : Int32) : ∃ s, fX11_type σ (C 0) w n = some ((typeS tp w n).1, s) ∧ zsm (fun a => a = C 3 ∨ a = C 4) σ s ∧ BL s (C 3) (C 4) 8000 (typeS tp w n).2 := by
  have t1 : (1 : Int32).toInt = 1 := by decide
  have t4 : (4 : Int32).toInt = 4 := by decide
  have hl : tp.length ≤ 8000 := ht.1.2.2.2.2.2.1
  unfold fX11_type typeS
  by_cases d1 : n < 1
  · rw [if_pos d1]
    rw [zlt, t1] at d1
    rw [if_pos (Or.inl d1)]
    exact ⟨σ, rfl, zsm.rf, ht⟩
  · rw [if_neg d1]
    rw [zlt, t1] at d1
    by_cases d2 : n ≤ 4
    · rw [if_pos d2]
      rw [zle, t4] at d2
      rw [if_neg (by omega), oGR_eq h.k0 h.tp, oA_eq ht.1.1, oB_eq (s_fits ht.1 n)]
      obtain ⟨m, hm⟩ : ∃ m : Nat, n.toInt = (m : Int) := ⟨n.toInt.toNat, by omega⟩
      have hn : n = nI m := znI_of hm
      have hmm : n.toInt.toNat = m := by omega
      rw [hmm, hm]
      by_cases d3 : (m : Int) ≤ ((8000 : Nat) : Int) - (tp.length : Int)
      · rw [if_pos d3, if_neg (by decide), oL_eq, if_neg (by omega)]
        obtain ⟨s, e, p1, p2⟩ := zloop_cnt (body := fun x => bX11_type_31 (C 0) w x.1 x.2) (fun i x => x.1 = nI (m - i) - 1 ∧ zsm (fun a => a = C 3 ∨ a = C 4) σ x.2 ∧ ∃ pre, BL x.2 (C 3) (C 4) 8000 (tp ++ pre) ∧ pre ++ byS w (m - i) = byS w m) m (fun s => zsm (fun a => a = C 3 ∨ a = C 4) σ s ∧ BL s (C 3) (C 4) 8000 (tp ++ byS w m))
          (fun i x hi hx => by
            obtain ⟨k, s⟩ := x
            obtain ⟨x1, x2, pre, x3, x4⟩ := hx
            dsimp only at x1 x2 x3
            subst x1
            obtain ⟨r, hr⟩ : ∃ r, m - i = r + 1 := ⟨m - i - 1, by omega⟩
            have hr' : m - (i + 1) = r := by omega
            rw [hr] at x4 ⊢
            have e1 : nI (r + 1) - 1 = nI r := pk_sub (b := 1) (by omega)
            have hlen : pre.length + (r + 1) = m := by
              have := congrArg List.length x4
              rw [List.length_append, byS_len, byS_len] at this
              exact this
            have e8 : (8 : Int32) * nI r = nI (8 * r) := pk_mul 8 r
            obtain ⟨s', e', m', b'⟩ := s_addL x3 ((w.toUInt32 >>> ((nI (8 * r)).toUInt32 &&& Int32.toUInt32 31)).toInt32) (by rw [List.length_append]; omega)
            rw [zushrB w (by omega), List.append_assoc] at b'
            refine Or.inl ⟨(nI r + -1, s'), ?_, by rw [hr']; exact zm1 r, x2.trans m', _, b', ?_⟩
            · show bX11_type_31 (C 0) w (nI (r + 1) - 1) s = _
              unfold bX11_type_31
              rw [if_neg (fun z => by have := (zm1n (r + 1) (by omega)).mp z; omega), oGR_eq (by rw [x2.k]; exact h.k0) (by rw [x2.r]; exact h.tp), oA_eq x3.1.1, e1, e8, oB_eq e', oL_eq]
            · rw [hr', ← x4, byS, List.append_assoc]
              rfl)
          (fun x hx => by
            obtain ⟨k, s⟩ := x
            obtain ⟨x1, x2, pre, x3, x4⟩ := hx
            dsimp only at x1 x2 x3
            rw [Nat.sub_self] at x1 x4
            subst x1
            rw [byS, List.append_nil] at x4
            rw [x4] at x3
            refine ⟨s, ?_, x2, x3⟩
            show bX11_type_31 (C 0) w (nI 0 - 1) s = _
            unfold bX11_type_31
            rw [if_pos (by decide)]) zF (n - 1, σ) ⟨by rw [hn]; rfl, zsm.rf, [], by simpa using ht, rfl⟩ (by unfold zF; omega)
        refine ⟨s, ?_, p1, p2⟩
        rw [oB_eq e]
        dsimp only
        rw [oGR_eq (by rw [p1.k]; exact h.k0) (by rw [p1.r]; exact h.tp), oGI_eq p2.1.1 p2.1.2.2.2.2.1, List.length_append, byS_len]
      · rw [if_neg d3, if_pos rfl, if_pos (by omega)]
        exact ⟨σ, rfl, zsm.rf, ht⟩
    · rw [if_neg d2]
      rw [zle, t4] at d2
      rw [if_pos (Or.inr (by omega))]
      exact ⟨σ, rfl, zsm.rf, ht⟩
theorem c_words (h : CLL σ C) (ht : BL σ (C 3) (C 4) 8000 tp) (a b c d : Int32) : ∃ s, fX11_words σ (C 0) a b c d = some ((wordsS tp a b c d).1, s) ∧ zsm (fun a => a = C 3 ∨ a = C 4) σ s ∧ BL s (C 3) (C 4) 8000 (wordsS tp a b c d).2 := by
  have t16 : (16 : Int32).toInt = 16 := by decide
  have hl : tp.length ≤ 8000 := ht.1.2.2.2.2.2.1
  unfold fX11_words wordsS
  rw [oGR_eq h.k0 h.tp, oA_eq ht.1.1, oB_eq (s_fits ht.1 16), t16]
  by_cases d3 : (16 : Int) ≤ ((8000 : Nat) : Int) - (tp.length : Int)
  · rw [if_pos d3, if_neg (by decide), if_neg (by omega)]
    obtain ⟨s1, e1, m1, b1⟩ := s_addNumberL ht a (by omega)
    obtain ⟨s2, e2, m2, b2⟩ := s_addNumberL b1 b (by rw [List.length_append]; simp [zb4]; omega)
    obtain ⟨s3, e3, m3, b3⟩ := s_addNumberL b2 c (by simp [zb4]; omega)
    obtain ⟨s4, e4, m4, b4⟩ := s_addNumberL b3 d (by simp [zb4]; omega)
    have m12 := m1.trans m2
    have m13 := m12.trans m3
    have m14 := m13.trans m4
    refine ⟨s4, ?_, m14, b4⟩
    rw [oGR_eq h.k0 h.tp, oA_eq ht.1.1, oB_eq e1, oGR_eq (by rw [m1.k]; exact h.k0) (by rw [m1.r]; exact h.tp), oA_eq b1.1.1, oB_eq e2, oGR_eq (by rw [m12.k]; exact h.k0) (by rw [m12.r]; exact h.tp), oA_eq b2.1.1, oB_eq e3, oGR_eq (by rw [m13.k]; exact h.k0) (by rw [m13.r]; exact h.tp), oA_eq b3.1.1, oB_eq e4, oGR_eq (by rw [m14.k]; exact h.k0) (by rw [m14.r]; exact h.tp), oGI_eq b4.1.1 b4.1.2.2.2.2.1]
    have hlen : (tp ++ zb4 a ++ zb4 b ++ zb4 c ++ zb4 d).length = tp.length + 16 := by simp [zb4]
    rw [hlen]
  · rw [if_neg d3, if_pos rfl, if_pos (by omega)]
    exact ⟨σ, rfl, zsm.rf, ht⟩
/-! the reference's -/
theorem TPm.of {σ' : zS} {S : Nat → Prop} (h : TPm σ B tp) (hs : zsm S σ σ') (h0 : zi σ' (B 0) 1 = zi σ (B 0) 1) (h1 : ¬ S (B 1)) : TPm σ' B tp := ⟨h0.trans h.1, h.2.1, fun j hj => by rw [hs.i h1]; exact h.2.2 j hj⟩
theorem m_typeL (h : zML σ B) (ht : TPm σ B tp) (w : Int32) {m : Nat} (hm : tp.length + m ≤ 8000) (hm4 : m ≤ 4) : ∃ s, zloop zF (fun x => bX12_type_37 (B 0) w x.1 x.2) (nI m - 1, σ) = some s ∧ zsm (fun a => a = B 0 ∨ a = B 1) σ s ∧ (∀ j, j ≠ 1 → zi s (B 0) j = zi σ (B 0) j) ∧ TPm s B (tp ++ byS w m) := by
  obtain ⟨l0, l1, l2, -, -, -, -, -, -, -, -, -, -, ⟨k1, n1⟩, -⟩ := id h
  have n10 : B 1 ≠ B 0 := h.ne 1 0
  obtain ⟨s, e, p1, p2, p3⟩ := zloop_cnt (body := fun x => bX12_type_37 (B 0) w x.1 x.2) (fun i x => x.1 = nI (m - i) - 1 ∧ zsm (fun a => a = B 0 ∨ a = B 1) σ x.2 ∧ (∀ j, j ≠ 1 → zi x.2 (B 0) j = zi σ (B 0) j) ∧ ∃ pre, TPm x.2 B (tp ++ pre) ∧ pre ++ byS w (m - i) = byS w m) m (fun s => zsm (fun a => a = B 0 ∨ a = B 1) σ s ∧ (∀ j, j ≠ 1 → zi s (B 0) j = zi σ (B 0) j) ∧ TPm s B (tp ++ byS w m))
    (fun i x hi hx => by
      obtain ⟨k, s⟩ := x
      obtain ⟨x1, x2, x2', pre, x3, x4⟩ := hx
      dsimp only at x1 x2 x2' x3
      subst x1
      obtain ⟨r, hr⟩ : ∃ r, m - i = r + 1 := ⟨m - i - 1, by omega⟩
      have hr' : m - (i + 1) = r := by omega
      rw [hr] at x4 ⊢
      have e1 : nI (r + 1) - 1 = nI r := pk_sub (b := 1) (by omega)
      have hlen : pre.length + (r + 1) = m := by
        have := congrArg List.length x4
        rw [List.length_append, byS_len, byS_len] at this
        exact this
      have e8 : (8 : Int32) * nI r = nI (8 * r) := pk_mul 8 r
      have ks : zk s (B 0) = 12 := by rw [x2.k]; exact l1
      have hl2 : (tp ++ pre).length = tp.length + pre.length := List.length_append
      have hnn : (tp ++ pre).length < zn s (B 1) := by rw [x2.n, n1]; omega
      have i1 : zi (zuI s (B 1) (tp ++ pre).length (((w >>> (nI (8 * r) &&& 31)).toInt8.toInt32).toInt8.toInt32)) (B 0) 1 = nI (tp ++ pre).length := by rw [zi_uI, if_neg (fun z => n10 z.1.symm)]; exact x3.1
      refine Or.inl ⟨(nI r + -1, zuI (zuI s (B 1) (tp ++ pre).length (((w >>> (nI (8 * r) &&& 31)).toInt8.toInt32).toInt8.toInt32)) (B 0) 1 (nI ((tp ++ pre).length + 1))), ?_, by rw [hr']; exact zm1 r, (x2.uI (Or.inr rfl)).uI (Or.inl rfl), fun j hj => ?_, pre ++ [w.toBitVec.toNat / 2 ^ (8 * r) % 256], ⟨?_, ?_, fun j hj => ?_⟩, ?_⟩
      · show bX12_type_37 (B 0) w (nI (r + 1) - 1) s = _
        unfold bX12_type_37
        rw [if_neg (fun z => by have := (zm1n (r + 1) (by omega)).mp z; omega), oGR_eq ks (by rw [x2.r]; exact l2), oGI_eq ks x3.1, e1, e8, oSt_eq (by rw [x2.k]; exact k1) hnn (by omega), oGI_eq (by rw [zk_uI]; exact ks) i1, oPI_eq (by rw [zk_uI]; exact ks), oL_eq]
        have : nI (tp ++ pre).length + 1 = nI ((tp ++ pre).length + 1) := nI_1 _
        rw [this]
      · show zi (zuI (zuI s _ _ _) _ _ _) _ _ = _
        rw [zi_uI, if_neg (fun z => hj z.2), zi_uI, if_neg (fun z => n10 z.1.symm)]
        exact x2' j hj
      · show zi (zuI (zuI s _ _ _) _ _ _) _ _ = _
        rw [zi_uI, if_pos ⟨rfl, rfl⟩, ← List.append_assoc, List.length_append (as := tp ++ pre)]
        rfl
      · rw [← List.append_assoc, List.length_append (as := tp ++ pre), List.length_singleton]; omega
      · show zi (zuI (zuI s _ _ _) _ _ _) _ _ = _ ∧ _
        rw [← List.append_assoc] at hj ⊢
        rw [List.length_append (as := tp ++ pre), List.length_singleton] at hj
        by_cases q : j = (tp ++ pre).length
        · subst q
          rw [zgetD_end, zi_uI, if_neg (fun z => n10 z.1), zi_uI, if_pos ⟨rfl, rfl⟩, sx_of, zshrB w (by omega)]
          exact ⟨rfl, Nat.mod_lt _ (by decide)⟩
        · rw [zgetD_app (by omega), zi_uI, if_neg (fun z => n10 z.1), zi_uI, if_neg (fun z => q z.2)]
          exact x3.2.2 j (by omega)
      · rw [hr', ← x4, byS, List.append_assoc]
        rfl)
    (fun x hx => by
      obtain ⟨k, s⟩ := x
      obtain ⟨x1, x2, x2', pre, x3, x4⟩ := hx
      dsimp only at x1 x2 x2' x3
      rw [Nat.sub_self] at x1 x4
      subst x1
      rw [byS, List.append_nil] at x4
      rw [x4] at x3
      refine ⟨s, ?_, x2, x2', x3⟩
      show bX12_type_37 (B 0) w (nI 0 - 1) s = _
      unfold bX12_type_37
      rw [if_pos (by decide)]) zF (nI m - 1, σ) ⟨by rw [Nat.sub_zero], zsm.rf, fun _ _ => rfl, [], by simpa using ht, rfl⟩ (by unfold zF; omega)
  exact ⟨s, e, p1, p2, p3⟩
/-- only the object and the tape, and of the object's fields 0 and 1 -/
def zf01 (B : Nat → Nat) (σ s : zS) : Prop := zsm (fun a => a = B 0 ∨ a = B 1) σ s ∧ ∀ j, j ≠ 0 → j ≠ 1 → zi s (B 0) j = zi σ (B 0) j
theorem zf01.trans {s t : zS} (h : zf01 B σ s) (h2 : zf01 B s t) : zf01 B σ t := ⟨h.1.trans h2.1, fun j a b => (h2.2 j a b).trans (h.2 j a b)⟩
theorem m_type (h : zML σ B) (ht : TPm σ B tp) (w n : Int32) : ∃ s, fX12_type σ (B 0) w n = some ((typeS tp w n).1, s) ∧ zf01 B σ s ∧ TPm s B (typeS tp w n).2 := by
  have l1 : zk σ (B 0) = 12 := h.2.1
  have t1 : (1 : Int32).toInt = 1 := by decide
  have t4 : (4 : Int32).toInt = 4 := by decide
  have hl := ht.2.1
  have hs1 : zsm (fun a => a = B 0 ∨ a = B 1) σ (zuI σ (B 0) 0 0) := zsm.rf.uI (Or.inl rfl)
  have hf1 : zf01 B σ (zuI σ (B 0) 0 0) := ⟨hs1, fun j a _ => by rw [zi_uI, if_neg (fun z => a z.2)]⟩
  have ht1 : TPm (zuI σ (B 0) 0 0) B tp := ⟨by rw [zi_uI, if_neg (by omega)]; exact ht.1, ht.2.1, fun j hj => by rw [zi_uI, if_neg (fun z => h.ne 1 0 (hi := by decide) (hj := by decide) (hij := by decide) z.1)]; exact ht.2.2 j hj⟩
  have h1 := h.of hs1
  unfold fX12_type typeS
  rw [oPI_eq l1]
  generalize zuI σ (B 0) 0 0 = s1 at hs1 hf1 ht1 h1
  have k1 : zk s1 (B 0) = 12 := h1.2.1
  by_cases d1 : n < 1
  · rw [if_pos d1]
    rw [zlt, t1] at d1
    rw [if_pos (Or.inl d1)]
    exact ⟨s1, rfl, hf1, ht1⟩
  · rw [if_neg d1]
    rw [zlt, t1] at d1
    by_cases d2 : n ≤ 4
    · rw [if_pos d2]
      rw [zle, t4] at d2
      rw [if_neg (by omega), oGI_eq k1 ht1.1]
      obtain ⟨m, hm⟩ : ∃ m : Nat, n.toInt = (m : Int) := ⟨n.toInt.toNat, by omega⟩
      have hn : n = nI m := znI_of hm
      have hmm : n.toInt.toNat = m := by omega
      rw [hmm, hn, nI_add]
      have c8 : nI (tp.length + m) ≤ 8000 ↔ tp.length + m ≤ 8000 := nI_leI (b := 8000) (by omega) (by decide)
      by_cases d3 : tp.length + m ≤ 8000
      · rw [if_pos (c8.mpr d3), if_neg (by omega), oL_eq]
        obtain ⟨s, e, p1, p2, p3⟩ := m_typeL h1 ht1 w d3 (by omega)
        refine ⟨s, ?_, hf1.trans ⟨p1, fun j _ b => p2 j b⟩, p3⟩
        rw [oB_eq e]
        dsimp only
        rw [oGI_eq (by rw [p1.k]; exact k1) p3.1, List.length_append, byS_len]
      · rw [if_neg (fun z => d3 (c8.mp z)), if_pos (by omega)]
        exact ⟨s1, rfl, hf1, ht1⟩
    · rw [if_neg d2]
      rw [zle, t4] at d2
      rw [if_pos (Or.inr (by omega))]
      exact ⟨s1, rfl, hf1, ht1⟩
theorem typeS_4 (w : Int32) (hl : tp.length + 4 ≤ 8000) : typeS tp w 4 = (nI (tp.length + 4), tp ++ zb4 w) := by
  unfold typeS
  have t4 : (4 : Int32).toInt = 4 := by decide
  rw [t4, if_neg (by omega)]
  rw [if_neg (show ¬ 8000 < tp.length + (4 : Int).toNat from by
    have : (4 : Int).toNat = 4 := rfl
    omega), show (4 : Int).toNat = 4 from rfl, byS_4]
theorem m_words (h : zML σ B) (ht : TPm σ B tp) (a b c d : Int32) : ∃ s, fX12_words σ (B 0) a b c d = some ((wordsS tp a b c d).1, s) ∧ zf01 B σ s ∧ TPm s B (wordsS tp a b c d).2 := by
  have l1 : zk σ (B 0) = 12 := h.2.1
  have hl := ht.2.1
  have hs1 : zsm (fun a => a = B 0 ∨ a = B 1) σ (zuI σ (B 0) 0 0) := zsm.rf.uI (Or.inl rfl)
  have hf1 : zf01 B σ (zuI σ (B 0) 0 0) := ⟨hs1, fun j a _ => by rw [zi_uI, if_neg (fun z => a z.2)]⟩
  have ht1 : TPm (zuI σ (B 0) 0 0) B tp := ⟨by rw [zi_uI, if_neg (by omega)]; exact ht.1, ht.2.1, fun j hj => by rw [zi_uI, if_neg (fun z => h.ne 1 0 (hi := by decide) (hj := by decide) (hij := by decide) z.1)]; exact ht.2.2 j hj⟩
  have h1 := h.of hs1
  unfold fX12_words wordsS
  rw [oPI_eq l1]
  generalize zuI σ (B 0) 0 0 = s1 at hs1 hf1 ht1 h1
  have k1 : zk s1 (B 0) = 12 := h1.2.1
  have a16 : nI tp.length + 16 = nI (tp.length + 16) := nI_add _ 16
  have c8 : nI (tp.length + 16) ≤ 8000 ↔ tp.length + 16 ≤ 8000 := nI_leI (b := 8000) (by omega) (by decide)
  rw [oGI_eq k1 ht1.1, a16]
  by_cases d3 : tp.length + 16 ≤ 8000
  · rw [if_pos (c8.mpr d3), if_neg (by omega)]
    obtain ⟨s2, e2, f2, b2⟩ := m_type h1 ht1 a 4
    rw [typeS_4 a (by omega)] at e2 b2
    dsimp only at e2 b2
    have h2 := h1.of f2.1
    have L2 : (tp ++ zb4 a).length = tp.length + 4 := by simp [zb4]
    obtain ⟨s3, e3, f3, b3⟩ := m_type h2 b2 b 4
    rw [typeS_4 b (by omega)] at e3 b3
    dsimp only at e3 b3
    have h3 := h2.of f3.1
    have L3 : (tp ++ zb4 a ++ zb4 b).length = tp.length + 8 := by simp [zb4]
    obtain ⟨s4, e4, f4, b4⟩ := m_type h3 b3 c 4
    rw [typeS_4 c (by omega)] at e4 b4
    dsimp only at e4 b4
    have h4 := h3.of f4.1
    have L4 : (tp ++ zb4 a ++ zb4 b ++ zb4 c).length = tp.length + 12 := by simp [zb4]
    obtain ⟨s5, e5, f5, b5⟩ := m_type h4 b4 d 4
    rw [typeS_4 d (by omega)] at e5 b5
    dsimp only at e5 b5
    refine ⟨s5, ?_, (((hf1.trans f2).trans f3).trans f4).trans f5, b5⟩
    rw [oA_eq k1, oC_eq e2, oA_eq h2.2.1, oC_eq e3, oA_eq h3.2.1, oC_eq e4, oA_eq h4.2.1, oC_eq e5, L4]
  · rw [if_neg (fun z => d3 (c8.mp z)), if_pos (by omega)]
    exact ⟨s1, rfl, hf1, ht1⟩
end PTYPE
