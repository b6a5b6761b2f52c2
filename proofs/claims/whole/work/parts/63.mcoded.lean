/-! the reference's coded blocks -/
theorem lb_all : ∀ k, k < 29 → (if nI (257 + k) < (265 : Int32) then some (0 : Int32) else if nI (257 + k) = (285 : Int32) then some 0 else some ((nI (257 + k) - (261 : Int32)) / (4 : Int32))) = some (nI (lenB k)) := by decide +kernel
theorem db_all : ∀ k, k < 30 → (if (4 : Int32) ≤ nI k then some ((nI k - (2 : Int32)) / (2 : Int32)) else some 0) = some (nI (dstB k)) := by decide +kernel
def lenC (k : Nat) : Nat := if k = 28 then 259 else lenA k
theorem lenC_all : ∀ k, k < 28 → lenC k + 2 ^ lenB k = lenC (k + 1) ∧ lenB k ≤ 5 ∧ lenC k < 1000 := by decide +kernel
theorem dstC_all : ∀ k, k < 29 → dstA k + 2 ^ dstB k = dstA (k + 1) ∧ dstB k ≤ 13 := by decide +kernel
section PMCODED
variable {σ : zS} {B : Nat → Nat} {pk out : List Nat} {pos : Nat}
theorem m_lenB {k : Nat} (hk : k < 29) : fX12_lengthBits σ (nI (257 + k)) = some (nI (lenB k)) := by
  unfold fX12_lengthBits fX12_lengthBits_14
  exact lb_all k hk
theorem m_dstB {k : Nat} (hk : k < 30) : fX12_distanceBits σ (nI k) = some (nI (dstB k)) := by
  unfold fX12_distanceBits
  exact db_all k hk
theorem m_lenA {k : Nat} (hk : k < 29) : fX12_lengthBase σ (nI (257 + k)) = some (nI (lenA k)) := by
  have e : zloop zF (fun x => bX12_lengthBase_6 σ (nI (257 + k)) x.1 x.2) (3, 257) = some (nI (lenC k)) := by
    refine zloop_seq (fun i => (nI (lenC i), nI (257 + i))) k (fun i hi => ?_) ?_ zF (by unfold zF; omega)
    · obtain ⟨c1, c2, c3⟩ := lenC_all i (by omega)
      have q : ¬ nI (257 + k) ≤ nI (257 + i) := by rw [nI_leI (by omega) (by omega)]; omega
      have sh : (1 : Int32) <<< (nI (lenB i) &&& 31) = nI (2 ^ lenB i) := by
        have hp : 2 ^ lenB i ≤ 2 ^ 5 := Nat.pow_le_pow_right (by decide) (by omega)
        have := zshl (n := 1) (k := lenB i) (by omega) (by omega)
        rw [Nat.one_mul] at this
        exact this
      show bX12_lengthBase_6 _ _ _ _ = _
      unfold bX12_lengthBase_6
      rw [if_neg q, oB_eq (m_lenB (by omega)), oL_eq, oL_eq, sh, nI_add, c1, nI_1]
      rfl
    · show bX12_lengthBase_6 _ _ _ _ = _
      unfold bX12_lengthBase_6
      simp only [zle, Int.le_refl, ↓reduceIte]
  unfold fX12_lengthBase
  rw [oB_eq e]
  have q : nI (257 + k) = 285 ↔ 257 + k = 285 := nI_eq (b := 285) (by omega) (by decide)
  by_cases z : k = 28
  · subst z; rfl
  · show (if nI (257 + k) = 285 then some (258 : Int32) else some (nI (lenC k))) = _
    rw [if_neg (fun w => by have := q.mp w; omega)]
    unfold lenC
    rw [if_neg z]
theorem m_dstA {k : Nat} (hk : k < 30) : fX12_distanceBase σ (nI k) = some (nI (dstA k)) := by
  have e : zloop zF (fun x => bX12_distanceBase_4 σ (nI k) x.1 x.2) (1, 0) = some (nI (dstA k)) := by
    refine zloop_seq (fun i => (nI (dstA i), nI i)) k (fun i hi => ?_) ?_ zF (by unfold zF; omega)
    · obtain ⟨c1, c2⟩ := dstC_all i (by omega)
      have q : ¬ nI k ≤ nI i := by rw [nI_leI (by omega) (by omega)]; omega
      have sh : (1 : Int32) <<< (nI (dstB i) &&& 31) = nI (2 ^ dstB i) := by
        have hp : 2 ^ dstB i ≤ 2 ^ 13 := Nat.pow_le_pow_right (by decide) (by omega)
        have := zshl (n := 1) (k := dstB i) (by omega) (by omega)
        rw [Nat.one_mul] at this
        exact this
      show bX12_distanceBase_4 _ _ _ _ = _
      unfold bX12_distanceBase_4
      rw [if_neg q, oB_eq (m_dstB (by omega)), oL_eq, oL_eq, sh, nI_add, c1, nI_1]
    · show bX12_distanceBase_4 _ _ _ _ = _
      unfold bX12_distanceBase_4
      simp only [zle, Int.le_refl, ↓reduceIte]
  unfold fX12_distanceBase
  rw [oB_eq e]
/-- only what unpacking has at hand has changed -/
def zft (B : Nat → Nat) (σ s : zS) : Prop := zsm (fun a => a = B 0 ∨ a = B 9) σ s ∧ ∀ j, j ≠ 16 → j ≠ 17 → j ≠ 18 → j ≠ 19 → zi s (B 0) j = zi σ (B 0) j
theorem zft.trans {s t : zS} (h : zft B σ s) (h2 : zft B s t) : zft B σ t := ⟨h.1.trans h2.1, fun j a b c d => (h2.2 j a b c d).trans (h.2 j a b c d)⟩
theorem zft.rf : zft B σ σ := ⟨zsm.rf, fun _ _ _ _ _ => rfl⟩
theorem zfs.zft {s : zS} (h : zfs B σ s) : zft B σ s := ⟨h.1.mono (fun a z => Or.inl z), fun j a b c _ => h.2 j a b c⟩
theorem zft.bad {s : zS} (h : zft B σ s) {v : Int32} : zft B σ (zuI s (B 0) 18 v) := h.trans (zfs.rf.bad).zft
def zMR (s : zS) (B : Nat → Nat) (pk : List Nat) (x : Option (Nat × List Nat)) : Prop := (x = none ∧ zi s (B 0) 18 = 1 ∧ ∃ o p, zMQ s B pk o p) ∨ ∃ p' o', x = some (p', o') ∧ zi s (B 0) 18 = 0 ∧ zMQ s B pk o' p'
theorem zi_bad {s : zS} {a : Nat} {v : Int32} : zi (zuI s a 18 v) a 18 = v := by rw [zi_uI, if_pos ⟨rfl, rfl⟩]
theorem oPZ_eq {ρ : Type} {c a k : Nat} {v : Int32} {f : zS → Option ρ} (hk : zk σ a = c) (hv : v = 0 ∨ v = 1) : oPZ σ c a k v f = f (zuI σ a k v) := by unfold oPZ; rw [if_pos ⟨hk, hv⟩]
theorem oPI_eq {ρ : Type} {c a k : Nat} {v : Int32} {f : zS → Option ρ} (hk : zk σ a = c) : oPI σ c a k v f = f (zuI σ a k v) := by unfold oPI; rw [if_pos hk]
theorem zloop_one {α β : Type} {body : α → Option (α ⊕ β)} {x : α} {b : β} (h : body x = some (.inr b)) : zloop zF body x = some b := by
  unfold zF
  rw [zloop, h]
/-- bytes of what came out, once more -/
theorem m_copy {far n : Nat} (h : zMQ σ B pk out pos) (hb : zi σ (B 0) 18 = 0) (h1 : 1 ≤ far) (h2 : far ≤ out.length) (hn : n < 50000) : ∃ s, zloop zF (fun x => bX12_match_89 (B 0) (nI n) (nI far) x.1 x.2) (0, σ) = some s ∧ zft B σ s ∧ zMR s B pk (if out.length + n ≤ 1100 then some (pos, copyS out far n) else none) := by
  obtain ⟨l0, l1, -, -, -, -, -, -, -, -, l10, -, -, -, -, -, -, -, -, -, -, ⟨k9, n9⟩, -⟩ := id h.1
  have ho := h.2.2.2.2.1
  obtain ⟨s, e, p1, p2⟩ := zloop_cnt (body := fun x => bX12_match_89 (B 0) (nI n) (nI far) x.1 x.2) (fun i x => x.1 = nI i ∧ zft B σ x.2 ∧ ((zi x.2 (B 0) 18 = 0 ∧ out.length + i ≤ 1100 ∧ zMQ x.2 B pk (copyS out far i) pos) ∨ (zi x.2 (B 0) 18 = 1 ∧ ¬ out.length + n ≤ 1100 ∧ ∃ o p, zMQ x.2 B pk o p))) n (fun s => zft B σ s ∧ zMR s B pk (if out.length + n ≤ 1100 then some (pos, copyS out far n) else none))
    (fun i x hi hx => by
      obtain ⟨k, s⟩ := x
      obtain ⟨x1, x2, x3⟩ := hx
      dsimp only at x1 x2 x3
      subst x1
      have c1 : ¬ nI n ≤ nI i := by rw [nI_leI (by omega) (by omega)]; omega
      have ks : zk s (B 0) = 12 := by rw [x2.1.k]; exact l1
      rcases x3 with ⟨q1, q2, q3⟩ | ⟨q1, q2, q3⟩
      · have hlen := copyS_len out far i
        have hsz : zi s (B 0) 19 = nI (copyS out far i).length := q3.2.2.2.1
        have sb : nI (copyS out far i).length - nI far = nI ((copyS out far i).length - far) := pk_sub (by omega)
        have ti : (nI ((copyS out far i).length - far)).toInt = (((copyS out far i).length - far : Nat) : Int) := zt_nI (by omega)
        have hd : ∀ f : Int32 → Option ((Int32 × zS) ⊕ zS), oLd s 20 (B 9) (nI ((copyS out far i).length - far)) f = f (zi s (B 9) ((copyS out far i).length - far)) := fun f => by
          unfold oLd
          rw [if_pos ⟨by rw [x2.1.k]; exact k9, by rw [zle, zt0', ti]; omega, by rw [znat, ti, Int.toNat_natCast, x2.1.n, n9]; omega⟩, znat, ti, Int.toNat_natCast]
        have hby : zby s (B 9) ((copyS out far i).length - far) = (copyS out far i).getD ((copyS out far i).length - far) 0 := q3.2.2.2.2.2 _ (by omega)
        obtain ⟨s', e', m', f', w'⟩ := m_emit q3 (zi s (B 9) ((copyS out far i).length - far))
        have hf : zft B σ s' := x2.trans ⟨m', fun j _ _ c d => f' j c d⟩
        refine Or.inl ⟨(nI (i + 1), s'), ?_, rfl, hf, ?_⟩
        · show bX12_match_89 _ _ _ _ _ = _
          unfold bX12_match_89
          rw [if_neg c1, oGI_eq ks q1, if_pos rfl, oGR_eq ks (by rw [x2.1.r]; exact l10), oGI_eq ks hsz, sb, hd, oA_eq ks, oB_eq e', oL_eq, nI_1]
        · rcases w' with ⟨w1, w2, w3⟩ | ⟨w1, w2, w3⟩
          · exact Or.inr ⟨w2, by omega, _, _, w3⟩
          · refine Or.inl ⟨w2.trans q1, by omega, ?_⟩
            have : (zi s (B 9) ((copyS out far i).length - far)).toBitVec.toNat % 256 = (copyS out far i).getD ((copyS out far i).length - far) 0 := hby
            rw [this] at w3
            exact w3
      · refine Or.inr ⟨s, ?_, x2, Or.inl ⟨by rw [if_neg q2], q1, q3⟩⟩
        show bX12_match_89 _ _ _ _ _ = _
        unfold bX12_match_89
        rw [if_neg c1, oGI_eq ks q1, if_neg (by decide)])
    (fun x hx => by
      obtain ⟨k, s⟩ := x
      obtain ⟨x1, x2, x3⟩ := hx
      dsimp only at x1 x2 x3
      subst x1
      refine ⟨s, ?_, x2, ?_⟩
      · show bX12_match_89 _ _ _ _ _ = _
        unfold bX12_match_89
        simp only [zle, Int.le_refl, ↓reduceIte]
      · rcases x3 with ⟨q1, q2, q3⟩ | ⟨q1, q2, q3⟩
        · exact Or.inr ⟨_, _, by rw [if_pos q2], q1, q3⟩
        · exact Or.inl ⟨by rw [if_neg q2], q1, q3⟩) zF (0, σ) ⟨nI_0.symm, zft.rf, Or.inl ⟨hb, by omega, h⟩⟩ (by unfold zF; omega)
  exact ⟨s, e, p1, p2⟩
theorem m_match {D : Nat → Nat} {Dn k : Nat} (h : zMQ σ B pk out pos) (hb : zi σ (B 0) 18 = 0) (hD : zCM σ B 320 D Dn) (hDn : Dn ≤ 32) (hk : k < 29) :
    ∃ s, fX12_match σ (B 0) (nI (257 + k)) (nI Dn) = some s ∧ zft B σ s ∧ zMR s B pk (matchS pk D Dn k pos out) := by
  have k0 : zk σ (B 0) = 12 := h.1.2.1
  obtain ⟨-, -, la1, la2, lb1⟩ := len_zt k hk
  have h38 : ∀ s, zft B σ s → (∃ o p, zMQ s B pk o p) → matchS pk D Dn k pos out = none → ∃ s', fX12_match_38 s (B 0) = some s' ∧ zft B σ s' ∧ zMR s' B pk (matchS pk D Dn k pos out) := fun s hs hq hn => by
    obtain ⟨o, p, hq⟩ := hq
    refine ⟨zuI s (B 0) 18 1, ?_, hs.bad, Or.inl ⟨hn, zi_bad, o, p, hq.bad⟩⟩
    unfold fX12_match_38
    rw [oPZ_eq (by rw [hs.1.k]; exact k0) (Or.inr rfl)]
  have h78 : ∀ s v l5, zft B σ s → (∃ o p, zMQ s B pk o p) → matchS pk D Dn k pos out = none → ∃ s', fX12_match_78 s (B 0) v l5 (B 0) = some s' ∧ zft B σ s' ∧ zMR s' B pk (matchS pk D Dn k pos out) := fun s v l5 hs hq hn => by
    obtain ⟨o, p, hq⟩ := hq
    have ks : zk s (B 0) = 12 := by rw [hs.1.k]; exact k0
    refine ⟨zuI s (B 0) 18 1, ?_, hs.bad, Or.inl ⟨hn, zi_bad, o, p, hq.bad⟩⟩
    have e1 : bX12_match_89 (B 0) v l5 0 (zuI s (B 0) 18 1) = some (.inr (zuI s (B 0) 18 1)) := by
      unfold bX12_match_89
      by_cases q : v ≤ 0
      · rw [if_pos q]
      · rw [if_neg q, oGI_eq (by rw [zk_uI]; exact ks) zi_bad, if_neg (by decide)]
    unfold fX12_match_78 fX12_match_83
    rw [oPZ_eq ks (Or.inr rfl), oB_eq (zloop_one (body := fun x => bX12_match_89 (B 0) v l5 x.1 x.2) (x := (0, zuI s (B 0) 18 1)) e1)]
  obtain ⟨r1, s1, e1, m1, f1, w1⟩ := m_bits h (m := lenB k) (by omega)
  have z1 : zfs B σ s1 := ⟨m1, f1⟩
  have k1 : zk s1 (B 0) = 12 := by rw [m1.k]; exact k0
  have n10 : B 10 ≠ B 0 := h.1.ne 10 0
  have n11 : B 11 ≠ B 0 := h.1.ne 11 0
  have hpre : fX12_match σ (B 0) (nI (257 + k)) (nI Dn) = oC (fX12_symbol s1 (B 0) 320 (nI Dn)) (fun x4 σ2 => oGI σ2 12 (B 0) 18 (fun x5 => (if x5 = 0 then (if x4 ≤ (29 : Int32) then oB (fX12_distanceBase σ2 x4) (fun x6 => oB (fX12_distanceBits σ2 x4) (fun x7 => oA (zk σ2 (B 0) = 12) (oC (fX12_bits σ2 (B 0) x7) (fun x8 σ4 => oL (x6 + x8) (fun v2 => oGI σ4 12 (B 0) 18 (fun x9 => (if x9 = 0 then oGI σ4 12 (B 0) 19 (fun x13 => (if v2 ≤ x13 then fX12_match_83 σ4 (B 0) (nI (lenA k) + r1) v2 0 (B 0) else fX12_match_78 σ4 (B 0) (nI (lenA k) + r1) v2 (B 0))) else fX12_match_78 σ4 (B 0) (nI (lenA k) + r1) v2 (B 0)))))))) else fX12_match_38 σ2 (B 0)) else fX12_match_38 σ2 (B 0)))) := by
    unfold fX12_match
    rw [oB_eq (m_lenA hk), oB_eq (m_lenB hk), oA_eq k0, oC_eq e1, oL_eq, oA_eq k1]
  rw [hpre]
  rcases w1 with ⟨t1, t2, t3, t4⟩ | ⟨v1, t1, t2, t3, t4, t5⟩
  · obtain ⟨s2, e2, z2, b2, q2⟩ := m_symbolB t4 t3 (fr' := 320) (M' := nI Dn)
    rw [oC_eq e2, oGI_eq (by rw [z2.1.k]; exact k1) b2, if_neg (by decide)]
    exact h38 s2 (z1.trans z2).zft ⟨_, _, q2⟩ (by unfold matchS; rw [t1])
  · subst t2
    have hb1 : zi s1 (B 0) 18 = 0 := t4.trans hb
    obtain ⟨r2, s2, e2, z2, w2⟩ := m_symbol t5 hb1 (hD.of m1 n10 n11) (by omega) (by omega)
    have e2' : fX12_symbol s1 (B 0) 320 (nI Dn) = some (r2, s2) := e2
    have z12 := z1.trans z2
    have k2 : zk s2 (B 0) = 12 := by rw [z2.1.k]; exact k1
    rw [oC_eq e2']
    rcases w2 with ⟨g1, g2, g3, p', g4⟩ | ⟨d, p2, g1, g2, g3, g4, g5⟩
    · rw [oGI_eq k2 g3, if_neg (by decide)]
      exact h38 s2 z12.zft ⟨_, _, g4⟩ (by unfold matchS; rw [t1]; dsimp only; rw [g1])
    · subst g2
      rw [oGI_eq k2 g4, if_pos rfl]
      have c29 : nI d ≤ 29 ↔ d ≤ 29 := nI_leI (b := 29) (by omega) (by decide)
      by_cases q : d ≤ 29
      · have hd : d < 30 := by omega
        obtain ⟨-, -, da1, da2, db1⟩ := dst_zt d hd
        rw [if_pos (c29.mpr q), oB_eq (m_dstA hd), oB_eq (m_dstB hd), oA_eq k2]
        obtain ⟨r3, s3, e3, m3, f3, w3⟩ := m_bits g5 (m := dstB d) (by omega)
        have z13 := z12.trans (show zfs B s2 s3 from ⟨m3, f3⟩)
        have k3 : zk s3 (B 0) = 12 := by rw [m3.k]; exact k2
        rw [oC_eq e3, oL_eq]
        rcases w3 with ⟨u1, u2, u3, u4⟩ | ⟨v2, u1, u2, u3, u4, u5⟩
        · rw [oGI_eq k3 u3, if_neg (by decide)]
          exact h78 s3 _ _ z13.zft ⟨_, _, u4⟩ (by unfold matchS; rw [t1]; dsimp only; rw [g1]; dsimp only; rw [if_pos hd, u1])
        · subst u2
          have hb3 : zi s3 (B 0) 18 = 0 := u4.trans g4
          have hsz : zi s3 (B 0) 19 = nI out.length := u5.2.2.2.1
          have ho := h.2.2.2.2.1
          have hv2 : v2 < 2 ^ 13 := Nat.lt_of_lt_of_le u3 (Nat.pow_le_pow_right (by decide) db1)
          have hv1 : v1 < 2 ^ 5 := Nat.lt_of_lt_of_le t3 (Nat.pow_le_pow_right (by decide) lb1)
          have cl : nI (dstA d + v2) ≤ nI out.length ↔ dstA d + v2 ≤ out.length := nI_leI (by omega) (by omega)
          have hms : matchS pk D Dn k pos out = if dstA d + v2 ≤ out.length ∧ out.length + (lenA k + v1) ≤ 1100 then some (p2 + dstB d, copyS out (dstA d + v2) (lenA k + v1)) else none := by
            unfold matchS
            rw [t1]
            dsimp only
            rw [g1]
            dsimp only
            rw [if_pos hd, u1]
          rw [oGI_eq k3 hb3, if_pos rfl, oGI_eq k3 hsz, nI_add, nI_add]
          by_cases c : dstA d + v2 ≤ out.length
          · rw [if_pos (cl.mpr c)]
            obtain ⟨s4, e4, z4, w4⟩ := m_copy (far := dstA d + v2) (n := lenA k + v1) (u5.bad (v := 0)) zi_bad (by omega) c (by omega)
            refine ⟨s4, ?_, (z13.zft.bad (v := 0)).trans z4, ?_⟩
            · unfold fX12_match_83
              rw [oPZ_eq k3 (Or.inl rfl), oB_eq e4]
            · rw [hms]
              rw [zite_iff (Q := out.length + (lenA k + v1) ≤ 1100) ⟨fun z => z.2, fun z => ⟨c, z⟩⟩]
              exact w4
          · rw [if_neg (fun z => c (cl.mp z))]
            exact h78 s3 _ _ z13.zft ⟨_, _, u5⟩ (by rw [hms, if_neg (fun z => c z.1)])
      · rw [if_neg (fun z => q (c29.mp z))]
        exact h38 s2 z12.zft ⟨_, _, g5⟩ (by unfold matchS; rw [t1]; dsimp only; rw [g1]; dsimp only; rw [if_neg (by omega)])
theorem matchS_len {D : Nat → Nat} {Dn k p' : Nat} {o' : List Nat} (hk : k < 29) (h : matchS pk D Dn k pos out = some (p', o')) : out.length + 3 ≤ o'.length ∧ o'.length ≤ 1100 := by
  obtain ⟨-, -, la1, -, -⟩ := len_zt k hk
  unfold matchS at h
  split at h
  · cases h
  · split at h
    · cases h
    · split at h
      · split at h
        · cases h
        · split at h
          · rename_i q
            cases h
            rw [copyS_len]
            omega
          · cases h
      · cases h
theorem m_codedN {L D : Nat → Nat} {M Dn N : Nat} (hN : N = 1101) (h : zMQ σ B pk out pos) (hb : zi σ (B 0) 18 = 0) (hL : zCM σ B 0 L M) (hD : zCM σ B 320 D Dn) (hM : M ≤ 288) (hDn : Dn ≤ 32) :
    ∃ s, fX12_coded σ (B 0) (nI M) (nI Dn) = some s ∧ zft B σ s ∧ zMR s B pk (codedF pk L M D Dn N pos out) := by
  have k0 : zk σ (B 0) = 12 := h.1.2.1
  have n10 : ¬ (B 10 = B 0 ∨ B 10 = B 9) := fun z => z.elim (h.1.ne 10 0) (h.1.ne 10 9)
  have n11 : ¬ (B 11 = B 0 ∨ B 11 = B 9) := fun z => z.elim (h.1.ne 11 0) (h.1.ne 11 9)
  have h95 : ∀ s l4, zk s (B 0) = 12 → zi s (B 0) 18 = 1 → fX12_coded_95 s (B 0) (nI M) (nI Dn) l4 = some (.inl (0, s)) := fun s l4 ks hs => by
    unfold fX12_coded_95 fX12_coded_114 fX12_coded_115
    rw [oGI_eq ks hs, if_neg (by decide)]
  have h95' : ∀ s (l4 : Int32), zk s (B 0) = 12 → zi s (B 0) 18 = 0 → l4 ≠ 256 → fX12_coded_95 s (B 0) (nI M) (nI Dn) l4 = some (.inl (1, s)) := fun s l4 ks hs hl => by
    unfold fX12_coded_95 fX12_coded_114 fX12_coded_115
    rw [oGI_eq ks hs, if_pos rfl, if_neg hl]
  obtain ⟨s, e, p1, p2⟩ := zloop_cnt (body := fun x => bX12_coded_13 (B 0) (nI M) (nI Dn) x.1 x.2)
    (fun i x => zft B σ x.2 ∧ ((x.1 = 1 ∧ zi x.2 (B 0) 18 = 0 ∧ ∃ p o, zMQ x.2 B pk o p ∧ i ≤ o.length ∧ codedF pk L M D Dn N pos out = codedF pk L M D Dn (N - i) p o) ∨ (x.1 = 0 ∧ zMR x.2 B pk (codedF pk L M D Dn N pos out)))) (N + 1)
    (fun s => zft B σ s ∧ zMR s B pk (codedF pk L M D Dn N pos out))
    (fun i x hi hx => by
      obtain ⟨y, s⟩ := x
      obtain ⟨x1, x2⟩ := hx
      dsimp only at x1 x2
      have ks : zk s (B 0) = 12 := by rw [x1.1.k]; exact k0
      rcases x2 with ⟨q1, q2, p, o, q3, q4, q5⟩ | ⟨q1, q2⟩
      · subst q1
        have ho := q3.2.2.2.2.1
        have es : N - i = (N - (i + 1)) + 1 := by omega
        rw [es, codedF] at q5
        obtain ⟨r1, s1, e1, z1, w1⟩ := m_symbol q3 q2 (hL.of x1.1 n10 n11) hM (by omega)
        have e1' : fX12_symbol s (B 0) 0 (nI M) = some (r1, s1) := e1
        have k1 : zk s1 (B 0) = 12 := by rw [z1.1.k]; exact ks
        have zz := x1.trans z1.zft
        have hpre : bX12_coded_13 (B 0) (nI M) (nI Dn) 1 s = (if (256 : Int32) ≤ r1 then fX12_coded_49 s1 (B 0) (nI M) (nI Dn) r1 else oGI s1 12 (B 0) 18 (fun x6 => (if x6 = 0 then oA (zk s1 (B 0) = 12) (oB (fX12_emit s1 (B 0) r1) (fun σ4 => fX12_coded_95 σ4 (B 0) (nI M) (nI Dn) r1)) else fX12_coded_49 s1 (B 0) (nI M) (nI Dn) r1))) := by
          unfold bX12_coded_13
          rw [if_neg (by decide), oA_eq ks, oC_eq e1']
        rcases w1 with ⟨t1, t2, t3, p', t4⟩ | ⟨v, p1, t1, t2, t3, t4, t5⟩
        · subst t2
          have hT : codedT pk L M D Dn p o = none := by unfold codedT; rw [t1]
          rw [hT] at q5
          refine Or.inl ⟨(0, s1), ?_, zz, Or.inr ⟨rfl, Or.inl ⟨q5, t3, _, _, t4⟩⟩⟩
          show bX12_coded_13 _ _ _ _ _ = _
          rw [hpre, if_neg (by decide), oGI_eq k1 t3, if_neg (by decide)]
          unfold fX12_coded_49
          rw [if_pos (by decide), h95 s1 0 k1 t3]
        · subst t2
          have c256 : (256 : Int32) ≤ nI v ↔ 256 ≤ v := nI_leI (a := 256) (by decide) (by omega)
          have c256' : nI v ≤ 256 ↔ v ≤ 256 := nI_leI (b := 256) (by omega) (by decide)
          have c285 : nI v ≤ 285 ↔ v ≤ 285 := nI_leI (b := 285) (by omega) (by decide)
          have e256 : nI v = 256 ↔ v = 256 := nI_eq (b := 256) (by omega) (by decide)
          by_cases d1 : v = 256
          · have hT : codedT pk L M D Dn p o = some (.inr (p1, o)) := by unfold codedT; rw [t1]; dsimp only; rw [if_pos d1]
            rw [hT] at q5
            dsimp only at q5
            refine Or.inl ⟨(0, s1), ?_, zz, Or.inr ⟨rfl, Or.inr ⟨p1, o, q5, t4, t5⟩⟩⟩
            show bX12_coded_13 _ _ _ _ _ = _
            rw [hpre, if_pos (c256.mpr (by omega))]
            unfold fX12_coded_49
            rw [if_pos (c256'.mpr (by omega))]
            unfold fX12_coded_95 fX12_coded_114 fX12_coded_115
            rw [oGI_eq k1 t4, if_pos rfl, if_pos (e256.mpr d1)]
          · by_cases d2 : v < 256
            · rw [if_neg (fun z => by have := c256.mp z; omega), oGI_eq k1 t4, if_pos rfl, oA_eq k1] at hpre
              obtain ⟨s2, e2, m2, f2, w2⟩ := m_emit t5 (nI v)
              have z2 : zft B σ s2 := zz.trans ⟨m2, fun j _ _ c d => f2 j c d⟩
              have k2 : zk s2 (B 0) = 12 := by rw [m2.k]; exact k1
              rw [oB_eq e2] at hpre
              rcases w2 with ⟨u1, u2, u3⟩ | ⟨u1, u2, u3⟩
              · have hT : codedT pk L M D Dn p o = none := by unfold codedT; rw [t1]; dsimp only; rw [if_neg d1, if_pos (by omega)]
                rw [hT] at q5
                refine Or.inl ⟨(0, s2), ?_, z2, Or.inr ⟨rfl, Or.inl ⟨q5, u2, _, _, u3⟩⟩⟩
                show bX12_coded_13 _ _ _ _ _ = _
                rw [hpre, h95 s2 _ k2 u2]
              · have hT : codedT pk L M D Dn p o = some (.inl (p1, o ++ [v])) := by unfold codedT; rw [t1]; dsimp only; rw [if_neg d1, if_neg (by omega), if_pos d2]
                rw [hT] at q5
                dsimp only at q5
                rw [zbv_nat (by omega), Nat.mod_eq_of_lt d2] at u3
                refine Or.inl ⟨(1, s2), ?_, z2, Or.inl ⟨rfl, u2.trans t4, p1, o ++ [v], u3, by simp; omega, q5⟩⟩
                show bX12_coded_13 _ _ _ _ _ = _
                rw [hpre, h95' s2 _ k2 (u2.trans t4) (fun z => d1 (e256.mp z))]
            · rw [if_pos (c256.mpr (by omega))] at hpre
              unfold fX12_coded_49 at hpre
              rw [if_neg (fun z => by have := c256'.mp z; omega), oGI_eq k1 t4, if_pos rfl] at hpre
              by_cases d3 : v ≤ 285
              · rw [if_pos (c285.mpr d3)] at hpre
                unfold fX12_coded_78 at hpre
                rw [oPZ_eq k1 (Or.inl rfl), oGI_eq (by rw [zk_uI]; exact k1) zi_bad, if_pos rfl, oA_eq (by rw [zk_uI]; exact k1)] at hpre
                have q6 := t5.bad (v := 0)
                have z2 := zz.bad (v := 0)
                obtain ⟨s3, e3, z3, w3⟩ := m_match (k := v - 257) q6 zi_bad (hD.of z2.1 n10 n11) hDn (by omega)
                have ev : 257 + (v - 257) = v := by omega
                rw [ev] at e3
                rw [oB_eq e3] at hpre
                have z13 := z2.trans z3
                have k3 : zk s3 (B 0) = 12 := by rw [z13.1.k]; exact k0
                rcases w3 with ⟨u1, u2, u3⟩ | ⟨p', o', u1, u2, u3⟩
                · have hT' : codedT pk L M D Dn p o = none := by
                    unfold codedT; rw [t1]; dsimp only
                    by_cases d4 : 1100 ≤ o.length
                    · rw [if_neg d1, if_pos d4]
                    · rw [if_neg d1, if_neg d4, if_neg d2, if_pos (by omega), u1]
                  rw [hT'] at q5
                  refine Or.inl ⟨(0, s3), ?_, z13, Or.inr ⟨rfl, Or.inl ⟨q5, u2, u3⟩⟩⟩
                  show bX12_coded_13 _ _ _ _ _ = _
                  rw [hpre, h95 s3 _ k3 u2]
                · have hl := matchS_len (by omega) u1
                  have hT : codedT pk L M D Dn p o = some (.inl (p', o')) := by unfold codedT; rw [t1]; dsimp only; rw [if_neg d1, if_neg (by omega), if_neg d2, if_pos (by omega), u1]
                  rw [hT] at q5
                  dsimp only at q5
                  refine Or.inl ⟨(1, s3), ?_, z13, Or.inl ⟨rfl, u2, p', o', u3, by omega, q5⟩⟩
                  show bX12_coded_13 _ _ _ _ _ = _
                  rw [hpre, h95' s3 _ k3 u2 (fun z => d1 (e256.mp z))]
              · rw [if_neg (fun z => d3 (c285.mp z))] at hpre
                unfold fX12_coded_78 at hpre
                rw [oPZ_eq k1 (Or.inr rfl), oGI_eq (by rw [zk_uI]; exact k1) zi_bad, if_neg (by decide)] at hpre
                have hT' : codedT pk L M D Dn p o = none := by
                  unfold codedT; rw [t1]; dsimp only
                  by_cases d4 : 1100 ≤ o.length
                  · rw [if_neg d1, if_pos d4]
                  · rw [if_neg d1, if_neg d4, if_neg d2, if_neg (by omega)]
                rw [hT'] at q5
                refine Or.inl ⟨(0, zuI s1 (B 0) 18 1), ?_, zz.bad, Or.inr ⟨rfl, Or.inl ⟨q5, zi_bad, _, _, t5.bad⟩⟩⟩
                show bX12_coded_13 _ _ _ _ _ = _
                rw [hpre, h95 _ _ (by rw [zk_uI]; exact k1) zi_bad]
      · subst q1
        refine Or.inr ⟨s, ?_, x1, q2⟩
        show bX12_coded_13 _ _ _ _ _ = _
        unfold bX12_coded_13
        rw [if_pos rfl])
    (fun x hx => by
      obtain ⟨y, s⟩ := x
      obtain ⟨x1, x2⟩ := hx
      dsimp only at x1 x2
      rcases x2 with ⟨q1, q2, p, o, q3, q4, q5⟩ | ⟨q1, q2⟩
      · have ho := q3.2.2.2.2.1
        omega
      · subst q1
        refine ⟨s, ?_, x1, q2⟩
        show bX12_coded_13 _ _ _ _ _ = _
        unfold bX12_coded_13
        rw [if_pos rfl]) zF (1, σ) ⟨zft.rf, Or.inl ⟨rfl, hb, pos, out, h, Nat.zero_le _, rfl⟩⟩ (by unfold zF; omega)
  refine ⟨s, ?_, p1, p2⟩
  unfold fX12_coded fX12_coded_12
  rw [oGI_eq k0 hb, if_pos rfl, oB_eq e]
theorem m_coded {L D : Nat → Nat} {M Dn : Nat} (h : zMQ σ B pk out pos) (hb : zi σ (B 0) 18 = 0) (hL : zCM σ B 0 L M) (hD : zCM σ B 320 D Dn) (hM : M ≤ 288) (hDn : Dn ≤ 32) :
    ∃ s, fX12_coded σ (B 0) (nI M) (nI Dn) = some s ∧ zft B σ s ∧ zMR s B pk (codedS pk L M D Dn pos out) := by
  unfold codedS
  exact m_codedN rfl h hb hL hD hM hDn
/-- where 'bad' stands already -/
theorem m_codedB (h : zML σ B) (hb : zi σ (B 0) 18 = 1) {M' D' : Int32} : fX12_coded σ (B 0) M' D' = some σ := by
  have e : bX12_coded_13 (B 0) M' D' 0 σ = some (.inr σ) := by
    unfold bX12_coded_13
    rw [if_pos rfl]
  unfold fX12_coded fX12_coded_12
  rw [oGI_eq h.2.1 hb, if_neg (by decide), oB_eq (zloop_one (body := fun x => bX12_coded_13 (B 0) M' D' x.1 x.2) (x := (0, σ)) e)]
end PMCODED
