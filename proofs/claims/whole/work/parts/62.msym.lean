/-! the reference's symbol -/
section PMSYM
variable {σ : zS} {B : Nat → Nat} {pk out : List Nat} {pos fr M : Nat} {len : Nat → Nat}
theorem nthS_uniq {l k i : Nat} (hi : i < M) (h1 : len i = l) (h2 : cntS len i l = k) : nthS len M l k = i ∧ k < cntS len M l := by
  have hlt : k < cntS len M l := by rw [← h2]; exact cntS_lt hi h1
  obtain ⟨a, b, c⟩ := nthS_spec hlt
  refine ⟨?_, hlt⟩
  rcases Nat.lt_trichotomy (nthS len M l k) i with z | z | z
  · have := cntS_lt (len := len) z b
    omega
  · exact z
  · have := cntS_lt (len := len) z h1
    omega
theorem zCM.of {σ' : zS} {S : Nat → Prop} (h : zCM σ B fr len M) (hs : zsm S σ σ') (h1 : ¬ S (B 10)) (h2 : ¬ S (B 11)) : zCM σ' B fr len M := ⟨fun j hj => ⟨(h.1 j hj).1, by rw [hs.i h1]; exact (h.1 j hj).2⟩, fun j hj h0 => by rw [hs.i h2]; exact h.2 j hj h0⟩
theorem m_find (h : zML σ B) (hb : zi σ (B 0) 18 = 0) (hc : zCM σ B fr len M) (hM : M ≤ 288) (hfr : fr + M ≤ 380) {l c : Nat} (hl1 : 1 ≤ l) (hl15 : l ≤ 15) (hcl : c < 100000000) (hlow : fcS len M l ≤ c) :
    zloop zF (fun x => bX12_symbol_32 (B 0) (nI fr) (nI M) (nI c) (nI l) x.1 x.2) (nI fr, σ) = some (if c < fcS len M l + cntS len M l then .inr (nI (nthS len M l (c - fcS len M l)), σ) else .inl σ) := by
  obtain ⟨l0, k0, -, -, -, -, -, -, -, -, -, r10, r11, -, -, -, -, -, -, -, -, -, ⟨k10, n10⟩, ⟨k11, n11⟩⟩ := id h
  have afr : nI fr + nI M = nI (fr + M) := nI_add _ _
  have hfc := fcS_lt (len := len) hM (l := l) (by omega)
  obtain ⟨b, e, hbb⟩ := zloop_cnt (body := fun x => bX12_symbol_32 (B 0) (nI fr) (nI M) (nI c) (nI l) x.1 x.2)
    (fun i x => x = (nI (fr + i), σ) ∧ ∀ j, j < i → len j = l → cntS len j l ≠ c - fcS len M l) M
    (fun b => b = (if c < fcS len M l + cntS len M l then .inr (nI (nthS len M l (c - fcS len M l)), σ) else .inl σ))
    (fun i x hi hx => by
      obtain ⟨x1, x2⟩ := hx
      subst x1
      obtain ⟨u1, u2⟩ := hc.1 i hi
      have c1 : ¬ nI (fr + M) ≤ nI (fr + i) := by rw [nI_leI (by omega) (by omega)]; omega
      have c2 : nI (len i) = nI l ↔ len i = l := nI_eq (by omega) (by omega)
      have ti : (nI (fr + i)).toInt = ((fr + i : Nat) : Int) := zt_nI (by omega)
      have h0 : (0 : Int32) ≤ nI (fr + i) := by rw [zle, zt0', ti]; omega
      have hval : (nI (fr + i)).toNatClampNeg = fr + i := by rw [znat, ti, Int.toNat_natCast]
      have hlt : fr + i < 380 := by omega
      have a4 : nI (fr + i) + 1 = nI (fr + (i + 1)) := nI_1 (fr + i)
      by_cases q : len i = l
      · have v2 := hc.2 i hi (by omega)
        rw [q] at v2
        have hci : cntS len i l ≤ i := cntS_le _ _
        have c3 : nI (fcS len M l + cntS len i l) = nI c ↔ fcS len M l + cntS len i l = c := nI_eq (by omega) (by omega)
        have sb : nI (fr + i) - nI fr = nI i := by rw [pk_sub (by omega)]; congr 1; omega
        by_cases q2 : fcS len M l + cntS len i l = c
        · obtain ⟨w1, w2⟩ := nthS_uniq (len := len) (M := M) (l := l) (k := c - fcS len M l) hi q (by omega)
          refine Or.inr ⟨.inr (nI i, σ), ?_, ?_⟩
          · unfold bX12_symbol_32
            simp only [oGI, oGR, oR, oLd, k0, hb, r10, r11, k10, n10, k11, n11, afr, c1, h0, hval, hlt, u2, c2, q, v2, c3, q2, sb, and_self, ↓reduceIte]
          · rw [if_pos (by omega), w1]
        · refine Or.inl ⟨(nI (fr + (i + 1)), σ), ?_, rfl, fun j hj hjl => ?_⟩
          · unfold bX12_symbol_32 fX12_symbol_75
            simp only [oGI, oGR, oR, oLd, oL, k0, hb, r10, r11, k10, n10, k11, n11, afr, c1, h0, hval, hlt, u2, c2, q, v2, c3, q2, a4, and_self, ↓reduceIte]
          · by_cases z : j = i
            · rw [z]; omega
            · exact x2 j (by omega) hjl
      · refine Or.inl ⟨(nI (fr + (i + 1)), σ), ?_, rfl, fun j hj hjl => ?_⟩
        · unfold bX12_symbol_32 fX12_symbol_75
          simp only [oGI, oGR, oR, oLd, oL, k0, hb, r10, k10, n10, afr, c1, h0, hval, hlt, u2, c2, q, a4, and_self, ↓reduceIte]
        · have : j ≠ i := fun z => q (by rw [← z]; exact hjl)
          exact x2 j (by omega) hjl)
    (fun x hx => by
      obtain ⟨x1, x2⟩ := hx
      subst x1
      refine ⟨.inl σ, ?_, ?_⟩
      · unfold bX12_symbol_32
        simp only [afr, zle, Int.le_refl, ↓reduceIte]
      · rw [if_neg (fun z => by
          obtain ⟨w1, w2, w3⟩ := nthS_spec (len := len) (M := M) (l := l) (k := c - fcS len M l) (by omega)
          exact x2 _ w1 w2 w3)]) zF (nI fr, σ) ⟨rfl, fun j hj => absurd hj (Nat.not_lt_zero j)⟩ (by unfold zF; omega)
  rw [e, hbb]
/-- no search where 'bad' stands -/
theorem m_findB (h : zML σ B) (hb : zi σ (B 0) 18 = 1) {fr' M' c l : Int32} : zloop zF (fun x => bX12_symbol_32 (B 0) fr' M' c l x.1 x.2) (fr', σ) = some (.inl σ) := by
  have k0 : zk σ (B 0) = 12 := h.2.1
  have e : bX12_symbol_32 (B 0) fr' M' c l fr' σ = some (.inr (.inl σ)) := by
    unfold bX12_symbol_32
    by_cases q : fr' + M' ≤ fr'
    · rw [if_pos q]
    · simp only [oGI, k0, hb, q, show ¬ ((1 : Int32) = 0) from by decide, ↓reduceIte]
  unfold zF
  rw [zloop]
  dsimp only
  rw [e]
theorem numS_one (p : Nat → Nat) (pos : Nat) : numS p pos 1 = bitS p pos := by simp [numS]
def zfs (B : Nat → Nat) (σ s : zS) : Prop := zsm (fun a => a = B 0) σ s ∧ ∀ j, j ≠ 16 → j ≠ 17 → j ≠ 18 → zi s (B 0) j = zi σ (B 0) j
theorem zfs.trans {s t : zS} (h : zfs B σ s) (h2 : zfs B s t) : zfs B σ t := ⟨h.1.trans h2.1, fun j a b c => (h2.2 j a b c).trans (h.2 j a b c)⟩
theorem zfs.rf : zfs B σ σ := ⟨zsm.rf, fun _ _ _ _ => rfl⟩
theorem zfs.bad {s : zS} (h : zfs B σ s) {v : Int32} : zfs B σ (zuI s (B 0) 18 v) := ⟨h.1.uI rfl, fun j a b c => by rw [zi_uI, if_neg (fun z => c z.2)]; exact h.2 j a b c⟩
theorem m_symbol (h : zMQ σ B pk out pos) (hb : zi σ (B 0) 18 = 0) (hc : zCM σ B fr len M) (hM : M ≤ 288) (hfr : fr + M ≤ 380) :
    ∃ r s, fX12_symbol σ (B 0) (nI fr) (nI M) = some (r, s) ∧ zfs B σ s ∧ ((symS (pb pk) pk.length pos len M = none ∧ r = 0 ∧ zi s (B 0) 18 = 1 ∧ ∃ p', zMQ s B pk out p') ∨ ∃ v p', symS (pb pk) pk.length pos len M = some (v, p') ∧ r = nI v ∧ v < M ∧ zi s (B 0) 18 = 0 ∧ zMQ s B pk out p') := by
  have k0 : zk σ (B 0) = 12 := h.1.2.1
  have n10 : B 10 ≠ B 0 := h.1.ne 10 0
  have n11 : B 11 ≠ B 0 := h.1.ne 11 0
  obtain ⟨b, e, hbb⟩ := zloop_cnt (body := fun x => bX12_symbol_5 (B 0) (nI fr) (nI M) x.1 x.2.1 x.2.2)
    (fun i x => x.2.1 = nI (i + 1) ∧ zfs B σ x.2.2 ∧ ((x.1 = nI (codeS (pb pk) pos i) ∧ zi x.2.2 (B 0) 18 = 0 ∧ zMQ x.2.2 B pk out (pos + i) ∧ fcS len M (i + 1) ≤ 2 * codeS (pb pk) pos i ∧ symS (pb pk) pk.length pos len M = symF (pb pk) pk.length pos len M (15 - i) (i + 1)) ∨ (zi x.2.2 (B 0) 18 = 1 ∧ symS (pb pk) pk.length pos len M = none ∧ ∃ p', zMQ x.2.2 B pk out p'))) 15
    (fun b => match b with
      | .inl s => zfs B σ s ∧ symS (pb pk) pk.length pos len M = none ∧ ∃ p', zMQ s B pk out p'
      | .inr r => zfs B σ r.2 ∧ ∃ v p', symS (pb pk) pk.length pos len M = some (v, p') ∧ r.1 = nI v ∧ v < M ∧ zi r.2 (B 0) 18 = 0 ∧ zMQ r.2 B pk out p')
    (fun i x hi hx => by
      obtain ⟨y1, y2, s⟩ := x
      obtain ⟨x1, x2, x3⟩ := hx
      dsimp only at x1 x2 x3
      subst x1
      have ks : zk s (B 0) = 12 := by rw [x2.1.k]; exact k0
      have c16 : ¬ (16 : Int32) ≤ nI (i + 1) := by
        have := nI_leI (a := 16) (b := i + 1) (by decide) (by omega)
        intro z
        have := this.mp z
        omega
      rcases x3 with ⟨q1, q2, q3, q4, q5⟩ | ⟨q1, q2, q3⟩
      · subst q1
        obtain ⟨r1, s1, e1, m1, f1, w1⟩ := m_bits q3 (m := 1) (by decide)
        have e1' : fX12_bits s (B 0) 1 = some (r1, s1) := e1
        have hz : zfs B σ s1 := x2.trans ⟨m1, f1⟩
        have e15 : 15 - i = (15 - (i + 1)) + 1 := by omega
        rw [e15, symF] at q5
        have hpre : bX12_symbol_5 (B 0) (nI fr) (nI M) (nI (codeS (pb pk) pos i)) (nI (i + 1)) s = oB (zloop zF (fun x => bX12_symbol_32 (B 0) (nI fr) (nI M) ((2 : Int32) * nI (codeS (pb pk) pos i) + r1) (nI (i + 1)) x.1 x.2) (nI fr, s1)) (fun b1 => oS b1 (fun c1 => some (.inl ((2 : Int32) * nI (codeS (pb pk) pos i) + r1, nI (i + 1) + 1, c1))) (fun r1 => some (.inr (.inr r1)))) := by
          unfold bX12_symbol_5
          rw [if_neg c16, oGI_eq ks q2, if_pos rfl, oA_eq ks, oC_eq e1', oL_eq]
          rfl
        rcases w1 with ⟨t1, t2, t3, t4⟩ | ⟨v, t1, t2, t3, t4, t5⟩
        · have hno : ¬ pos + i + 1 ≤ 8 * pk.length := fun z => by unfold takeS at t1; rw [if_pos z] at t1; cases t1
          rw [if_neg (by omega)] at q5
          refine Or.inl ⟨((2 : Int32) * nI (codeS (pb pk) pos i) + r1, nI (i + 1) + 1, s1), ?_, nI_1 _, hz, Or.inr ⟨t3, q5, _, t4⟩⟩
          show bX12_symbol_5 _ _ _ _ _ _ = _
          rw [hpre, oB_eq (m_findB t4.1 t3)]
          rfl
        · subst t2
          have hyes : pos + i + 1 ≤ 8 * pk.length := by
            unfold takeS at t1
            by_cases z : pos + i + 1 ≤ 8 * pk.length
            · exact z
            · rw [if_neg z] at t1; cases t1
          have hv : v = bitS (pb pk) (pos + i) := by
            unfold takeS at t1
            rw [if_pos hyes, numS_one] at t1
            exact (Prod.mk.inj (Option.some.inj t1)).1.symm
          have hcd : codeS (pb pk) pos (i + 1) = 2 * codeS (pb pk) pos i + bitS (pb pk) (pos + i) := rfl
          have hcc : (2 : Int32) * nI (codeS (pb pk) pos i) + nI v = nI (codeS (pb pk) pos (i + 1)) := by
            have : (2 : Int32) * nI (codeS (pb pk) pos i) = nI (2 * codeS (pb pk) pos i) := pk_mul 2 _
            rw [this, nI_add, hcd, hv]
          have hlt := codeS_lt (pb pk) pos (i + 1)
          have hpw : 2 ^ (i + 1) ≤ 2 ^ 15 := Nat.pow_le_pow_right (by decide) (by omega)
          have hb1 : zi s1 (B 0) 18 = 0 := by rw [t4]; exact q2
          have hcs : zCM s1 B fr len M := hc.of hz.1 n10 n11
          rw [hcc] at hpre
          rw [if_pos (by omega)] at q5
          have hfind := m_find t5.1 hb1 hcs hM hfr (l := i + 1) (c := codeS (pb pk) pos (i + 1)) (by omega) (by omega) (by omega) (by omega)
          by_cases w : codeS (pb pk) pos (i + 1) < fcS len M (i + 1) + cntS len M (i + 1)
          · rw [if_pos w] at hfind q5
            obtain ⟨z1, -, -⟩ := nthS_spec (len := len) (M := M) (l := i + 1) (k := codeS (pb pk) pos (i + 1) - fcS len M (i + 1)) (by omega)
            refine Or.inr ⟨.inr (nI (nthS len M (i + 1) (codeS (pb pk) pos (i + 1) - fcS len M (i + 1))), s1), ?_, hz, _, _, q5, rfl, z1, hb1, t5⟩
            show bX12_symbol_5 _ _ _ _ _ _ = _
            rw [hpre, oB_eq hfind]
            rfl
          · rw [if_neg w] at hfind q5
            refine Or.inl ⟨(nI (codeS (pb pk) pos (i + 1)), nI (i + 1) + 1, s1), ?_, nI_1 _, hz, Or.inl ⟨rfl, hb1, t5, ?_, q5⟩⟩
            · show bX12_symbol_5 _ _ _ _ _ _ = _
              rw [hpre, oB_eq hfind]
              rfl
            · rw [fcS.eq_2 len M (i + 1)]
              simp
              omega
      · refine Or.inr ⟨.inl s, ?_, x2, q2, q3⟩
        show bX12_symbol_5 _ _ _ _ _ _ = _
        unfold bX12_symbol_5
        rw [if_neg c16, oGI_eq ks q1, if_neg (by decide)])
    (fun x hx => by
      obtain ⟨y1, y2, s⟩ := x
      obtain ⟨x1, x2, x3⟩ := hx
      dsimp only at x1 x2 x3
      subst x1
      refine ⟨.inl s, ?_, x2, ?_, ?_⟩
      · show bX12_symbol_5 _ _ _ _ _ _ = _
        unfold bX12_symbol_5
        have hd : (16 : Int32) ≤ nI (15 + 1) := by decide
        rw [if_pos hd]
      · rcases x3 with ⟨-, -, -, -, q⟩ | ⟨-, q, -⟩
        · rw [q]; rfl
        · exact q
      · rcases x3 with ⟨-, -, q, -, -⟩ | ⟨-, -, q⟩
        · exact ⟨_, q⟩
        · exact q) zF (0, 1, σ) ⟨rfl, zfs.rf, Or.inl ⟨nI_0.symm, hb, h, by simp [fcS, codeS], rfl⟩⟩ (by unfold zF; omega)
  unfold fX12_symbol
  rw [oB_eq e]
  cases b with
  | inl s =>
    obtain ⟨p1, p2, p', p3⟩ := hbb
    refine ⟨0, zuI s (B 0) 18 1, ?_, p1.bad, Or.inl ⟨p2, rfl, by rw [zi_uI, if_pos ⟨rfl, rfl⟩], p', p3.bad⟩⟩
    unfold oS
    dsimp only
    unfold oPZ
    rw [if_pos ⟨by rw [p1.1.k]; exact k0, Or.inr rfl⟩]
  | inr r =>
    obtain ⟨r1, r2⟩ := r
    exact ⟨r1, r2, rfl, hbb.1, Or.inr hbb.2⟩
/-- where 'bad' stands already -/
theorem m_symbolB (h : zMQ σ B pk out pos) (hb : zi σ (B 0) 18 = 1) {fr' M' : Int32} : ∃ s, fX12_symbol σ (B 0) fr' M' = some (0, s) ∧ zfs B σ s ∧ zi s (B 0) 18 = 1 ∧ zMQ s B pk out pos := by
  have k0 : zk σ (B 0) = 12 := h.1.2.1
  refine ⟨zuI σ (B 0) 18 1, ?_, zfs.rf.bad, by rw [zi_uI, if_pos ⟨rfl, rfl⟩], h.bad⟩
  have e : bX12_symbol_5 (B 0) fr' M' 0 1 σ = some (.inr (.inl σ)) := by
    unfold bX12_symbol_5
    rw [if_neg (by decide), oGI_eq k0 hb, if_neg (by decide)]
  have e2 : zloop zF (fun x => bX12_symbol_5 (B 0) fr' M' x.1 x.2.1 x.2.2) (0, 1, σ) = some (.inl σ) := by
    unfold zF
    rw [zloop]
    dsimp only
    rw [e]
  unfold fX12_symbol
  rw [oB_eq e2]
  unfold oS
  dsimp only
  unfold oPZ
  rw [if_pos ⟨k0, Or.inr rfl⟩]
end PMSYM
