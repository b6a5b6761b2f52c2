/-! the reference's told blocks -/
theorem ord_all : ∀ k, k < 19 → (if nI k = 0 then some (16 : Int32) else (if nI k = 1 then some 17 else (if nI k = 2 then some 18 else (if nI k = 3 then some 0 else (if (nI k - nI k / (2 : Int32) * (2 : Int32)) = 0 then some ((8 : Int32) + ((nI k - (4 : Int32)) / (2 : Int32))) else some ((7 : Int32) - ((nI k - (5 : Int32)) / (2 : Int32)))))))) = some (nI (ordS k)) := by decide +kernel
def idxM (M j : Nat) : Nat := if j < M then j else 320 + j - M
def zMLS (σ : zS) (B : Nat → Nat) (M : Nat) (ls : List Nat) : Prop := ∀ j, j < ls.length → zi σ (B 10) (idxM M j) = nI (ls.getD j 0) ∧ ls.getD j 0 ≤ 15
def lastV (ls : List Nat) : Int32 := if ls.length = 0 then -1 else nI (ls.getD (ls.length - 1) 0)
def tTail (σ9 : zS) (l0 : Nat) (l1 l2 : Int32) : Option zS := oA (zk σ9 l0 = 12) (oB (fX12_makeCodes σ9 l0 352 19 0) (fun σ10 => oB (zloop zF (fun x => bX12_told_140 l0 l1 l2 x.1 x.2.1 x.2.2) (0, (-1 : Int32), σ10)) (fun b4 => (fun σ18 => oGI σ18 12 l0 18 (fun x15 => (if x15 = 0 then oGR σ18 12 l0 21 (fun a4 => oLd σ18 21 a4 256 (fun x17 => (if x17 = 0 then fX12_told_359 σ18 l0 l1 l2 l0 else fX12_told_364 σ18 l0 l1 l2 0 l0))) else fX12_told_359 σ18 l0 l1 l2 l0))) b4)))
theorem told52 (σ : zS) (l0 : Nat) (l1 l2 l3 s0 : Int32) (s1 : Nat) : fX12_told_52 σ l0 l1 l2 l3 s0 s1 = oPZ σ 12 s1 18 s0 (fun σ4 => oB (zloop zF (fun x => bX12_told_58 l0 l1 l2 l3 x.1 x.2) (0, σ4)) (fun σ6 => oB (zloop zF (fun x => bX12_told_86 l0 l1 l2 l3 x.1 x.2) (0, σ6)) (fun σ9 => tTail σ9 l0 l1 l2))) := rfl
section PMTOLD
variable {σ : zS} {B : Nat → Nat} {pk out : List Nat} {pos : Nat}
theorem m_ord {k : Nat} (hk : k < 19) : fX12_orderOf σ (nI k) = some (nI (ordS k)) := by
  unfold fX12_orderOf
  exact ord_all k hk
theorem oSt_eq {ρ : Type} {c a n : Nat} {v : Int32} {f : zS → Option ρ} (hk : zk σ a = c) (hn : n < zn σ a) (h : n < 2147483648) : oSt σ c a (nI n) v f = f (zuI σ a n v) := by
  have t : (nI n).toInt = (n : Int) := zt_nI h
  unfold oSt
  rw [if_pos ⟨hk, by rw [zle, zt0', t]; omega, by rw [znat, t, Int.toNat_natCast]; exact hn⟩, znat, t, Int.toNat_natCast]
theorem oLd_eq {ρ : Type} {c a n : Nat} {v : Int32} {f : Int32 → Option ρ} (hk : zk σ a = c) (hn : n < zn σ a) (h : n < 2147483648) (hv : zi σ a n = v) : oLd σ c a (nI n) f = f v := by
  have t : (nI n).toInt = (n : Int) := zt_nI h
  unfold oLd
  rw [if_pos ⟨hk, by rw [zle, zt0', t]; omega, by rw [znat, t, Int.toNat_natCast]; exact hn⟩, znat, t, Int.toNat_natCast, hv]
theorem m_tzero (h : zML σ B) {l1 l2 l3 : Int32} : ∃ s, zloop zF (fun x => bX12_told_58 (B 0) l1 l2 l3 x.1 x.2) (0, σ) = some s ∧ zsm (fun a => a = B 10) σ s ∧ ∀ j, j < 19 → zi s (B 10) (352 + j) = nI 0 := by
  obtain ⟨l0, k0, -, -, -, -, -, -, -, -, -, r10, -, -, -, -, -, -, -, -, -, -, ⟨k10, n10⟩, -⟩ := id h
  obtain ⟨s, e, m, f⟩ := zloop_cnt (body := fun x => bX12_told_58 (B 0) l1 l2 l3 x.1 x.2) (fun i x => x.1 = nI i ∧ zsm (fun a => a = B 10) σ x.2 ∧ ∀ j, j < i → zi x.2 (B 10) (352 + j) = nI 0) 19 (fun s => zsm (fun a => a = B 10) σ s ∧ ∀ j, j < 19 → zi s (B 10) (352 + j) = nI 0)
    (fun i x hi hx => by
      obtain ⟨k, s⟩ := x
      obtain ⟨x1, x2, x3⟩ := hx
      dsimp only at x1 x2 x3
      subst x1
      have c1 : ¬ (19 : Int32) ≤ nI i := fun z => by
        have := (nI_leI (a := 19) (b := i) (by decide) (by omega)).mp z
        omega
      have a2 : (352 : Int32) + nI i = nI (352 + i) := nI_add 352 i
      refine Or.inl ⟨(nI (i + 1), zuI s (B 10) (352 + i) (nI 0)), ?_, rfl, x2.uI rfl, fun j hj => ?_⟩
      · show bX12_told_58 _ _ _ _ _ _ = _
        unfold bX12_told_58
        rw [if_neg c1, oGR_eq (by rw [x2.k]; exact k0) (by rw [x2.r]; exact r10), a2, oSt_eq (by rw [x2.k]; exact k10) (by rw [x2.n, n10]; omega) (by omega), oL_eq, nI_1]
        rfl
      · rw [zi_uI]
        by_cases q : j = i
        · rw [if_pos ⟨rfl, by omega⟩]
        · rw [if_neg (fun z => by omega)]; exact x3 j (by omega))
    (fun x hx => by
      obtain ⟨k, s⟩ := x
      obtain ⟨x1, x2, x3⟩ := hx
      dsimp only at x1 x2 x3
      subst x1
      refine ⟨s, ?_, x2, x3⟩
      show bX12_told_58 _ _ _ _ _ _ = _
      unfold bX12_told_58
      have hd : (19 : Int32) ≤ nI 19 := by decide
      exact if_pos hd) zF (0, σ) ⟨nI_0.symm, zsm.rf, fun j hj => absurd hj (Nat.not_lt_zero j)⟩ (by unfold zF; omega)
  exact ⟨s, e, m, f⟩
/-- the tellers' lengths -/
theorem m_tellers {m : Nat} {l1 l2 : Int32} (h : zMQ σ B pk out pos) (hb : zi σ (B 0) 18 = 0) (hm : m ≤ 19) (hz : ∀ j, j < 19 → zi σ (B 10) (352 + j) = nI 0) : ∃ s, zloop zF (fun x => bX12_told_86 (B 0) l1 l2 (nI m) x.1 x.2) (0, σ) = some s ∧ zfr B σ s ∧ ((zi s (B 0) 18 = 0 ∧ pos + 3 * m ≤ 8 * pk.length ∧ zMQ s B pk out (pos + 3 * m) ∧ zCL s B 352 (tlI pk pos m) 19) ∨ (zi s (B 0) 18 = 1 ∧ ¬ pos + 3 * m ≤ 8 * pk.length ∧ (∃ o p, zMQ s B pk o p) ∧ ∃ len, zCL s B 352 len 19)) := by
  obtain ⟨l0, k0, -, -, -, -, -, -, -, -, -, r10, -, -, -, -, -, -, -, -, -, -, ⟨k10, n10⟩, -⟩ := id h.1
  have n100 : B 10 ≠ B 0 := h.1.ne 10 0
  obtain ⟨s, e, p1, p2⟩ := zloop_cnt (body := fun x => bX12_told_86 (B 0) l1 l2 (nI m) x.1 x.2)
    (fun i x => x.1 = nI i ∧ zfr B σ x.2 ∧ ((zi x.2 (B 0) 18 = 0 ∧ pos + 3 * i ≤ 8 * pk.length ∧ zMQ x.2 B pk out (pos + 3 * i) ∧ zCL x.2 B 352 (tlI pk pos i) 19) ∨ (zi x.2 (B 0) 18 = 1 ∧ ¬ pos + 3 * m ≤ 8 * pk.length ∧ (∃ o p, zMQ x.2 B pk o p) ∧ ∃ len, zCL x.2 B 352 len 19))) m
    (fun s => zfr B σ s ∧ ((zi s (B 0) 18 = 0 ∧ pos + 3 * m ≤ 8 * pk.length ∧ zMQ s B pk out (pos + 3 * m) ∧ zCL s B 352 (tlI pk pos m) 19) ∨ (zi s (B 0) 18 = 1 ∧ ¬ pos + 3 * m ≤ 8 * pk.length ∧ (∃ o p, zMQ s B pk o p) ∧ ∃ len, zCL s B 352 len 19)))
    (fun i x hi hx => by
      obtain ⟨k, s⟩ := x
      obtain ⟨x1, x2, x3⟩ := hx
      dsimp only at x1 x2 x3
      subst x1
      have c1 : ¬ nI m ≤ nI i := by rw [nI_leI (by omega) (by omega)]; omega
      have ks : zk s (B 0) = 12 := by rw [x2.1.k]; exact k0
      rcases x3 with ⟨q1, q2, q3, q4⟩ | ⟨q1, q2, q3, q4⟩
      · obtain ⟨r1, s1, e1, m1, f1, w1⟩ := m_bits q3 (m := 3) (by decide)
        have e1' : fX12_bits s (B 0) 3 = some (r1, s1) := e1
        have k1 : zk s1 (B 0) = 12 := by rw [m1.k]; exact ks
        obtain ⟨-, o2⟩ := ord_zt i (by omega)
        have a2 : (352 : Int32) + nI (ordS i) = nI (352 + ordS i) := nI_add 352 _
        have z1 : zfr B σ s1 := x2.trans (show zfs B s s1 from ⟨m1, f1⟩).zfr
        have hst : zsm (fun a => a = B 10) s1 (zuI s1 (B 10) (352 + ordS i) r1) := zsm.rf.uI rfl
        have q5 : ∃ p, zMQ s1 B pk out p := by
          rcases w1 with ⟨-, -, -, q⟩ | ⟨v, -, -, -, -, q⟩
          · exact ⟨_, q⟩
          · exact ⟨_, q⟩
        obtain ⟨p5, q5⟩ := q5
        have z2 : zfr B σ (zuI s1 (B 10) (352 + ordS i) r1) := z1.trans (zfr_len q5.1 hst)
        have hbody : bX12_told_86 (B 0) l1 l2 (nI m) (nI i) s = some (.inl (nI (i + 1), zuI s1 (B 10) (352 + ordS i) r1)) := by
          unfold bX12_told_86
          rw [if_neg c1, oGI_eq ks q1, if_pos rfl, oGR_eq ks (by rw [x2.1.r]; exact r10), oB_eq (m_ord (by omega)), oA_eq ks, oC_eq e1', a2, oSt_eq (by rw [z1.1.k]; exact k10) (by rw [z1.1.n, n10]; omega) (by omega), oL_eq, nI_1]
        have hkeep : ∀ v : Int32, zi (zuI s1 (B 10) (352 + ordS i) v) (B 0) 18 = zi s1 (B 0) 18 := fun v => by rw [zi_uI, if_neg (fun z => n100 z.1.symm)]
        rcases w1 with ⟨t1, t2, t3, t4⟩ | ⟨v, t1, t2, t3, t4, t5⟩
        · have hno := takeS_no t1
          subst t2
          refine Or.inl ⟨_, hbody, rfl, z2, Or.inr ⟨by show zi (zuI s1 _ _ _) _ _ = _; rw [hkeep]; exact t3, by omega, ⟨_, _, t4.len hst⟩, va_up (tlI pk pos i) (ordS i) 0, fun j hj => ?_⟩⟩
          have hj' := q4 j hj
          unfold va_up
          by_cases w : j = ordS i
          · rw [if_pos w]
            refine ⟨by decide, ?_⟩
            show zi (zuI s1 _ _ _) _ _ = _
            rw [zi_uI, if_pos ⟨rfl, by omega⟩]
            rfl
          · rw [if_neg w]
            refine ⟨hj'.1, ?_⟩
            show zi (zuI s1 _ _ _) _ _ = _
            rw [zi_uI, if_neg (fun z => by omega), m1.i n100]
            exact hj'.2
        · subst t2
          obtain ⟨y1, y2⟩ := takeS_at t1
          refine Or.inl ⟨_, hbody, rfl, z2, Or.inl ⟨by show zi (zuI s1 _ _ _) _ _ = _; rw [hkeep]; exact t4.trans q1, by omega, ?_, fun j hj => ?_⟩⟩
          · have := t5.len hst
            have e : pos + 3 * i + 3 = pos + 3 * (i + 1) := by omega
            rw [e] at this
            exact this
          · refine ⟨Nat.le_trans (tlI_le pk pos (i + 1) j) (by decide), ?_⟩
            show zi (zuI s1 _ _ _) _ _ = _
            rw [tlI]
            unfold va_up
            by_cases w : j = ordS i
            · rw [if_pos w, zi_uI, if_pos ⟨rfl, by omega⟩, y1]
            · rw [if_neg w, zi_uI, if_neg (fun z => by omega), m1.i n100]
              exact (q4 j hj).2
      · refine Or.inr ⟨s, ?_, x2, Or.inr ⟨q1, q2, q3, q4⟩⟩
        show bX12_told_86 _ _ _ _ _ _ = _
        unfold bX12_told_86
        rw [if_neg c1, oGI_eq ks q1, if_neg (by decide)])
    (fun x hx => by
      obtain ⟨k, s⟩ := x
      obtain ⟨x1, x2, x3⟩ := hx
      dsimp only at x1 x2 x3
      subst x1
      refine ⟨s, ?_, x2, x3⟩
      show bX12_told_86 _ _ _ _ _ _ = _
      unfold bX12_told_86
      simp only [zle, Int.le_refl, ↓reduceIte]) zF (0, σ) ⟨nI_0.symm, zfr.rf, Or.inl ⟨hb, by have := h.2.2.1.2.2; omega, h, fun j hj => ⟨by simp [tlI], hz j hj⟩⟩⟩ (by unfold zF; omega)
  exact ⟨s, e, p1, p2⟩
/-- the tail where 'bad' stands -/
theorem m_tailB {l1 l2 : Int32} {len : Nat → Nat} (h : zMQ σ B pk out pos) (hb : zi σ (B 0) 18 = 1) (hl : zCL σ B 352 len 19) : ∃ s, tTail σ (B 0) l1 l2 = some s ∧ zfr B σ s ∧ zi s (B 0) 18 = 1 ∧ ∃ o p, zMQ s B pk o p := by
  have k0 : zk σ (B 0) = 12 := h.1.2.1
  obtain ⟨s3, e3, m3, f3, g3, h3, c3, w3⟩ := m_make (len := len) (M := 19) (fr := 352) (lk := 0) h (Or.inl rfl) (by decide) (by decide) hl (Or.inr hb)
  have b3 : zi s3 (B 0) 18 = 1 := by
    rcases w3 with ⟨-, q, -⟩ | ⟨q, -⟩
    · rw [hb] at q; exact absurd q (by decide)
    · exact q
  have k3 : zk s3 (B 0) = 12 := by rw [m3.k]; exact k0
  have e3' : fX12_makeCodes σ (B 0) 352 19 0 = some s3 := e3
  have e4 : bX12_told_140 (B 0) l1 l2 0 (-1) s3 = some (.inr s3) := by
    unfold bX12_told_140
    by_cases q : l1 + l2 ≤ 0
    · rw [if_pos q]
    · rw [if_neg q, oGI_eq k3 b3, if_neg (by decide)]
  refine ⟨zuI s3 (B 0) 18 1, ?_, (zfr_make m3 f3).bad, zi_bad, _, _, h3.bad⟩
  unfold tTail
  rw [oA_eq k0, oB_eq e3', oB_eq (zloop_one (body := fun x => bX12_told_140 (B 0) l1 l2 x.1 x.2.1 x.2.2) (x := (0, -1, s3)) e4)]
  dsimp only
  rw [oGI_eq k3 b3, if_neg (by decide)]
  unfold fX12_told_359 fX12_told_364
  rw [oPZ_eq k3 (Or.inr rfl), oGI_eq (by rw [zk_uI]; exact k3) zi_bad, if_neg (by decide)]
theorem m_toldB {l1 l2 l3 : Int32} (h : zMQ σ B pk out pos) : ∃ s, fX12_told_47 σ (B 0) l1 l2 l3 (B 0) = some s ∧ zfr B σ s ∧ zi s (B 0) 18 = 1 ∧ ∃ o p, zMQ s B pk o p := by
  have k0 : zk σ (B 0) = 12 := h.1.2.1
  have h1 := h.bad (v := 1)
  obtain ⟨s2, e2, m2, f2⟩ := m_tzero (l1 := l1) (l2 := l2) (l3 := l3) h1.1
  have b2 : zi s2 (B 0) 18 = 1 := (m2.i (h.1.ne 0 10) 18).trans zi_bad
  have k2 : zk s2 (B 0) = 12 := by rw [m2.k, zk_uI]; exact k0
  have e3 : bX12_told_86 (B 0) l1 l2 l3 0 s2 = some (.inr s2) := by
    unfold bX12_told_86
    by_cases q : l3 ≤ 0
    · rw [if_pos q]
    · rw [if_neg q, oGI_eq k2 b2, if_neg (by decide)]
  obtain ⟨s4, e4, z4, b4, q4⟩ := m_tailB (l1 := l1) (l2 := l2) (len := fun _ => 0) (h1.len m2) b2 (fun j hj => ⟨Nat.zero_le _, f2 j hj⟩)
  refine ⟨s4, ?_, ((zfr.rf.bad (v := 1)).trans (zfr_len h1.1 m2)).trans z4, b4, q4⟩
  unfold fX12_told_47
  rw [told52, oPZ_eq k0 (Or.inr rfl), oB_eq e2, oB_eq (zloop_one (body := fun x => bX12_told_86 (B 0) l1 l2 l3 x.1 x.2) (x := (0, s2)) e3), e4]
/-- the same length, so many times -/
theorem m_rep {ls : List Nat} {M Dn m w : Nat} (h : zML σ B) (hb : zi σ (B 0) 18 = 0) (hl : zMLS σ B M ls) (hM : M ≤ 286) (hD : Dn ≤ 30) (hm : ls.length + m ≤ M + Dn) (hw : w ≤ 15) :
    ∃ s, zloop zF (fun x => bX12_told_284 (B 0) (nI M) (nI Dn) (nI w) (nI m) x.1 x.2.1 x.2.2) (nI ls.length, 0, σ) = some (nI (ls.length + m), s) ∧ zsm (fun a => a = B 10) σ s ∧ zMLS s B M (ls ++ List.replicate m w) ∧ ∀ j, 352 ≤ j → zi s (B 10) j = zi σ (B 10) j := by
  obtain ⟨l0, k0, -, -, -, -, -, -, -, -, -, r10, -, -, -, -, -, -, -, -, -, -, ⟨k10, n10⟩, -⟩ := id h
  have n0 : B 0 ≠ B 10 := h.ne 0 10
  obtain ⟨b, e, p1, p2, p3, p4⟩ := zloop_cnt (body := fun x => bX12_told_284 (B 0) (nI M) (nI Dn) (nI w) (nI m) x.1 x.2.1 x.2.2)
    (fun i x => x.1 = nI (ls.length + i) ∧ x.2.1 = nI i ∧ zsm (fun a => a = B 10) σ x.2.2 ∧ zMLS x.2.2 B M (ls ++ List.replicate i w) ∧ ∀ j, 352 ≤ j → zi x.2.2 (B 10) j = zi σ (B 10) j) m
    (fun b => b.1 = nI (ls.length + m) ∧ zsm (fun a => a = B 10) σ b.2 ∧ zMLS b.2 B M (ls ++ List.replicate m w) ∧ ∀ j, 352 ≤ j → zi b.2 (B 10) j = zi σ (B 10) j)
    (fun i x hi hx => by
      obtain ⟨y1, y2, s⟩ := x
      obtain ⟨x1, x2, x3, x4, x5⟩ := hx
      dsimp only at x1 x2 x3 x4 x5
      subst x1
      subst x2
      have c1 : ¬ nI m ≤ nI i := by rw [nI_leI (by omega) (by omega)]; omega
      have ks : zk s (B 0) = 12 := by rw [x3.k]; exact k0
      have bs : zi s (B 0) 18 = 0 := (x3.i n0 18).trans hb
      have cM : nI M ≤ nI (ls.length + i) ↔ M ≤ ls.length + i := nI_leI (by omega) (by omega)
      have hidx : idxM M (ls.length + i) < 352 := by unfold idxM; split <;> omega
      have hst : ∀ f : zS → Option ((Int32 × Int32 × zS) ⊕ (Int32 × zS)), oSt s 21 (B 10) (nI (idxM M (ls.length + i))) (nI w) f = f (zuI s (B 10) (idxM M (ls.length + i)) (nI w)) := fun f => oSt_eq (by rw [x3.k]; exact k10) (by rw [x3.n, n10]; omega) (by omega)
      refine Or.inl ⟨(nI (ls.length + (i + 1)), nI (i + 1), zuI s (B 10) (idxM M (ls.length + i)) (nI w)), ?_, rfl, rfl, x3.uI rfl, fun j hj => ?_, fun j hj => ?_⟩
      · show bX12_told_284 _ _ _ _ _ _ _ _ = _
        unfold bX12_told_284 fX12_told_321
        rw [if_neg c1, oGI_eq ks bs, if_pos rfl, oGR_eq ks (by rw [x3.r]; exact r10)]
        by_cases q : M ≤ ls.length + i
        · have e1 : ((320 : Int32) + nI (ls.length + i)) - nI M = nI (idxM M (ls.length + i)) := by
            have : (320 : Int32) + nI (ls.length + i) = nI (320 + (ls.length + i)) := nI_add 320 _
            rw [this, pk_sub (by omega)]
            unfold idxM
            rw [if_neg (by omega)]
          rw [if_pos (cM.mpr q), e1, hst, oL_eq, oL_eq, nI_1, nI_1]
          rfl
        · have e1 : nI (ls.length + i) = nI (idxM M (ls.length + i)) := by unfold idxM; rw [if_pos (by omega)]
          rw [if_neg (fun z => q (cM.mp z))]
          have : oSt s 21 (B 10) (nI (ls.length + i)) (nI w) = oSt s 21 (B 10) (nI (idxM M (ls.length + i))) (ρ := (Int32 × Int32 × zS) ⊕ (Int32 × zS)) (nI w) := by rw [← e1]
          rw [this, hst, oL_eq, oL_eq, nI_1, nI_1]
          rfl
      · simp only [List.length_append, List.length_replicate] at hj
        rw [zi_uI]
        by_cases q : j = ls.length + i
        · rw [if_pos ⟨rfl, by rw [q]⟩, zgetD_rep (by omega) (by omega)]
          exact ⟨rfl, hw⟩
        · have hne : idxM M j ≠ idxM M (ls.length + i) := by
            unfold idxM
            split <;> split <;> omega
          rw [if_neg (fun z => hne z.2)]
          have hx4 := x4 j (by simp only [List.length_append, List.length_replicate]; omega)
          by_cases q2 : j < ls.length
          · rw [zgetD_app q2] at hx4 ⊢
            exact hx4
          · rw [zgetD_rep (by omega) (by omega)] at hx4 ⊢
            exact hx4
      · show zi (zuI s _ _ _) _ _ = _
        rw [zi_uI, if_neg (fun z => by omega)]
        exact x5 j hj)
    (fun x hx => by
      obtain ⟨y1, y2, s⟩ := x
      obtain ⟨x1, x2, x3, x4, x5⟩ := hx
      dsimp only at x1 x2 x3 x4 x5
      subst x2
      refine ⟨(y1, s), ?_, x1, x3, x4, x5⟩
      show bX12_told_284 _ _ _ _ _ _ _ _ = _
      unfold bX12_told_284
      simp only [zle, Int.le_refl, ↓reduceIte]) zF (nI ls.length, 0, σ) ⟨rfl, nI_0.symm, zsm.rf, by simpa using hl, fun _ _ => rfl⟩ (by unfold zF; omega)
  obtain ⟨b1, b2⟩ := b
  dsimp only at p1 p2 p3 p4
  subst p1
  exact ⟨b2, e, p2, p3, p4⟩
/-- how often -/
theorem m_191 {v : Nat} {l1 l2 l4 W : Int32} (h : zMQ σ B pk out pos) (hb : zi σ (B 0) 18 = 0) (hv : v < 19) : ∃ x s, fX12_told_191 σ (B 0) l1 l2 l4 (nI v) W = fX12_told_247 s (B 0) l1 l2 l4 W (nI (repA v) + x) ∧ zfs B σ s ∧ ((takeS pk pos (repB v) = none ∧ zi s (B 0) 18 = 1 ∧ ∃ p, zMQ s B pk out p) ∨ ∃ u, takeS pk pos (repB v) = some (u, pos + repB v) ∧ x = nI u ∧ u < 128 ∧ zi s (B 0) 18 = 0 ∧ zMQ s B pk out (pos + repB v)) := by
  have k0 : zk σ (B 0) = 12 := h.1.2.1
  have h16 : (16 : Int32) ≤ nI v ↔ 16 ≤ v := nI_leI (a := 16) (by decide) (by omega)
  have e16 : nI v = 16 ↔ v = 16 := nI_eq (b := 16) (by omega) (by decide)
  have e17 : nI v = 17 ↔ v = 17 := nI_eq (b := 17) (by omega) (by decide)
  have hbits : ∀ m, m ≤ 7 → m = repB v → ∃ x s, fX12_bits σ (B 0) (nI m) = some (x, s) ∧ zfs B σ s ∧ ((takeS pk pos (repB v) = none ∧ zi s (B 0) 18 = 1 ∧ ∃ p, zMQ s B pk out p) ∨ ∃ u, takeS pk pos (repB v) = some (u, pos + repB v) ∧ x = nI u ∧ u < 128 ∧ zi s (B 0) 18 = 0 ∧ zMQ s B pk out (pos + repB v)) := fun m hm he => by
    obtain ⟨r, s, e, m1, f1, w⟩ := m_bits h (m := m) (by omega)
    refine ⟨r, s, e, ⟨m1, f1⟩, ?_⟩
    rw [← he]
    rcases w with ⟨t1, -, t3, t4⟩ | ⟨u, t1, t2, t3, t4, t5⟩
    · exact Or.inl ⟨t1, t3, _, t4⟩
    · have : 2 ^ m ≤ 2 ^ 7 := Nat.pow_le_pow_right (by decide) hm
      exact Or.inr ⟨u, t1, t2, by omega, t4.trans hb, t5⟩
  unfold fX12_told_191
  by_cases c : 16 ≤ v
  · rw [if_pos (h16.mpr c)]
    by_cases d : v = 16
    · obtain ⟨x, s, e, z, w⟩ := hbits 2 (by decide) (by rw [d]; rfl)
      have e' : fX12_bits σ (B 0) 2 = some (x, s) := e
      refine ⟨x, s, ?_, z, w⟩
      rw [if_pos (e16.mpr d), oA_eq k0, oC_eq e', d]
      rfl
    · rw [if_neg (fun z => d (e16.mp z))]
      by_cases d2 : v = 17
      · obtain ⟨x, s, e, z, w⟩ := hbits 3 (by decide) (by rw [d2]; rfl)
        have e' : fX12_bits σ (B 0) 3 = some (x, s) := e
        refine ⟨x, s, ?_, z, w⟩
        rw [if_pos (e17.mpr d2), oA_eq k0, oC_eq e', d2]
        rfl
      · have d3 : v = 18 := by omega
        obtain ⟨x, s, e, z, w⟩ := hbits 7 (by decide) (by rw [d3]; rfl)
        have e' : fX12_bits σ (B 0) 7 = some (x, s) := e
        refine ⟨x, s, ?_, z, w⟩
        rw [if_neg (fun z => d2 (e17.mp z)), oA_eq k0, oC_eq e', d3]
        rfl
  · have ea : repA v = 1 := by unfold repA; rw [if_pos (by omega)]
    have eb : repB v = 0 := by unfold repB; rw [if_pos (by omega)]
    refine ⟨0, σ, ?_, zfs.rf, Or.inr ⟨0, ?_, nI_0.symm, by decide, hb, by rw [eb]; exact h⟩⟩
    · rw [if_neg (fun z => c (h16.mp z)), ea]
      rfl
    · rw [eb]
      unfold takeS
      rw [if_pos (by have := h.2.2.1.2.2; omega)]
      rfl
theorem m_273 {l1 l2 l4 l7 l8 : Int32} (h : zMQ σ B pk out pos) : fX12_told_273 σ (B 0) l1 l2 l4 l7 l8 (B 0) = some (.inl (l4, l7, zuI σ (B 0) 18 1)) := by
  have k0 : zk σ (B 0) = 12 := h.1.2.1
  have e : bX12_told_284 (B 0) l1 l2 l7 l8 l4 0 (zuI σ (B 0) 18 1) = some (.inr (l4, zuI σ (B 0) 18 1)) := by
    unfold bX12_told_284
    by_cases q : l8 ≤ 0
    · rw [if_pos q]
    · rw [if_neg q, oGI_eq (by rw [zk_uI]; exact k0) zi_bad, if_neg (by decide)]
  unfold fX12_told_273 fX12_told_278
  rw [oPZ_eq k0 (Or.inr rfl), oB_eq (zloop_one (body := fun x => bX12_told_284 (B 0) l1 l2 l7 l8 x.1 x.2.1 x.2.2) (x := (l4, 0, zuI σ (B 0) 18 1)) e)]
/-- one turn of the lengths -/
theorem m_lens1 {tl : Nat → Nat} {M Dn : Nat} {ls : List Nat} (h : zMQ σ B pk out pos) (hb : zi σ (B 0) 18 = 0) (hC : zCM σ B 352 tl 19) (hl : zMLS σ B M ls) (hM : M ≤ 286) (hD : Dn ≤ 30) (hlt : ls.length < M + Dn) :
    ∃ y1 y2 s, bX12_told_140 (B 0) (nI M) (nI Dn) (nI ls.length) (lastV ls) σ = some (.inl (y1, y2, s)) ∧ zfr B σ s ∧ ((zi s (B 0) 18 = 1 ∧ (∃ o p, zMQ s B pk o p) ∧ ∀ q, lensF pk tl (M + Dn) (q + 1) ls pos = none) ∨
       ∃ ls' p', y1 = nI ls'.length ∧ y2 = lastV ls' ∧ zi s (B 0) 18 = 0 ∧ zMQ s B pk out p' ∧ zCM s B 352 tl 19 ∧ zMLS s B M ls' ∧ ls.length < ls'.length ∧ ls'.length ≤ M + Dn ∧ ∀ q, lensF pk tl (M + Dn) (q + 1) ls pos = lensF pk tl (M + Dn) q ls' p') := by
  have k0 : zk σ (B 0) = 12 := h.1.2.1
  have n10 : B 10 ≠ B 0 := h.1.ne 10 0
  have n11 : B 11 ≠ B 0 := h.1.ne 11 0
  have aMD : nI M + nI Dn = nI (M + Dn) := nI_add _ _
  have c0 : ¬ nI (M + Dn) ≤ nI ls.length := by rw [nI_leI (by omega) (by omega)]; omega
  have nw : ∀ q, lensF pk tl (M + Dn) (q + 1) ls pos = match symS (pb pk) pk.length pos tl 19 with
    | none => none
    | some (s, p1) => if s = 16 ∧ ls.length = 0 then none else
      match takeS pk p1 (repB s) with
      | none => none
      | some (v, p2) => if ls.length + (repA s + v) ≤ M + Dn then lensF pk tl (M + Dn) q (ls ++ List.replicate (repA s + v) (repV s ls)) p2 else none := fun q => by
    rw [lensF, if_neg (by omega)]
    rfl
  obtain ⟨r1, s1, e1, z1, w1⟩ := m_symbol h hb hC (by decide) (by decide)
  have e1' : fX12_symbol σ (B 0) 352 19 = some (r1, s1) := e1
  have k1 : zk s1 (B 0) = 12 := by rw [z1.1.k]; exact k0
  have hpre : bX12_told_140 (B 0) (nI M) (nI Dn) (nI ls.length) (lastV ls) σ = (if (16 : Int32) ≤ r1 then (if r1 = (16 : Int32) then fX12_told_191 s1 (B 0) (nI M) (nI Dn) (nI ls.length) r1 (lastV ls) else fX12_told_191 s1 (B 0) (nI M) (nI Dn) (nI ls.length) r1 0) else fX12_told_191 s1 (B 0) (nI M) (nI Dn) (nI ls.length) r1 r1) := by
    unfold bX12_told_140
    rw [aMD, if_neg c0, oGI_eq k0 hb, if_pos rfl, oA_eq k0, oC_eq e1']
  rcases w1 with ⟨t1, t2, t3, p', t4⟩ | ⟨v, p1, t1, t2, t3, t4, t5⟩
  · subst t2
    refine ⟨nI ls.length, 0, zuI s1 (B 0) 18 1, ?_, z1.zfr.bad, Or.inl ⟨zi_bad, ⟨_, _, t4.bad⟩, fun q => by rw [nw, t1]⟩⟩
    rw [hpre, if_neg (by decide)]
    unfold fX12_told_191 fX12_told_247
    rw [if_neg (by decide), oGI_eq k1 t3, if_neg (by decide), m_273 t4]
  · subst t2
    have h16 : (16 : Int32) ≤ nI v ↔ 16 ≤ v := nI_leI (a := 16) (by decide) (by omega)
    have e16 : nI v = 16 ↔ v = 16 := nI_eq (b := 16) (by omega) (by decide)
    obtain ⟨-, -, rb, ra1, ra2⟩ := rep_zt v (by omega)
    have hW : bX12_told_140 (B 0) (nI M) (nI Dn) (nI ls.length) (lastV ls) σ = fX12_told_191 s1 (B 0) (nI M) (nI Dn) (nI ls.length) (nI v) (if v < 16 then nI v else if v = 16 then lastV ls else 0) := by
      rw [hpre]
      by_cases c : 16 ≤ v
      · rw [if_pos (h16.mpr c), if_neg (show ¬ v < 16 by omega)]
        by_cases d : v = 16
        · rw [if_pos (e16.mpr d), if_pos d]
        · rw [if_neg (fun z => d (e16.mp z)), if_neg d]
      · rw [if_neg (fun z => c (h16.mp z)), if_pos (by omega)]
    obtain ⟨x, s2, e2, z2, w2⟩ := m_191 (l1 := nI M) (l2 := nI Dn) (l4 := nI ls.length) (W := (if v < 16 then nI v else if v = 16 then lastV ls else 0)) t5 t4 (by omega)
    have z12 := z1.trans z2
    have k2 : zk s2 (B 0) = 12 := by rw [z12.1.k]; exact k0
    rw [hW, e2]
    unfold fX12_told_247
    rw [aMD]
    rcases w2 with ⟨u1, u2, p2, u3⟩ | ⟨u, u1, u2, u3, u4, u5⟩
    · rw [oGI_eq k2 u2, if_neg (by decide), m_273 u3]
      refine ⟨_, _, _, rfl, z12.zfr.bad, Or.inl ⟨zi_bad, ⟨_, _, u3.bad⟩, fun q => ?_⟩⟩
      rw [nw, t1]
      dsimp only
      split
      · rfl
      · rw [u1]
    · subst u2
      rw [oGI_eq k2 u4, if_pos rfl, nI_add]
      by_cases d0 : v = 16 ∧ ls.length = 0
      · have hneg : (if v < 16 then nI v else if v = 16 then lastV ls else 0) < 0 := by
          rw [if_neg (by omega), if_pos d0.1]
          unfold lastV
          rw [if_pos d0.2]
          decide
        rw [if_pos hneg, m_273 u5]
        refine ⟨_, _, _, rfl, z12.zfr.bad, Or.inl ⟨zi_bad, ⟨_, _, u5.bad⟩, fun q => ?_⟩⟩
        rw [nw, t1]
        dsimp only
        rw [if_pos d0]
      · have hrv : (if v < 16 then nI v else if v = 16 then lastV ls else 0) = nI (repV v ls) ∧ repV v ls ≤ 15 := by
          unfold repV
          by_cases c1 : v < 16
          · rw [if_pos c1, if_pos c1]; exact ⟨rfl, by omega⟩
          · rw [if_neg c1, if_neg c1]
            by_cases c2 : v = 16
            · have hn : ¬ ls.length = 0 := fun z => d0 ⟨c2, z⟩
              rw [if_pos c2, if_pos c2]
              unfold lastV
              rw [if_neg hn]
              exact ⟨rfl, (hl _ (by omega)).2⟩
            · rw [if_neg c2, if_neg c2]
              exact ⟨rfl, by decide⟩
        rw [hrv.1]
        have hnn : ¬ nI (repV v ls) < 0 := nI_pos (by have := hrv.2; omega)
        rw [if_neg hnn, nI_add]
        have cle : nI (ls.length + (repA v + u)) ≤ nI (M + Dn) ↔ ls.length + (repA v + u) ≤ M + Dn := nI_leI (by omega) (by omega)
        by_cases d1 : ls.length + (repA v + u) ≤ M + Dn
        · rw [if_pos (cle.mpr d1)]
          have q6 := u5.bad (v := 0)
          have hl6 : zMLS (zuI s2 (B 0) 18 0) B M ls := fun j hj => by
            rw [zi_uI, if_neg (fun z => n10 z.1), z12.1.i n10]; exact hl j hj
          obtain ⟨s3, e3, m3, f3, g3⟩ := m_rep (Dn := Dn) (m := repA v + u) (w := repV v ls) q6.1 zi_bad hl6 hM hD d1 hrv.2
          unfold fX12_told_278
          rw [oPZ_eq k2 (Or.inl rfl), oB_eq e3]
          have z6 : zfs B σ (zuI s2 (B 0) 18 0) := z12.bad
          refine ⟨_, _, s3, rfl, z6.zfr.trans (zfr_len q6.1 m3), Or.inr ⟨ls ++ List.replicate (repA v + u) (repV v ls), p1 + repB v, ?_, ?_, (m3.i (h.1.ne 0 10) 18).trans zi_bad, q6.len m3, ⟨fun j hj => ⟨(hC.1 j hj).1, ?_⟩, fun j hj h0 => ?_⟩, f3, ?_, ?_, fun q => ?_⟩⟩
          · simp only [List.length_append, List.length_replicate]
          · unfold lastV
            simp only [List.length_append, List.length_replicate]
            rw [if_neg (by omega), zgetD_rep (by omega) (by omega)]
          · rw [g3 _ (by omega), z6.1.i n10]; exact (hC.1 j hj).2
          · rw [m3.i (h.1.ne 11 10), z6.1.i n11]; exact hC.2 j hj h0
          · simp only [List.length_append, List.length_replicate]; omega
          · simp only [List.length_append, List.length_replicate]; omega
          · rw [nw, t1]
            dsimp only
            rw [if_neg d0, u1]
            dsimp only
            rw [if_pos d1]
        · rw [if_neg (fun z => d1 (cle.mp z)), m_273 u5]
          refine ⟨_, _, _, rfl, z12.zfr.bad, Or.inl ⟨zi_bad, ⟨_, _, u5.bad⟩, fun q => ?_⟩⟩
          rw [nw, t1]
          dsimp only
          rw [if_neg d0, u1]
          dsimp only
          rw [if_neg d1]
end PMTOLD
