/-! the reference's told blocks, all of it -/
noncomputable def tailS (pk : List Nat) (tl : Nat → Nat) (M Dn pos : Nat) (out : List Nat) : Option (Nat × List Nat) := by
  classical
  exact if leftS tl 19 15 = 0 then
    match lensS pk tl (M + Dn) pos with
    | none => none
    | some (ls, p2) => if okS ls M Dn then codedS pk (fun s => ls.getD s 0) M (fun s => ls.getD (M + s) 0) Dn p2 out else none
    else none
section PMTOLD2
variable {σ : zS} {B : Nat → Nat} {pk out : List Nat} {pos : Nat}
theorem m_lens {tl : Nat → Nat} {M Dn : Nat} (h : zMQ σ B pk out pos) (hb : zi σ (B 0) 18 = 0) (hC : zCM σ B 352 tl 19) (hM : M ≤ 286) (hD : Dn ≤ 30) :
    ∃ s, zloop zF (fun x => bX12_told_140 (B 0) (nI M) (nI Dn) x.1 x.2.1 x.2.2) (0, (-1 : Int32), σ) = some s ∧ zfr B σ s ∧ ((zi s (B 0) 18 = 1 ∧ (∃ o p, zMQ s B pk o p) ∧ lensS pk tl (M + Dn) pos = none) ∨ ∃ ls p', lensS pk tl (M + Dn) pos = some (ls, p') ∧ zi s (B 0) 18 = 0 ∧ zMQ s B pk out p' ∧ zMLS s B M ls ∧ ls.length = M + Dn) := by
  have k0 : zk σ (B 0) = 12 := h.1.2.1
  have aMD : nI M + nI Dn = nI (M + Dn) := nI_add _ _
  have hlF : ∀ k ls p, M + Dn ≤ ls.length → lensF pk tl (M + Dn) k ls p = some (ls, p) := fun k ls p hl => by
    cases k with
    | zero => rw [lensF, if_pos hl]
    | succ k => rw [lensF, if_pos hl]
  obtain ⟨s, e, p1, p2⟩ := zloop_cnt (body := fun x => bX12_told_140 (B 0) (nI M) (nI Dn) x.1 x.2.1 x.2.2)
    (fun i x => zfr B σ x.2.2 ∧ ((∃ ls p', x.1 = nI ls.length ∧ x.2.1 = lastV ls ∧ zi x.2.2 (B 0) 18 = 0 ∧ zMQ x.2.2 B pk out p' ∧ zCM x.2.2 B 352 tl 19 ∧ zMLS x.2.2 B M ls ∧ i ≤ ls.length ∧ ls.length ≤ M + Dn ∧ lensS pk tl (M + Dn) pos = lensF pk tl (M + Dn) (M + Dn - i) ls p') ∨ (zi x.2.2 (B 0) 18 = 1 ∧ (∃ o p, zMQ x.2.2 B pk o p) ∧ lensS pk tl (M + Dn) pos = none))) (M + Dn + 1)
    (fun s => zfr B σ s ∧ ((zi s (B 0) 18 = 1 ∧ (∃ o p, zMQ s B pk o p) ∧ lensS pk tl (M + Dn) pos = none) ∨ ∃ ls p', lensS pk tl (M + Dn) pos = some (ls, p') ∧ zi s (B 0) 18 = 0 ∧ zMQ s B pk out p' ∧ zMLS s B M ls ∧ ls.length = M + Dn))
    (fun i x hi hx => by
      obtain ⟨y1, y2, s⟩ := x
      obtain ⟨x1, x2⟩ := hx
      dsimp only at x1 x2
      have ks : zk s (B 0) = 12 := by rw [x1.1.k]; exact k0
      rcases x2 with ⟨ls, p', q1, q2, q3, q4, q5, q6, q7, q8, q9⟩ | ⟨q1, q2, q3⟩
      · subst q1
        subst q2
        by_cases hf : ls.length < M + Dn
        · obtain ⟨z1, z2, s', e', f', w'⟩ := m_lens1 q4 q3 q5 q6 hM hD hf
          have es : M + Dn - i = (M + Dn - (i + 1)) + 1 := by omega
          rw [es] at q9
          rcases w' with ⟨w1, w2, w3⟩ | ⟨ls', p'', w1, w2, w3, w4, w5, w6, w7, w8, w9⟩
          · exact Or.inl ⟨_, e', x1.trans f', Or.inr ⟨w1, w2, by rw [q9]; exact w3 _⟩⟩
          · exact Or.inl ⟨_, e', x1.trans f', Or.inl ⟨ls', p'', w1, w2, w3, w4, w5, w6, by omega, w8, by rw [q9]; exact w9 _⟩⟩
        · have e1 : ls.length = M + Dn := by omega
          refine Or.inr ⟨s, ?_, x1, Or.inr ⟨ls, p', by rw [q9, hlF _ _ _ (by omega)], q3, q4, q6, e1⟩⟩
          show bX12_told_140 (B 0) (nI M) (nI Dn) (nI ls.length) (lastV ls) s = _
          unfold bX12_told_140
          rw [aMD, e1, if_pos (by rw [zle]; exact Int.le_refl _)]
      · refine Or.inr ⟨s, ?_, x1, Or.inl ⟨q1, q2, q3⟩⟩
        show bX12_told_140 _ _ _ _ _ _ = _
        unfold bX12_told_140
        by_cases q : nI M + nI Dn ≤ y1
        · rw [if_pos q]
        · rw [if_neg q, oGI_eq ks q1, if_neg (by decide)])
    (fun x hx => by
      obtain ⟨y1, y2, s⟩ := x
      obtain ⟨x1, x2⟩ := hx
      dsimp only at x1 x2
      have ks : zk s (B 0) = 12 := by rw [x1.1.k]; exact k0
      rcases x2 with ⟨ls, p', q1, q2, q3, q4, q5, q6, q7, q8, q9⟩ | ⟨q1, q2, q3⟩
      · omega
      · refine ⟨s, ?_, x1, Or.inl ⟨q1, q2, q3⟩⟩
        show bX12_told_140 _ _ _ _ _ _ = _
        unfold bX12_told_140
        by_cases q : nI M + nI Dn ≤ y1
        · rw [if_pos q]
        · rw [if_neg q, oGI_eq ks q1, if_neg (by decide)]) zF (0, -1, σ) ⟨zfr.rf, Or.inl ⟨[], pos, nI_0.symm, rfl, hb, h, hC, fun j hj => absurd hj (Nat.not_lt_zero j), Nat.zero_le _, Nat.zero_le _, rfl⟩⟩ (by unfold zF; omega)
  exact ⟨s, e, p1, p2⟩
theorem m_359 {l1 l2 : Int32} {x : Option (Nat × List Nat)} (h : ∃ o p, zMQ σ B pk o p) (hx : x = none) : ∃ s, fX12_told_359 σ (B 0) l1 l2 (B 0) = some s ∧ zfr B σ s ∧ zMR s B pk x := by
  have k0 : zk σ (B 0) = 12 := by obtain ⟨o, p, h⟩ := h; exact h.1.2.1
  refine ⟨zuI σ (B 0) 18 1, ?_, zfr.rf.bad, zMR.bad h hx⟩
  unfold fX12_told_359 fX12_told_364
  rw [oPZ_eq k0 (Or.inr rfl), oGI_eq (by rw [zk_uI]; exact k0) zi_bad, if_neg (by decide)]
theorem m_364 {ls : List Nat} {M Dn : Nat} (h : zMQ σ B pk out pos) (hl : zMLS σ B M ls) (hn : ls.length = M + Dn) (hM0 : 257 ≤ M) (hM : M ≤ 286) (hD : Dn ≤ 30) (h256 : ls.getD 256 0 ≠ 0) :
    ∃ s, fX12_told_364 σ (B 0) (nI M) (nI Dn) 0 (B 0) = some s ∧ zfr B σ s ∧ zMR s B pk (@ite _ (okS ls M Dn) (Classical.propDecidable _) (codedS pk (fun s => ls.getD s 0) M (fun s => ls.getD (M + s) 0) Dn pos out) none) := by
  have k0 : zk σ (B 0) = 12 := h.1.2.1
  have n100 : B 10 ≠ B 0 := h.1.ne 10 0
  have n10' : ¬ (B 10 = B 0 ∨ B 10 = B 11) := fun z => z.elim (h.1.ne 10 0) (h.1.ne 10 11)
  have h1 := h.bad (v := 0)
  have hc1 : zCL (zuI σ (B 0) 18 0) B 0 (fun s => ls.getD s 0) M := fun j hj => by
    have := hl j (by omega)
    unfold idxM at this
    rw [if_pos hj] at this
    refine ⟨this.2, ?_⟩
    rw [zi_uI, if_neg (fun z => n100 z.1), Nat.zero_add]
    exact this.1
  have hc2 : zCL (zuI σ (B 0) 18 0) B 320 (fun s => ls.getD (M + s) 0) Dn := fun j hj => by
    have := hl (M + j) (by omega)
    unfold idxM at this
    rw [if_neg (by omega)] at this
    refine ⟨this.2, ?_⟩
    rw [zi_uI, if_neg (fun z => n100 z.1), ← this.1]
    congr 1
    omega
  have k1 : zk (zuI σ (B 0) 18 0) (B 0) = 12 := by rw [zk_uI]; exact k0
  have z1 : zfr B σ (zuI σ (B 0) 18 0) := zfr.rf.bad
  have b1 : zi (zuI σ (B 0) 18 0) (B 0) 18 = 0 := zi_bad
  unfold fX12_told_364
  rw [oPZ_eq k0 (Or.inl rfl), oGI_eq k1 b1, if_pos rfl, oA_eq k1]
  generalize zuI σ (B 0) 18 0 = s1 at h1 hc1 hc2 k1 z1 b1
  obtain ⟨s3, e3, m3, f3, g3, h3, c3, w3⟩ := m_make (fr := 0) (lk := 0) h1 (Or.inl rfl) (by omega) (by omega) hc1 (Or.inl b1)
  have e3' : fX12_makeCodes s1 (B 0) 0 (nI M) 0 = some s3 := e3
  have k3 : zk s3 (B 0) = 12 := by rw [m3.k]; exact k1
  have b3' : zi s3 (B 0) 18 = 0 ∨ zi s3 (B 0) 18 = 1 := by
    rcases w3 with ⟨q, -⟩ | ⟨q, -⟩
    · exact Or.inl q
    · exact Or.inr q
  have hc3 : zCL s3 B 320 (fun s => ls.getD (M + s) 0) Dn := fun j hj => ⟨(hc2 j hj).1, by rw [m3.i n10']; exact (hc2 j hj).2⟩
  obtain ⟨s4, e4, m4, f4, g4, h4, c4, w4⟩ := m_make (fr := 320) (lk := 1) h3 (Or.inr rfl) (by omega) (by omega) hc3 b3'
  have e4' : fX12_makeCodes s3 (B 0) 320 (nI Dn) 1 = some s4 := e4
  have k4 : zk s4 (B 0) = 12 := by rw [m4.k]; exact k3
  have z4 : zfr B σ s4 := z1.trans ((zfr_make m3 f3).trans (zfr_make m4 f4))
  obtain ⟨y1, y2, y3, y4⟩ := few_room (len := fun s => ls.getD (M + s) 0) (M := Dn) (fun j hj => (hc3 j hj).1)
  rw [oB_eq e3', oA_eq k3, oB_eq e4', oA_eq k4]
  have hno : ¬ ((0 : Int32) = 1) := by decide
  rcases w4 with ⟨q1, q2, q3⟩ | ⟨q1, q2⟩
  · rcases w3 with ⟨t1, t2, t3⟩ | ⟨t1, t2⟩
    · have hok : okS ls M Dn := by
        refine ⟨h256, ?_, ?_⟩
        · rcases t3 with t3 | t3
          · exact t3
          · exact absurd t3.1 hno
        · rcases q3 with q3 | q3
          · exact Or.inl q3
          · refine Or.inr ⟨y3 ?_, q3.2⟩
            rcases q3.2 with q3 | q3
            · exact Or.inl (by rw [y1]; exact q3)
            · exact Or.inr q3
      obtain ⟨s5, e5, z5, w5⟩ := m_coded h4 q1 (c3.keep m4 h3.1 g4 (by omega)) c4 (by omega) (by omega)
      refine ⟨s5, by rw [oB_eq e5], z4.trans z5.zfr, ?_⟩
      rw [if_pos hok]
      exact w5
    · rw [t1] at q2
      exact absurd q2 (by decide)
  · have e5 := m_codedB (M' := nI M) (D' := nI Dn) h4.1 q1
    refine ⟨s4, by rw [oB_eq e5], z4, Or.inl ⟨?_, q1, _, _, h4⟩⟩
    rw [if_neg]
    rintro ⟨o1, o2, o3⟩
    rcases w3 with ⟨t1, t2, t3⟩ | ⟨t1, t2⟩
    · exact q2 ⟨t1, o3.elim (fun z => Or.inl z) (fun z => Or.inr ⟨rfl, z.2⟩)⟩
    · exact t2 ⟨b1, Or.inl o2⟩
theorem m_tail {tl : Nat → Nat} {M Dn : Nat} (h : zMQ σ B pk out pos) (hb : zi σ (B 0) 18 = 0) (hl : zCL σ B 352 tl 19) (hM0 : 257 ≤ M) (hM : M ≤ 286) (hD : Dn ≤ 30) :
    ∃ s, tTail σ (B 0) (nI M) (nI Dn) = some s ∧ zfr B σ s ∧ zMR s B pk (tailS pk tl M Dn pos out) := by
  have k0 : zk σ (B 0) = 12 := h.1.2.1
  obtain ⟨s3, e3, m3, f3, g3, h3, c3, w3⟩ := m_make (fr := 352) (lk := 0) h (Or.inl rfl) (by decide) (by decide) hl (Or.inl hb)
  have e3' : fX12_makeCodes σ (B 0) 352 19 0 = some s3 := e3
  have k3 : zk s3 (B 0) = 12 := by rw [m3.k]; exact k0
  have z3 : zfr B σ s3 := zfr_make m3 f3
  have hno : ¬ ((0 : Int32) = 1) := by decide
  rcases w3 with ⟨q1, q2, q3⟩ | ⟨q1, q2⟩
  · have hleft : leftS tl 19 15 = 0 := q3.elim id (fun z => absurd z.1 hno)
    obtain ⟨s4, e4, z4, w4⟩ := m_lens h3 q1 c3 hM hD
    have k4 : zk s4 (B 0) = 12 := by rw [z4.1.k]; exact k3
    have hts : ∀ x, lensS pk tl (M + Dn) pos = x → tailS pk tl M Dn pos out = match x with
      | none => none
      | some (ls, p2) => @ite _ (okS ls M Dn) (Classical.propDecidable _) (codedS pk (fun s => ls.getD s 0) M (fun s => ls.getD (M + s) 0) Dn p2 out) none := fun x hx => by
      unfold tailS
      rw [if_pos hleft, hx]
    have hpre : tTail σ (B 0) (nI M) (nI Dn) = oGI s4 12 (B 0) 18 (fun x15 => (if x15 = 0 then oGR s4 12 (B 0) 21 (fun a4 => oLd s4 21 a4 256 (fun x17 => (if x17 = 0 then fX12_told_359 s4 (B 0) (nI M) (nI Dn) (B 0) else fX12_told_364 s4 (B 0) (nI M) (nI Dn) 0 (B 0)))) else fX12_told_359 s4 (B 0) (nI M) (nI Dn) (B 0))) := by
      unfold tTail
      rw [oA_eq k0, oB_eq e3', oB_eq e4]
    rw [hpre]
    rcases w4 with ⟨t1, t2, t3⟩ | ⟨ls, p', t1, t2, t3, t4, t5⟩
    · rw [oGI_eq k4 t1, if_neg (by decide)]
      obtain ⟨s5, e5, z5, w5⟩ := m_359 (l1 := nI M) (l2 := nI Dn) (x := tailS pk tl M Dn pos out) t2 (hts _ t3)
      exact ⟨s5, e5, (z3.trans z4).trans z5, w5⟩
    · have hx := t4 256 (by omega)
      unfold idxM at hx
      rw [if_pos (by omega)] at hx
      obtain ⟨-, -, -, -, -, -, -, -, -, -, -, r10, -, -, -, -, -, -, -, -, -, -, ⟨k10, n10⟩, -⟩ := id t3.1
      have hld : ∀ f : Int32 → Option zS, oLd s4 21 (B 10) 256 f = f (nI (ls.getD 256 0)) := fun f => oLd_eq (n := 256) k10 (by rw [n10]; decide) (by decide) hx.1
      have e256 : nI (ls.getD 256 0) = 0 ↔ ls.getD 256 0 = 0 := nI_eq (b := 0) (by omega) (by decide)
      rw [oGI_eq k4 t2, if_pos rfl, oGR_eq k4 r10, hld]
      have ht := hts _ t1
      dsimp only at ht
      by_cases d : ls.getD 256 0 = 0
      · rw [if_pos (e256.mpr d)]
        obtain ⟨s5, e5, z5, w5⟩ := m_359 (l1 := nI M) (l2 := nI Dn) (x := tailS pk tl M Dn pos out) ⟨_, _, t3⟩ (by rw [ht, if_neg (fun z => z.1 d)])
        exact ⟨s5, e5, (z3.trans z4).trans z5, w5⟩
      · rw [if_neg (fun z => d (e256.mp z)), ht]
        obtain ⟨s5, e5, z5, w5⟩ := m_364 t3 t4 t5 hM0 hM hD d
        exact ⟨s5, e5, (z3.trans z4).trans z5, w5⟩
  · have hleft : ¬ leftS tl 19 15 = 0 := fun z => q2 ⟨hb, Or.inl z⟩
    have e4 : bX12_told_140 (B 0) (nI M) (nI Dn) 0 (-1) s3 = some (.inr s3) := by
      unfold bX12_told_140
      by_cases q : nI M + nI Dn ≤ 0
      · rw [if_pos q]
      · rw [if_neg q, oGI_eq k3 q1, if_neg (by decide)]
    obtain ⟨s5, e5, z5, w5⟩ := m_359 (l1 := nI M) (l2 := nI Dn) (x := tailS pk tl M Dn pos out) ⟨_, _, h3⟩ (by unfold tailS; rw [if_neg hleft])
    refine ⟨s5, ?_, z3.trans z5, w5⟩
    unfold tTail
    rw [oA_eq k0, oB_eq e3', oB_eq (zloop_one (body := fun x => bX12_told_140 (B 0) (nI M) (nI Dn) x.1 x.2.1 x.2.2) (x := (0, -1, s3)) e4)]
    dsimp only
    rw [oGI_eq k3 q1, if_neg (by decide), e5]
theorem blk2_none (h : tellS pk pos = none) : blockS pk 2 pos out = none := by
  unfold blockS codesS
  rw [if_neg (by decide), if_neg (by decide), if_pos rfl, h]
theorem blk2_tail {v : Nat} (hv : takeS pk pos 14 = some (v, pos + 14)) (h1 : v % 32 + 257 ≤ 286) (h2 : v / 32 % 32 + 1 ≤ 30) (h3 : pos + 14 + 3 * (v / 1024 + 4) ≤ 8 * pk.length) : blockS pk 2 pos out = tailS pk (tlI pk (pos + 14) (v / 1024 + 4)) (v % 32 + 257) (v / 32 % 32 + 1) (pos + 14 + 3 * (v / 1024 + 4)) out := by
  have ht : tellS pk pos = if v % 32 + 257 ≤ 286 ∧ v / 32 % 32 + 1 ≤ 30 ∧ pos + 14 + 3 * (v / 1024 + 4) ≤ 8 * pk.length ∧ leftS (tlI pk (pos + 14) (v / 1024 + 4)) 19 15 = 0 then some (v % 32 + 257, v / 32 % 32 + 1, tlI pk (pos + 14) (v / 1024 + 4), pos + 14 + 3 * (v / 1024 + 4)) else none := by
    unfold tellS
    rw [hv]
  by_cases q : leftS (tlI pk (pos + 14) (v / 1024 + 4)) 19 15 = 0
  · rw [if_pos ⟨h1, h2, h3, q⟩] at ht
    unfold blockS codesS tailS
    rw [if_neg (by decide), if_neg (by decide), if_pos rfl, if_pos q, ht]
    dsimp only
    cases hl : lensS pk (tlI pk (pos + 14) (v / 1024 + 4)) (v % 32 + 257 + (v / 32 % 32 + 1)) (pos + 14 + 3 * (v / 1024 + 4)) with
    | none => rfl
    | some x =>
      obtain ⟨ls, p2⟩ := x
      dsimp only
      by_cases w : okS ls (v % 32 + 257) (v / 32 % 32 + 1)
      · rw [if_pos w, if_pos w]
      · rw [if_neg w, if_neg w]
  · rw [if_neg (fun z => q z.2.2.2)] at ht
    rw [blk2_none ht]
    unfold tailS
    rw [if_neg q]
/-- bits where 'bad' stands: it stays -/
theorem m_bitsB (h : zMQ σ B pk out pos) (hb : zi σ (B 0) 18 = 1) {m : Nat} (hm : m ≤ 16) : ∃ r s, fX12_bits σ (B 0) (nI m) = some (r, s) ∧ zfs B σ s ∧ zi s (B 0) 18 = 1 ∧ ∃ p, zMQ s B pk out p := by
  obtain ⟨r, s, e, m1, f1, w⟩ := m_bits h hm
  rcases w with ⟨-, -, w3, w4⟩ | ⟨v, -, -, -, w3, w4⟩
  · exact ⟨r, s, e, ⟨m1, f1⟩, w3, _, w4⟩
  · exact ⟨r, s, e, ⟨m1, f1⟩, w3.trans hb, _, w4⟩
theorem m_told (h : zMQ σ B pk out pos) (hb : zi σ (B 0) 18 = 0) : ∃ s, fX12_told σ (B 0) = some s ∧ zfr B σ s ∧ zMR s B pk (blockS pk 2 pos out) := by
  have k0 : zk σ (B 0) = 12 := h.1.2.1
  have h47 : ∀ s l1 l2 l3, zfr B σ s → (∃ o p, zMQ s B pk o p) → tellS pk pos = none → ∃ s', fX12_told_47 s (B 0) l1 l2 l3 (B 0) = some s' ∧ zfr B σ s' ∧ zMR s' B pk (blockS pk 2 pos out) := fun s l1 l2 l3 hz hq hn => by
    obtain ⟨o, p, hq⟩ := hq
    obtain ⟨s', e', z', b', q'⟩ := m_toldB (l1 := l1) (l2 := l2) (l3 := l3) hq
    exact ⟨s', e', hz.trans z', Or.inl ⟨blk2_none hn, b', q'⟩⟩
  obtain ⟨r1, s1, e1, m1, f1, w1⟩ := m_bits h (m := 5) (by decide)
  have e1' : fX12_bits σ (B 0) 5 = some (r1, s1) := e1
  have z1 : zfs B σ s1 := ⟨m1, f1⟩
  have k1 : zk s1 (B 0) = 12 := by rw [m1.k]; exact k0
  unfold fX12_told
  rw [oA_eq k0, oC_eq e1', oL_eq, oA_eq k1]
  rcases w1 with ⟨t1, t2, t3, t4⟩ | ⟨a, t1, t2, t3, t4, t5⟩
  · have hno := takeS_no t1
    obtain ⟨r2, s2, e2, z2, b2, p2, q2⟩ := m_bitsB t4 t3 (m := 5) (by decide)
    have e2' : fX12_bits s1 (B 0) 5 = some (r2, s2) := e2
    have k2 : zk s2 (B 0) = 12 := by rw [z2.1.k]; exact k1
    rw [oC_eq e2', oL_eq, oA_eq k2]
    obtain ⟨r3, s3, e3, z3, b3, p3, q3⟩ := m_bitsB q2 b2 (m := 4) (by decide)
    have e3' : fX12_bits s2 (B 0) 4 = some (r3, s3) := e3
    have k3 : zk s3 (B 0) = 12 := by rw [z3.1.k]; exact k2
    rw [oC_eq e3', oL_eq, oGI_eq k3 b3, if_neg (by decide)]
    exact h47 s3 _ _ _ ((z1.trans z2).trans z3).zfr ⟨_, _, q3⟩ (by unfold tellS takeS; rw [if_neg (by omega)])
  · subst t2
    obtain ⟨r2, s2, e2, m2, f2, w2⟩ := m_bits t5 (m := 5) (by decide)
    have e2' : fX12_bits s1 (B 0) 5 = some (r2, s2) := e2
    have z2 : zfs B σ s2 := z1.trans ⟨m2, f2⟩
    have k2 : zk s2 (B 0) = 12 := by rw [m2.k]; exact k1
    rw [oC_eq e2', oL_eq, oA_eq k2]
    rcases w2 with ⟨u1, u2, u3, u4⟩ | ⟨b, u1, u2, u3, u4, u5⟩
    · have hno := takeS_no u1
      obtain ⟨r3, s3, e3, z3, b3, p3, q3⟩ := m_bitsB u4 u3 (m := 4) (by decide)
      have e3' : fX12_bits s2 (B 0) 4 = some (r3, s3) := e3
      have k3 : zk s3 (B 0) = 12 := by rw [z3.1.k]; exact k2
      rw [oC_eq e3', oL_eq, oGI_eq k3 b3, if_neg (by decide)]
      exact h47 s3 _ _ _ (z2.trans z3).zfr ⟨_, _, q3⟩ (by unfold tellS takeS; rw [if_neg (by omega)])
    · subst u2
      obtain ⟨r3, s3, e3, m3, f3, w3⟩ := m_bits u5 (m := 4) (by decide)
      have e3' : fX12_bits s2 (B 0) 4 = some (r3, s3) := e3
      have z3 : zfs B σ s3 := z2.trans ⟨m3, f3⟩
      have k3 : zk s3 (B 0) = 12 := by rw [m3.k]; exact k2
      rw [oC_eq e3', oL_eq]
      rcases w3 with ⟨v1, v2, v3, v4⟩ | ⟨c, v1, v2, v3, v4, v5⟩
      · have hno := takeS_no v1
        rw [oGI_eq k3 v3, if_neg (by decide)]
        exact h47 s3 _ _ _ z3.zfr ⟨_, _, v4⟩ (by unfold tellS takeS; rw [if_neg (by omega)])
      · subst v2
        have hb3 : zi s3 (B 0) 18 = 0 := v4.trans (u4.trans (t4.trans hb))
        obtain ⟨x1, x2⟩ := takeS_at t1
        obtain ⟨x3, x4⟩ := takeS_at u1
        obtain ⟨x5, x6⟩ := takeS_at v1
        have hv : takeS pk pos 14 = some (a + (b + c * 32) * 32, pos + 14) := by
          unfold takeS
          rw [if_pos (by omega)]
          have e14 : numS (pb pk) pos 14 = numS (pb pk) pos 5 + numS (pb pk) (pos + 5) 9 * 2 ^ 5 := numS_add _ _ 5 9
          have e9 : numS (pb pk) (pos + 5) 9 = numS (pb pk) (pos + 5) 5 + numS (pb pk) (pos + 5 + 5) 4 * 2 ^ 5 := numS_add _ _ 5 4
          rw [e14, e9, ← x1, ← x3, ← x5]
        have ha : a < 32 := t3
        have hbb : b < 32 := u3
        have hcc : c < 16 := v3
        have g1 : (a + (b + c * 32) * 32) % 32 = a := by omega
        have g2 : (a + (b + c * 32) * 32) / 32 % 32 = b := by omega
        have g3 : (a + (b + c * 32) * 32) / 1024 = c := by omega
        have p5 : pos + 5 + 5 + 4 = pos + 14 := by omega
        rw [p5] at v5
        have y1 : nI a + 257 = nI (a + 257) := nI_add a 257
        have y2 : nI b + 1 = nI (b + 1) := nI_1 b
        have y3 : nI c + 4 = nI (c + 4) := nI_add c 4
        have c1 : (286 : Int32) < nI (a + 257) ↔ 286 < a + 257 := nI_ltI (a := 286) (by decide) (by omega)
        have c2 : nI (b + 1) ≤ 30 ↔ b + 1 ≤ 30 := nI_leI (b := 30) (by omega) (by decide)
        rw [oGI_eq k3 hb3, if_pos rfl, y1, y2, y3]
        have htn : ∀ (P : ¬ (a + 257 ≤ 286 ∧ b + 1 ≤ 30 ∧ pos + 14 + 3 * (c + 4) ≤ 8 * pk.length)), tellS pk pos = none := fun P => by
          unfold tellS
          rw [hv]
          dsimp only
          rw [g1, g2, g3, if_neg (fun z => P ⟨z.1, z.2.1, z.2.2.1⟩)]
        by_cases d1 : 286 < a + 257
        · rw [if_pos (c1.mpr d1)]
          exact h47 s3 _ _ _ z3.zfr ⟨_, _, v5⟩ (htn (by omega))
        · rw [if_neg (fun z => d1 (c1.mp z))]
          by_cases d2 : b + 1 ≤ 30
          · rw [if_pos (c2.mpr d2), told52, oPZ_eq k3 (Or.inl rfl)]
            have q4 := v5.bad (v := 0)
            have z4 : zfr B σ (zuI s3 (B 0) 18 0) := z3.bad.zfr
            have b4 : zi (zuI s3 (B 0) 18 0) (B 0) 18 = 0 := zi_bad
            generalize zuI s3 (B 0) 18 0 = s4 at q4 z4 b4
            obtain ⟨s5, e5, m5, f5⟩ := m_tzero (l1 := nI (a + 257)) (l2 := nI (b + 1)) (l3 := nI (c + 4)) q4.1
            rw [oB_eq e5]
            have z5 := z4.trans (zfr_len q4.1 m5)
            obtain ⟨s6, e6, z6, w6⟩ := m_tellers (m := c + 4) (l1 := nI (a + 257)) (l2 := nI (b + 1)) (q4.len m5) ((m5.i (h.1.ne 0 10) 18).trans b4) (by omega) f5
            rw [oB_eq e6]
            rcases w6 with ⟨o1, o2, o3, o4⟩ | ⟨o1, o2, ⟨o, p, o3⟩, len, o4⟩
            · obtain ⟨s7, e7, z7, w7⟩ := m_tail (M := a + 257) (Dn := b + 1) o3 o1 o4 (by omega) (by omega) d2
              refine ⟨s7, e7, (z5.trans z6).trans z7, ?_⟩
              rw [blk2_tail hv (by omega) (by omega) (by omega), g1, g2, g3]
              exact w7
            · obtain ⟨s7, e7, z7, b7, q7⟩ := m_tailB (l1 := nI (a + 257)) (l2 := nI (b + 1)) o3 o1 o4
              exact ⟨s7, e7, (z5.trans z6).trans z7, Or.inl ⟨blk2_none (htn (by omega)), b7, q7⟩⟩
          · rw [if_neg (fun z => d2 (c2.mp z))]
            exact h47 s3 _ _ _ z3.zfr ⟨_, _, v5⟩ (htn (by omega))
end PMTOLD2
