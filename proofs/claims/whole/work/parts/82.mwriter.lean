/-! the reference's writer -/
def MS (σ : zS) (B : Nat → Nat) (L : List Nat) : Prop := zML σ B ∧ OUm σ B L
def PMw : Nat → Prop := fun i => i = 0 ∨ i = 7
def FMw : Nat → Prop := fun j => j = 0 ∨ j = 12
theorem zset_app {L P M : List Nat} {i v : Nat} (hi : i < P.length) : (L ++ P ++ M).set (L.length + i) v = L ++ P.set i v ++ M := by
  rw [List.append_assoc, List.set_append_right _ _ (by omega), Nat.add_sub_cancel_left, List.set_append_left _ _ hi, List.append_assoc]
theorem zgetD_set {X : List Nat} {k v : Nat} (hk : k < X.length) (j : Nat) : (X.set k v).getD j 0 = if j = k then v else X.getD j 0 := by
  rw [List.getD_eq_getElem?_getD, List.getD_eq_getElem?_getD]
  by_cases q : j = k
  · subst q; rw [if_pos rfl, List.getElem?_set_self hk]; rfl
  · rw [if_neg q, List.getElem?_set_ne (fun z => q z.symm)]
def pt4 (l : Int32) (i : Nat) : List Nat := (zb4 l).take i ++ (zb4 0).drop i
theorem pt4_step (l : Int32) {i : Nat} (hi : i < 4) : (pt4 l i).set i (l.toBitVec.toNat / 2 ^ (8 * (3 - i)) % 256) = pt4 l (i + 1) := by
  rcases (show i = 0 ∨ i = 1 ∨ i = 2 ∨ i = 3 by omega) with q | q | q | q <;> subst q
  · rfl
  · rfl
  · rfl
  · show _ = [_, _, _, _]
    have : l.toBitVec.toNat / 2 ^ (8 * (3 - 3)) % 256 = l.toBitVec.toNat % 256 := by simp
    rw [this]
    rfl
theorem pt4_len (l : Int32) {i : Nat} (hi : i ≤ 4) : (pt4 l i).length = 4 := by
  unfold pt4
  rw [List.length_append, List.length_take, List.length_drop, zb4_len, zb4_len]
  omega
def ctl4 (r : Nat → Nat) : Nat → List Nat
  | 0 => []
  | k + 1 => ctl4 r k ++ zb4 (nI (r k))
section PMWR
variable {σ s : zS} {B : Nat → Nat} {L X : List Nat} {ab : Nat → Nat} {rg px : Nat → Nat → Nat}
theorem zML.r13 (h : zML σ B) : zk σ (B 0) = 12 ∧ zr σ (B 0) 13 = some (B 7) ∧ zk σ (B 7) = 20 ∧ zn σ (B 7) = 14000 := ⟨h.2.1, h.2.2.2.2.2.2.2.2.1, h.2.2.2.2.2.2.2.2.2.2.2.2.2.2.2.2.2.2.2.1.1, h.2.2.2.2.2.2.2.2.2.2.2.2.2.2.2.2.2.2.2.1.2⟩
theorem MS.k (h : MS σ B L) : zk σ (B 0) = 12 := h.1.2.1
theorem MS.set (h : MS σ B X) {k : Nat} (hk : k < X.length) (v : Int32) : MS (zuI σ (B 7) k (v.toInt8.toInt32.toInt8.toInt32)) B (X.set k (v.toBitVec.toNat % 256)) := by
  refine ⟨h.1.u, ?_, ?_, fun j hj => ?_⟩
  · rw [zi_uI, if_neg (fun z => absurd z.1 (h.1.ne 0 7)), List.length_set]; exact h.2.1
  · rw [List.length_set]; exact h.2.2.1
  · rw [List.length_set] at hj
    rw [zgetD_set hk]
    unfold zby
    rw [zi_uI]
    by_cases q : j = k
    · rw [if_pos ⟨rfl, q⟩, if_pos q, zb_narrow, zb_narrow]
    · rw [if_neg (fun z => q z.2), if_neg q]; exact h.2.2.2 j hj
theorem o_put (h : MS σ B L) (v : Int32) (hl : L.length < 14000) : ∃ s, fX12_put σ (B 0) v = some s ∧ zsB B PMw FMw σ s ∧ MS s B (L ++ [v.toBitVec.toNat % 256]) := by
  obtain ⟨k0, r13, k7, n7⟩ := h.1.r13
  refine ⟨zuI (zuI σ (B 7) L.length (v.toInt8.toInt32.toInt8.toInt32)) (B 0) 12 (nI (L.length + 1)), ?_, ((zsB.rf.uI h.1 (by decide) (Or.inr rfl) (by decide)).u0 (Or.inl rfl) (Or.inr rfl)), h.1.u.u, ?_, ?_, fun j hj => ?_⟩
  · unfold fX12_put
    rw [oGR_eq k0 r13, oGI_eq k0 h.2.1, oSt_eq k7 (by rw [n7]; exact hl) (by omega), oGI_eq (v := nI L.length) (by exact k0) (by rw [zi_uI, if_neg (fun z => absurd z.1 (h.1.ne 0 7))]; exact h.2.1), oPI_eq (by exact k0), nI_1]
  · rw [zi_uI, if_pos ⟨rfl, rfl⟩, List.length_append]; rfl
  · rw [List.length_append]; show _ + 1 ≤ _; omega
  · rw [List.length_append, List.length_singleton] at hj
    unfold zby
    rw [zi_uI, if_neg (fun z => absurd z.1 (h.1.ne 7 0)), zi_uI]
    by_cases e : j = L.length
    · subst e; rw [if_pos ⟨rfl, rfl⟩, zgetD_end, zb_narrow, zb_narrow]
    · rw [if_neg (fun z => e z.2), zgetD_app (by omega)]
      exact h.2.2.2 j (by omega)
theorem o_num (h : MS σ B L) (v : Int32) (hl : L.length + 4 ≤ 14000) : ∃ s, fX12_putNumber σ (B 0) v = some s ∧ zsB B PMw FMw σ s ∧ MS s B (L ++ zb4 v) := by
  obtain ⟨s1, e1, z1, w1⟩ := o_put h (v >>> ((24 : Int32) &&& 31)) (by omega)
  obtain ⟨s2, e2, z2, w2⟩ := o_put w1 (v >>> ((16 : Int32) &&& 31)) (by simp only [List.length_append, List.length_cons, List.length_nil]; omega)
  obtain ⟨s3, e3, z3, w3⟩ := o_put w2 (v >>> ((8 : Int32) &&& 31)) (by simp only [List.length_append, List.length_cons, List.length_nil]; omega)
  obtain ⟨s4, e4, z4, w4⟩ := o_put w3 v (by simp only [List.length_append, List.length_cons, List.length_nil]; omega)
  have q1 : (v >>> ((24 : Int32) &&& 31)).toBitVec.toNat % 256 = v.toBitVec.toNat / 16777216 % 256 := zshrB v (k := 3) (by decide)
  have q2 : (v >>> ((16 : Int32) &&& 31)).toBitVec.toNat % 256 = v.toBitVec.toNat / 65536 % 256 := zshrB v (k := 2) (by decide)
  have q3 : (v >>> ((8 : Int32) &&& 31)).toBitVec.toNat % 256 = v.toBitVec.toNat / 256 % 256 := zshrB v (k := 1) (by decide)
  rw [q1, q2, q3] at w4
  refine ⟨s4, ?_, ((z1.trans z2).trans z3).trans z4, ?_⟩
  · unfold fX12_putNumber
    rw [oA_eq h.k, oB_eq e1, oA_eq w1.k, oB_eq e2, oA_eq w2.k, oB_eq e3, oA_eq w3.k, oB_eq e4]
  · have : L ++ zb4 v = L ++ [v.toBitVec.toNat / 16777216 % 256] ++ [v.toBitVec.toNat / 65536 % 256] ++ [v.toBitVec.toNat / 256 % 256] ++ [v.toBitVec.toNat % 256] := by
      simp only [List.append_assoc]; rfl
    rw [this]
    exact w4
theorem o_begin (h : MS σ B L) {ty a b c d : Int32} (ht : [a.toBitVec.toNat % 256] ++ ([b.toBitVec.toNat % 256] ++ ([c.toBitVec.toNat % 256] ++ [d.toBitVec.toNat % 256])) = zb4 ty) (hl : L.length + 8 ≤ 14000) : ∃ s, fX12_beginChunk σ (B 0) a b c d = some (nI L.length, s) ∧ zsB B PMw FMw σ s ∧ MS s B (L ++ zb4 0 ++ zb4 ty) := by
  obtain ⟨s1, e1, z1, w1⟩ := o_num h 0 (by omega)
  obtain ⟨s2, e2, z2, w2⟩ := o_put w1 a (by simp only [List.length_append, zb4_len]; omega)
  obtain ⟨s3, e3, z3, w3⟩ := o_put w2 b (by simp only [List.length_append, zb4_len, List.length_cons, List.length_nil]; omega)
  obtain ⟨s4, e4, z4, w4⟩ := o_put w3 c (by simp only [List.length_append, zb4_len, List.length_cons, List.length_nil]; omega)
  obtain ⟨s5, e5, z5, w5⟩ := o_put w4 d (by simp only [List.length_append, zb4_len, List.length_cons, List.length_nil]; omega)
  refine ⟨s5, ?_, (((z1.trans z2).trans z3).trans z4).trans z5, ?_⟩
  · unfold fX12_beginChunk
    rw [oGI_eq h.k h.2.1, oA_eq h.k, oB_eq e1, oA_eq w1.k, oB_eq e2, oA_eq w2.k, oB_eq e3, oA_eq w3.k, oB_eq e4, oA_eq w4.k, oB_eq e5]
  · have : L ++ zb4 0 ++ zb4 ty = L ++ zb4 0 ++ [a.toBitVec.toNat % 256] ++ [b.toBitVec.toNat % 256] ++ [c.toBitVec.toNat % 256] ++ [d.toBitVec.toNat % 256] := by
      rw [← ht]
      simp only [List.append_assoc]
    rw [this]
    exact w5
theorem o_end {ty : Int32} {body : List Nat} (h : MS σ B X) (hX : X = L ++ zb4 0 ++ zb4 ty ++ body) (hl : L.length + body.length + 12 ≤ 14000) : ∃ s, fX12_endChunk σ (B 0) (nI L.length) = some s ∧ zsB B PMw FMw σ s ∧ MS s B (L ++ chkS ty body) := by
  obtain ⟨k0, r13, k7, n7⟩ := h.1.r13
  have hX2 : X = L ++ zb4 0 ++ (zb4 ty ++ body) := by rw [hX, List.append_assoc (L ++ zb4 0)]
  have hM : (zb4 ty ++ body).length = body.length + 4 := by rw [List.length_append, zb4_len]; omega
  have hXl : X.length = L.length + 4 + (zb4 ty ++ body).length := by rw [hX2, List.length_append, List.length_append, zb4_len]
  have ev : nI X.length - nI L.length - 8 = nI body.length := by
    have a1 : nI X.length - nI L.length = nI (X.length - L.length) := pk_sub (by omega)
    have a2 : nI (X.length - L.length) - 8 = nI (X.length - L.length - 8) := pk_sub (b := 8) (by omega)
    rw [a1, a2]
    congr 1
    omega
  obtain ⟨s1, e1, z1, w1⟩ := zloop_cnt (body := fun x => bX12_endChunk_12 (B 0) (nI L.length) (nI body.length) x.1 x.2) (fun i x => x.1 = nI i ∧ zsB B PMw FMw σ x.2 ∧ MS x.2 B (L ++ pt4 (nI body.length) i ++ (zb4 ty ++ body))) 4 (fun s => zsB B PMw FMw σ s ∧ MS s B (L ++ zb4 (nI body.length) ++ (zb4 ty ++ body)))
    (fun i x hi hx => by
      obtain ⟨k, t⟩ := x
      obtain ⟨x1, x2, x3⟩ := hx
      dsimp only at x1 x2 x3
      subst x1
      have hp4 := pt4_len (nI body.length) (i := i) (by omega)
      have hlt : (L ++ pt4 (nI body.length) i ++ (zb4 ty ++ body)).length = L.length + 4 + (body.length + 4) := by rw [List.length_append, List.length_append, hp4, hM]
      have e8 : (24 : Int32) - (8 : Int32) * nI i = nI (8 * (3 - i)) := by
        have a1 : (8 : Int32) * nI i = nI (8 * i) := pk_mul 8 i
        have a2 : (24 : Int32) - nI (8 * i) = nI (24 - 8 * i) := pk_sub (a := 24) (by omega)
        rw [a1, a2]
        congr 1
        omega
      have w' := x3.set (k := L.length + i) (by omega) (nI body.length >>> (nI (8 * (3 - i)) &&& 31))
      rw [zshrB (nI body.length) (k := 3 - i) (by omega), zset_app (by omega), pt4_step _ hi] at w'
      obtain ⟨k0', r13', k7', n7'⟩ := x3.1.r13
      refine Or.inl ⟨(nI (i + 1), zuI t (B 7) (L.length + i) ((nI body.length >>> (nI (8 * (3 - i)) &&& 31)).toInt8.toInt32.toInt8.toInt32)), ?_, rfl, x2.uI h.1 (by decide) (Or.inr rfl) (by decide), w'⟩
      show bX12_endChunk_12 (B 0) (nI L.length) (nI body.length) (nI i) t = _
      unfold bX12_endChunk_12
      have c1 : ¬ (4 : Int32) ≤ nI i := fun z => by
        have := (nI_leI (a := 4) (b := i) (by decide) (by omega)).mp z
        omega
      rw [if_neg c1, oGR_eq k0' r13', nI_add, e8, oSt_eq k7' (by rw [n7']; omega) (by omega), oL_eq, nI_1])
    (fun x hx => by
      obtain ⟨k, t⟩ := x
      obtain ⟨x1, x2, x3⟩ := hx
      dsimp only at x1 x2 x3
      subst x1
      refine ⟨t, ?_, x2, x3⟩
      show bX12_endChunk_12 (B 0) (nI L.length) (nI body.length) (nI 4) t = _
      unfold bX12_endChunk_12
      rw [if_pos (by decide)]) zF (0, σ) ⟨rfl, zsB.rf, by rw [← show zb4 0 = pt4 (nI body.length) 0 from rfl, ← hX2]; exact h⟩ (by unfold zF; decide)
  have hY4 : (L ++ zb4 (nI body.length)).length = L.length + 4 := by rw [List.length_append, zb4_len]
  have hYl : (L ++ zb4 (nI body.length) ++ (zb4 ty ++ body)).length = L.length + 4 + (zb4 ty ++ body).length := by rw [List.length_append, hY4]
  obtain ⟨k0', r13', k7', n7'⟩ := w1.1.r13
  have w12 := w1.2.1
  rw [hYl] at w12
  have ecr : zloop zF (fun x => bX12_endChunk_48 s1 (B 0) x.1 x.2) ((-1 : Int32), nI (L.length + 4)) = some (crL (zb4 ty ++ body)) := by
    refine zloop_seq (fun i => (crX (fun j => (zb4 ty ++ body).getD j 0) i, nI (L.length + 4 + i))) (zb4 ty ++ body).length (fun i hi => ?_) ?_ zF (by unfold zF; omega)
    · show bX12_endChunk_48 s1 (B 0) (crX (fun j => (zb4 ty ++ body).getD j 0) i) (nI (L.length + 4 + i)) = _
      have c1 : ¬ nI (L.length + 4 + (zb4 ty ++ body).length) ≤ nI (L.length + 4 + i) := by rw [nI_leI (by omega) (by omega)]; omega
      have hb : zby s1 (B 7) (L.length + 4 + i) = (zb4 ty ++ body).getD i 0 := by
        rw [w1.2.2.2 _ (by omega), ← hY4]
        exact zgetD_r i
      unfold bX12_endChunk_48
      rw [oGI_eq k0' w12, if_neg c1, oGR_eq k0' r13', oLd_eq k7' (by rw [n7']; omega) (by omega) rfl, zby_and, hb, oB_eq (m_nextSum _ _), oL_eq, nI_1]
      rfl
    · show bX12_endChunk_48 s1 (B 0) (crX (fun j => (zb4 ty ++ body).getD j 0) (zb4 ty ++ body).length) (nI (L.length + 4 + (zb4 ty ++ body).length)) = _
      unfold bX12_endChunk_48
      rw [oGI_eq k0' w12, if_pos (by rw [zle]; exact Int.le_refl _)]
      rfl
  obtain ⟨s2, e2, z2, w2⟩ := o_num w1 (crL (zb4 ty ++ body) ^^^ (-1)) (by omega)
  refine ⟨s2, ?_, z1.trans z2, ?_⟩
  · unfold fX12_endChunk
    have e4 : nI L.length + 4 = nI (L.length + 4) := nI_add _ 4
    rw [oGI_eq h.k h.2.1, oL_eq, ev, oB_eq e1]
    dsimp only
    rw [oL_eq, e4, oB_eq ecr]
    rw [oA_eq w1.k]
    exact oB_eq e2
  · have : L ++ chkS ty body = L ++ zb4 (nI body.length) ++ (zb4 ty ++ body) ++ zb4 (crL (zb4 ty ++ body) ^^^ (-1)) := by
      unfold chkS
      simp only [List.append_assoc]
    rw [this]
    exact w2
theorem PMw.no {j : Nat} (h0 : j ≠ 0) (h7 : j ≠ 7) : ¬ PMw j := fun z => z.elim h0 h7
theorem MR.pmw (hR : MR σ B ab rg px) (h : zML σ B) (hs : zsB B PMw FMw σ s) : MR s B ab rg px := hR.of (fun k => hs.i h (by decide) (PMw.no (by decide) (by decide)) k) (fun k => hs.i h (by decide) (PMw.no (by decide) (by decide)) k) (fun k => hs.i h (by decide) (PMw.no (by decide) (by decide)) k)
theorem o_ctl {f n : Nat} (h : MS σ B L) (hR : MR σ B ab rg px) (hf : f < ab 4) (hf8 : f < 8) (hl : L.length + 38 ≤ 14000) : ∃ s, fX12_putControl σ (B 0) (nI f) (nI n) = some s ∧ zsB B PMw FMw σ s ∧ MS s B (L ++ chkS 1717785676 (ctlB n (rg f))) := by
  obtain ⟨s1, e1, z1, w1⟩ := o_begin h (ty := 1717785676) (a := 102) (b := 99) (c := 84) (d := 76) (by decide) (by omega)
  obtain ⟨s2, e2, z2, w2⟩ := o_num w1 (nI n) (by simp only [List.length_append, zb4_len]; omega)
  have y2 := z1.trans z2
  have c4 : ∀ i, (ctl4 (rg f) i).length = 4 * i := fun i => by
    induction i with
    | zero => rfl
    | succ i ih => rw [ctl4, List.length_append, ih, zb4_len]; omega
  obtain ⟨s3, e3, z3, w3⟩ := zloop_cnt (body := fun x => bX12_putControl_21 (B 0) (nI f) (nI L.length) x.1 x.2) (fun i x => x.1 = nI i ∧ zsB B PMw FMw σ x.2 ∧ MS x.2 B (L ++ zb4 0 ++ zb4 1717785676 ++ zb4 (nI n) ++ ctl4 (rg f) i)) 4 (fun s => zsB B PMw FMw σ s ∧ MS s B (L ++ zb4 0 ++ zb4 1717785676 ++ zb4 (nI n) ++ ctl4 (rg f) 4))
    (fun i x hi hx => by
      obtain ⟨k, t⟩ := x
      obtain ⟨x1, x2, x3⟩ := hx
      dsimp only at x1 x2 x3
      subst x1
      obtain ⟨s', e', z', w'⟩ := o_num x3 (nI (rg f i)) (by simp only [List.length_append, zb4_len, c4]; omega)
      refine Or.inl ⟨(nI (i + 1), s'), ?_, rfl, x2.trans z', by rw [ctl4, ← List.append_assoc]; exact w'⟩
      show bX12_putControl_21 (B 0) (nI f) (nI L.length) (nI i) t = _
      unfold bX12_putControl_21
      have c1 : ¬ (4 : Int32) ≤ nI i := fun z => by
        have := (nI_leI (a := 4) (b := i) (by decide) (by omega)).mp z
        omega
      rw [if_neg c1, oA_eq x3.k, oB_eq (m_reg0 x3.1 (hR.pmw h.1 x2) hf hf8 (by omega)), oA_eq x3.k, oB_eq e', oL_eq, nI_1])
    (fun x hx => by
      obtain ⟨k, t⟩ := x
      obtain ⟨x1, x2, x3⟩ := hx
      dsimp only at x1 x2 x3
      subst x1
      refine ⟨t, ?_, x2, x3⟩
      show bX12_putControl_21 (B 0) (nI f) (nI L.length) (nI 4) t = _
      unfold bX12_putControl_21
      rw [if_pos (by decide)]) zF (0, s2) ⟨rfl, y2, by rw [ctl4, List.append_nil]; exact w2⟩ (by unfold zF; decide)
  obtain ⟨s4, e4, z4, w4⟩ := o_put w3 0 (by simp only [List.length_append, zb4_len, c4]; omega)
  obtain ⟨s5, e5, z5, w5⟩ := o_put w4 1 (by simp only [List.length_append, zb4_len, c4, List.length_cons, List.length_nil]; omega)
  obtain ⟨s6, e6, z6, w6⟩ := o_put w5 0 (by simp only [List.length_append, zb4_len, c4, List.length_cons, List.length_nil]; omega)
  obtain ⟨s7, e7, z7, w7⟩ := o_put w6 10 (by simp only [List.length_append, zb4_len, c4, List.length_cons, List.length_nil]; omega)
  have y7 := (((z3.trans z4).trans z5).trans z6).trans z7
  obtain ⟨s8, e8, z8, w8⟩ := o_put w7 (nI (rg f 4)) (by simp only [List.length_append, zb4_len, c4, List.length_cons, List.length_nil]; omega)
  have y8 := y7.trans z8
  obtain ⟨s9, e9, z9, w9⟩ := o_put w8 (nI (rg f 5)) (by simp only [List.length_append, zb4_len, c4, List.length_cons, List.length_nil]; omega)
  obtain ⟨s10, e10, z10, w10⟩ := o_end (L := L) (ty := 1717785676) (body := ctlB n (rg f)) w9 (by
    unfold ctlB
    simp only [ctl4, List.append_assoc, List.nil_append]
    rfl) (by rw [ctlB_len]; omega)
  have g4 : fX12_region s7 (B 0) 0 (nI f) 4 = some (nI (rg f 4)) := m_reg0 w7.1 (hR.pmw h.1 y7) hf hf8 (k := 4) (by decide)
  have g5 : fX12_region s8 (B 0) 0 (nI f) 5 = some (nI (rg f 5)) := m_reg0 w8.1 (hR.pmw h.1 y8) hf hf8 (k := 5) (by decide)
  refine ⟨s10, ?_, (y8.trans z9).trans z10, w10⟩
  unfold fX12_putControl
  rw [oA_eq h.k, oC_eq e1, oA_eq w1.k, oB_eq e2, oB_eq e3]
  dsimp only
  rw [oA_eq w3.k, oB_eq e4, oA_eq w4.k, oB_eq e5, oA_eq w5.k, oB_eq e6, oA_eq w6.k, oB_eq e7, oA_eq w7.k, oB_eq g4, oA_eq w7.k, oB_eq e8, oA_eq w8.k, oB_eq g5, oA_eq w8.k, oB_eq e9, oA_eq w9.k]
  exact oB_eq e10
/-- a picture of the reference, as the writer sees it -/
def PYs (σ : zS) (B : Nat → Nat) (g w h : Nat) (pf : Nat → Nat) : Prop := ∀ i, i < w * h → zi σ (B 4) (256 * g + i) = nI (pf i)
theorem PYs.of {g w hh : Nat} {pf : Nat → Nat} (hp : PYs σ B g w hh pf) (h : zML σ B) (hs : zsB B PMw FMw σ s) : PYs s B g w hh pf := fun i hi => by
  rw [hs.i h (by decide) (PMw.no (by decide) (by decide))]; exact hp i hi
theorem o_row {g w hh y : Nat} {pf : Nat → Nat} (h : MS σ B L) (hp : PYs σ B g w hh pf) (hg : g ≤ 8) (hw : w ≤ 16) (hh16 : hh ≤ 16) (hy : y < hh) (l5 : Int32) (hl : L.length + 4 * w ≤ 14000) {L0 : List Nat} (hL : L = L0 ++ [0]) : ∃ s, zloop zF (fun x => bX12_putPicture_82 (B 0) (nI g) (nI w) (nI hh) l5 (nI y) x.1 x.2) (0, σ) = some s ∧ zsB B PMw FMw σ s ∧ MS s B (L0 ++ rowP w pf y w) := by
  refine zloop_cnt (body := fun x => bX12_putPicture_82 (B 0) (nI g) (nI w) (nI hh) l5 (nI y) x.1 x.2) (fun i x => x.1 = nI i ∧ zsB B PMw FMw σ x.2 ∧ MS x.2 B (L0 ++ rowP w pf y i)) w (fun s => zsB B PMw FMw σ s ∧ MS s B (L0 ++ rowP w pf y w)) (fun i x hi hx => ?_) (fun x hx => ?_) zF (0, σ) ⟨rfl, zsB.rf, by rw [← show L0 ++ [0] = L0 ++ rowP w pf y 0 from rfl, ← hL]; exact h⟩ (by unfold zF; omega)
  · obtain ⟨k, t⟩ := x
    obtain ⟨x1, x2, x3⟩ := hx
    dsimp only at x1 x2 x3
    subst x1
    have hpt := hp.of h.1 x2
    have hlt : w * y + i < w * hh := by
      have : w * y + w ≤ w * hh := by rw [← Nat.mul_succ]; exact Nat.mul_le_mul_left _ hy
      omega
    have h256 : w * hh ≤ 16 * 16 := Nat.mul_le_mul hw hh16
    have hL0 : L.length = L0.length + 1 := by rw [hL, List.length_append]; rfl
    obtain ⟨k0, r6, k4, n4⟩ := x3.1.r6
    obtain ⟨s', e', z', w'⟩ := o_num x3 (nI (pf (w * y + i))) (by rw [List.length_append, rowP_len]; omega)
    refine Or.inl ⟨(nI (i + 1), s'), ?_, rfl, x2.trans z', ?_⟩
    · show bX12_putPicture_82 (B 0) (nI g) (nI w) (nI hh) l5 (nI y) (nI i) t = _
      unfold bX12_putPicture_82
      have c1 : ¬ nI w ≤ nI i := by rw [nI_leI (by omega) (by omega)]; omega
      have eg : (256 : Int32) * nI g = nI (256 * g) := pk_mul 256 g
      have ei : ((256 : Int32) * nI g + nI w * nI y) + nI i = nI (256 * g + (w * y + i)) := by rw [eg, pk_mul, nI_add, nI_add, Nat.add_assoc]
      rw [if_neg c1, oGR_eq k0 r6, ei, oLd_eq k4 (by rw [n4]; omega) (by omega) (hpt _ hlt), oA_eq x3.k, oB_eq e', oL_eq, nI_1]
    · rw [rowP, ← List.append_assoc]; exact w'
  · obtain ⟨k, t⟩ := x
    obtain ⟨x1, x2, x3⟩ := hx
    dsimp only at x1 x2 x3
    subst x1
    refine ⟨t, ?_, x2, x3⟩
    show bX12_putPicture_82 (B 0) (nI g) (nI w) (nI hh) l5 (nI y) (nI w) t = _
    unfold bX12_putPicture_82
    rw [if_pos (by rw [zle]; exact Int.le_refl _)]
theorem o_rows {g w hh : Nat} {pf : Nat → Nat} (h : MS σ B L) (hp : PYs σ B g w hh pf) (hg : g ≤ 8) (hw : w ≤ 16) (hh16 : hh ≤ 16) (l5 : Int32) (hl : L.length + hh * (1 + 4 * w) ≤ 14000) : ∃ s, zloop zF (fun x => bX12_putPicture_68 (B 0) (nI g) (nI w) (nI hh) l5 x.1 x.2) (0, σ) = some s ∧ zsB B PMw FMw σ s ∧ MS s B (L ++ rawP w pf hh) := by
  refine zloop_cnt (body := fun x => bX12_putPicture_68 (B 0) (nI g) (nI w) (nI hh) l5 x.1 x.2) (fun i x => x.1 = nI i ∧ zsB B PMw FMw σ x.2 ∧ MS x.2 B (L ++ rawP w pf i)) hh (fun s => zsB B PMw FMw σ s ∧ MS s B (L ++ rawP w pf hh)) (fun i x hi hx => ?_) (fun x hx => ?_) zF (0, σ) ⟨rfl, zsB.rf, by rw [rawP, List.append_nil]; exact h⟩ (by unfold zF; omega)
  · obtain ⟨k, t⟩ := x
    obtain ⟨x1, x2, x3⟩ := hx
    dsimp only at x1 x2 x3
    subst x1
    have hpt := hp.of h.1 x2
    have hle : (i + 1) * (1 + 4 * w) ≤ hh * (1 + 4 * w) := Nat.mul_le_mul_right _ hi
    rw [Nat.add_mul i 1, Nat.one_mul] at hle
    obtain ⟨s1, e1, z1, w1⟩ := o_put x3 0 (by rw [List.length_append, rawP_len]; omega)
    obtain ⟨s2, e2, z2, w2⟩ := o_row w1 (hpt.of x3.1 z1) hg hw hh16 hi l5 (by rw [List.length_append, List.length_append, rawP_len]; show _ + _ + 1 + _ ≤ _; omega) rfl
    refine Or.inl ⟨(nI (i + 1), s2), ?_, rfl, (x2.trans z1).trans z2, ?_⟩
    · show bX12_putPicture_68 (B 0) (nI g) (nI w) (nI hh) l5 (nI i) t = _
      unfold bX12_putPicture_68
      have c1 : ¬ nI hh ≤ nI i := by rw [nI_leI (by omega) (by omega)]; omega
      rw [if_neg c1, oA_eq x3.k, oB_eq e1, oB_eq e2]
      dsimp only
      rw [oL_eq, nI_1]
    · rw [rawP, ← List.append_assoc]; exact w2
  · obtain ⟨k, t⟩ := x
    obtain ⟨x1, x2, x3⟩ := hx
    dsimp only at x1 x2 x3
    subst x1
    refine ⟨t, ?_, x2, x3⟩
    show bX12_putPicture_68 (B 0) (nI g) (nI w) (nI hh) l5 (nI hh) t = _
    unfold bX12_putPicture_68
    rw [if_pos (by rw [zle]; exact Int.le_refl _)]
theorem o_adl {M : List Nat} (h : MS σ B (L ++ M)) : zloop zF (fun x => bX12_putPicture_132 σ (B 0) x.1 x.2.1 x.2.2) (1, 0, nI L.length) = some (nI (adlF (fun k => M.getD k 0) M.length).1, nI (adlF (fun k => M.getD k 0) M.length).2) := by
  obtain ⟨k0, r13, k7, n7⟩ := h.1.r13
  have hl : (L ++ M).length = L.length + M.length := List.length_append
  have h12 := h.2.1
  have h14 := h.2.2.1
  rw [hl] at h12 h14
  refine zloop_seq (fun i => (nI (adlF (fun k => M.getD k 0) i).1, nI (adlF (fun k => M.getD k 0) i).2, nI (L.length + i))) M.length (fun i hi => ?_) ?_ zF (by unfold zF; omega)
  · show bX12_putPicture_132 σ (B 0) (nI (adlF (fun k => M.getD k 0) i).1) (nI (adlF (fun k => M.getD k 0) i).2) (nI (L.length + i)) = _
    have c1 : ¬ nI (L.length + M.length) ≤ nI (L.length + i) := by rw [nI_leI (by omega) (by omega)]; omega
    have hb : zby σ (B 7) (L.length + i) = M.getD i 0 := by
      rw [h.2.2.2 _ (by omega)]
      exact zgetD_r i
    have hlt : M.getD i 0 < 256 := by rw [← hb]; exact zby_lt _ _ _
    obtain ⟨q1, q2⟩ := adlF_lt (fun k => M.getD k 0) i
    have q3 : ((adlF (fun k => M.getD k 0) i).1 + M.getD i 0) % 65521 < 65521 := Nat.mod_lt _ (by decide)
    unfold bX12_putPicture_132
    rw [oGI_eq k0 h12, if_neg c1, oGR_eq k0 r13, oLd_eq k7 (by rw [n7]; omega) (by omega) rfl, zby_and, hb, oL_eq, oL_eq, oL_eq, nI_add, zrem (by omega), nI_add, zrem (by omega), nI_1]
    rfl
  · show bX12_putPicture_132 σ (B 0) (nI (adlF (fun k => M.getD k 0) M.length).1) (nI (adlF (fun k => M.getD k 0) M.length).2) (nI (L.length + M.length)) = _
    unfold bX12_putPicture_132
    rw [oGI_eq k0 h12, if_pos (by rw [zle]; exact Int.le_refl _)]
theorem o_pic {g w hh : Nat} {pf : Nat → Nat} (h : MS σ B L) (hp : PYs σ B g w hh pf) (hg : g ≤ 8) (hw : w ≤ 16) (hh16 : hh ≤ 16) (hl : L.length + 11 + hh * (1 + 4 * w) ≤ 14000) : ∃ s, fX12_putPicture σ (B 0) (nI g) (nI w) (nI hh) = some s ∧ zsB B PMw FMw σ s ∧ MS s B (L ++ packP w hh pf) := by
  have ev : nI hh * ((1 : Int32) + (4 : Int32) * nI w) = nI (hh * (1 + 4 * w)) := by
    have e4 : (4 : Int32) * nI w = nI (4 * w) := pk_mul 4 w
    have e1 : (1 : Int32) + nI (4 * w) = nI (1 + 4 * w) := nI_add 1 _
    rw [e4, e1, pk_mul]
  unfold fX12_putPicture
  rw [oL_eq, ev]
  generalize hv : nI (hh * (1 + 4 * w)) = v
  have q1 : (v >>> ((8 : Int32) &&& 31)).toBitVec.toNat % 256 = v.toBitVec.toNat / 2 ^ (8 * 1) % 256 := zshrB v (k := 1) (by decide)
  have q2 : ((v ^^^ (-1)) >>> ((8 : Int32) &&& 31)).toBitVec.toNat % 256 = (v ^^^ (-1)).toBitVec.toNat / 2 ^ (8 * 1) % 256 := zshrB (v ^^^ (-1)) (k := 1) (by decide)
  obtain ⟨s1, e1, z1, w1⟩ := o_put h 120 (by omega)
  obtain ⟨s2, e2, z2, w2⟩ := o_put w1 1 (by simp only [List.length_append, List.length_cons, List.length_nil]; omega)
  obtain ⟨s3, e3, z3, w3⟩ := o_put w2 1 (by simp only [List.length_append, List.length_cons, List.length_nil]; omega)
  obtain ⟨s4, e4, z4, w4⟩ := o_put w3 v (by simp only [List.length_append, List.length_cons, List.length_nil]; omega)
  obtain ⟨s5, e5, z5, w5⟩ := o_put w4 (v >>> ((8 : Int32) &&& 31)) (by simp only [List.length_append, List.length_cons, List.length_nil]; omega)
  obtain ⟨s6, e6, z6, w6⟩ := o_put w5 (v ^^^ (-1)) (by simp only [List.length_append, List.length_cons, List.length_nil]; omega)
  obtain ⟨s7, e7, z7, w7⟩ := o_put w6 ((v ^^^ (-1)) >>> ((8 : Int32) &&& 31)) (by simp only [List.length_append, List.length_cons, List.length_nil]; omega)
  have y7 := (((((z1.trans z2).trans z3).trans z4).trans z5).trans z6).trans z7
  rw [q1, q2] at w7
  have w7' : MS s7 B (L ++ hdP v) := by
    have : L ++ hdP v = L ++ [(120 : Int32).toBitVec.toNat % 256] ++ [(1 : Int32).toBitVec.toNat % 256] ++ [(1 : Int32).toBitVec.toNat % 256] ++ [v.toBitVec.toNat % 256] ++ [v.toBitVec.toNat / 2 ^ (8 * 1) % 256] ++ [(v ^^^ (-1)).toBitVec.toNat % 256] ++ [(v ^^^ (-1)).toBitVec.toNat / 2 ^ (8 * 1) % 256] := by
      unfold hdP
      simp only [List.append_assoc]
      rfl
    rw [this]
    exact w7
  have hlh : (L ++ hdP v).length = L.length + 7 := by rw [List.length_append]; rfl
  obtain ⟨s8, e8, z8, w8⟩ := o_rows w7' (hp.of h.1 y7) hg hw hh16 (nI (L ++ hdP v).length) (by omega)
  have hadl := o_adl w8
  obtain ⟨a1, a2⟩ := adlF_lt (fun k => (rawP w pf hh).getD k 0) (rawP w pf hh).length
  obtain ⟨s9, e9, z9, w9⟩ := o_num w8 (nI (adlL (rawP w pf hh))) (by rw [List.length_append, hlh, rawP_len]; omega)
  refine ⟨s9, ?_, (y7.trans z8).trans z9, ?_⟩
  · rw [oA_eq h.k, oB_eq e1, oA_eq w1.k, oB_eq e2, oA_eq w2.k, oB_eq e3, oA_eq w3.k, oB_eq e4, oA_eq w4.k, oB_eq e5, oA_eq w5.k, oB_eq e6, oA_eq w6.k, oB_eq e7, oGI_eq w7'.k w7'.2.1, oB_eq e8]
    dsimp only
    rw [oB_eq hadl]
    dsimp only
    rw [zsum16 (by omega) (by omega), oA_eq w8.k]
    exact oB_eq e9
  · have : L ++ packP w hh pf = L ++ hdP v ++ rawP w pf hh ++ zb4 (nI (adlL (rawP w pf hh))) := by
      unfold packP
      rw [hv]
      simp only [List.append_assoc]
    rw [this]
    exact w9
end PMWR
