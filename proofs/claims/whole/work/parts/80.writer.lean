/-! the file that is written: its bytes; the class's writer -/
def crL (l : List Nat) : Int32 := crX (fun j => l.getD j 0) l.length
def chkS (ty : Int32) (body : List Nat) : List Nat := zb4 (nI body.length) ++ zb4 ty ++ body ++ zb4 (crL (zb4 ty ++ body) ^^^ (-1))
def rowP (w : Nat) (pf : Nat → Nat) (y : Nat) : Nat → List Nat
  | 0 => [0]
  | x + 1 => rowP w pf y x ++ zb4 (nI (pf (w * y + x)))
def rawP (w : Nat) (pf : Nat → Nat) : Nat → List Nat
  | 0 => []
  | y + 1 => rawP w pf y ++ rowP w pf y w
theorem zb4_len (v : Int32) : (zb4 v).length = 4 := rfl
theorem rowP_len (w : Nat) (pf : Nat → Nat) (y : Nat) : ∀ x, (rowP w pf y x).length = 1 + 4 * x
  | 0 => rfl
  | x + 1 => by rw [rowP, List.length_append, rowP_len w pf y x, zb4_len]; omega
theorem rawP_len (w : Nat) (pf : Nat → Nat) : ∀ y, (rawP w pf y).length = y * (1 + 4 * w)
  | 0 => by rw [rawP, Nat.zero_mul]; rfl
  | y + 1 => by rw [rawP, List.length_append, rawP_len w pf y, rowP_len, Nat.add_mul y 1, Nat.one_mul]
def hdP (v : Int32) : List Nat := [120] ++ [1] ++ [1] ++ [v.toBitVec.toNat % 256] ++ [v.toBitVec.toNat / 2 ^ (8 * 1) % 256] ++ [(v ^^^ (-1)).toBitVec.toNat % 256] ++ [(v ^^^ (-1)).toBitVec.toNat / 2 ^ (8 * 1) % 256]
def adlL (l : List Nat) : Nat := adlV (fun k => l.getD k 0) l.length
def packP (w h : Nat) (pf : Nat → Nat) : List Nat := hdP (nI (h * (1 + 4 * w))) ++ rawP w pf h ++ zb4 (nI (adlL (rawP w pf h)))
def ctlB (n : Nat) (r : Nat → Nat) : List Nat := zb4 (nI n) ++ zb4 (nI (r 0)) ++ zb4 (nI (r 1)) ++ zb4 (nI (r 2)) ++ zb4 (nI (r 3)) ++ [0, 1, 0, 10] ++ [(nI (r 4)).toBitVec.toNat % 256] ++ [(nI (r 5)).toBitVec.toNat % 256]
def frS (rg px : Nat → Nat → Nat) (f0 : Nat) : Nat → List Nat
  | 0 => []
  | k + 1 => frS rg px f0 k ++ chkS 1717785676 (ctlB (f0 + 2 * k) (rg (f0 + k))) ++ chkS 1717846356 (zb4 (nI (f0 + 2 * k + 1)) ++ packP (rg (f0 + k) 0) (rg (f0 + k) 1) (px (f0 + k)))
def hdS (ab : Nat → Nat) : List Nat := [137, 80, 78, 71, 13, 10, 26, 10] ++ chkS 1229472850 (zb4 (nI (ab 1)) ++ zb4 (nI (ab 2)) ++ [8, 6, 0, 0, 0]) ++ chkS 1633899596 (zb4 (nI (ab 4)) ++ zb4 (nI (ab 3)))
def idS (ab : Nat → Nat) (px : Nat → Nat → Nat) : List Nat := chkS 1229209940 (packP (ab 1) (ab 2) (px (dfP ab)))
def fileS (ab : Nat → Nat) (rg px : Nat → Nat → Nat) : List Nat := (if ab 5 = 0 then hdS ab else hdS ab ++ chkS 1717785676 (ctlB 0 (rg 0))) ++ idS ab px ++ frS rg px (ab 5) (ab 4 - ab 5) ++ chkS 1229278788 []
theorem chkS_len (ty : Int32) (body : List Nat) : (chkS ty body).length = body.length + 12 := by
  unfold chkS
  rw [List.length_append, List.length_append, List.length_append, zb4_len, zb4_len, zb4_len]
  omega
theorem packP_len (w h : Nat) (pf : Nat → Nat) : (packP w h pf).length = 11 + h * (1 + 4 * w) := by
  unfold packP
  rw [List.length_append, List.length_append, rawP_len, zb4_len]
  show 7 + _ + 4 = _
  omega
theorem ctlB_len (n : Nat) (r : Nat → Nat) : (ctlB n r).length = 26 := rfl
theorem hdS_len (ab : Nat → Nat) : (hdS ab).length = 53 := by
  unfold hdS
  rw [List.length_append, List.length_append, chkS_len, chkS_len]
  rfl
theorem zwh {w h : Nat} (hw : w ≤ 16) (hh : h ≤ 16) : h * (1 + 4 * w) ≤ 1040 := Nat.le_trans (Nat.mul_le_mul hh (show 1 + 4 * w ≤ 65 by omega)) (by decide)
theorem frS_len {rg px : Nat → Nat → Nat} {f0 : Nat} : ∀ k, (∀ j, j < k → rg (f0 + j) 0 ≤ 16 ∧ rg (f0 + j) 1 ≤ 16) → (frS rg px f0 k).length ≤ 1105 * k
  | 0, _ => Nat.zero_le _
  | k + 1, h => by
    have ih := frS_len (rg := rg) (px := px) (f0 := f0) k (fun j hj => h j (by omega))
    have hb := h k (by omega)
    have := zwh hb.1 hb.2
    rw [frS, List.length_append, List.length_append, chkS_len, chkS_len, ctlB_len, List.length_append, packP_len, zb4_len]
    omega
theorem zgetD_r {L M : List Nat} (k : Nat) : (L ++ M).getD (L.length + k) 0 = M.getD k 0 := by
  rw [List.getD_eq_getElem?_getD, List.getD_eq_getElem?_getD, List.getElem?_append_right (by omega), Nat.add_sub_cancel_left]
theorem adlF_congr {f g : Nat → Nat} : ∀ m, (∀ j, j < m → f j = g j) → adlF f m = adlF g m
  | 0, _ => rfl
  | m + 1, h => by rw [adlF, adlF, adlF_congr m (fun j hj => h j (by omega)), h m (by omega)]
theorem adlV_congr {f g : Nat → Nat} (m : Nat) (h : ∀ j, j < m → f j = g j) : adlV f m = adlV g m := by
  unfold adlV
  rw [adlF_congr m h]
def WS (σ : zS) (C : Nat → Nat) (L : List Nat) (st n : Nat) : Prop := CLL σ C ∧ SMT σ (C 2) ∧ BL σ (C 66) (C 67) 9968 L ∧ zi σ (C 65) 2 = nI st ∧ zi σ (C 65) 3 = nI n
def PWr : Nat → Prop := fun i => i = 65 ∨ i = 66 ∨ i = 67
/-- a picture of the class, as the writer sees it -/
def PXs (σ : zS) (p pa w h : Nat) (pf : Nat → Nat) : Prop := PCL σ p pa ∧ zi σ p 1 = nI w ∧ zi σ p 2 = nI h ∧ ∀ i, i < w * h → zi σ pa i = nI (pf i)
theorem zhd13 : zb4 134610944 ++ [(0 : Int32).toBitVec.toNat % 256] = [8, 6, 0, 0, 0] := by decide
theorem zct4 : zb4 65546 = [0, 1, 0, 10] := by decide
section PWRITE
variable {σ s : zS} {C : Nat → Nat} {L X : List Nat} {st n b : Nat}
theorem PWr.no {j : Nat} (hj : j < 65) : ¬ PWr j := fun z => by
  rcases z with z | z | z <;> omega
theorem WS.up (h : WS σ C L st n) {L' : List Nat} (hs : zsm (fun a => a = C 66 ∨ a = C 67) σ s) (hB : BL s (C 66) (C 67) 9968 L') : zsC C PWr σ s ∧ WS s C L' st n := by
  refine ⟨zsC.of2 (by decide) (Or.inr (Or.inl rfl)) (by decide) (Or.inr (Or.inr rfl)) hs, h.1.of hs, fun k hk => ?_, hB, ?_, ?_⟩
  · rw [hs.i (fun z => z.elim (h.1.ne 2 66) (h.1.ne 2 67))]; exact h.2.1 k hk
  · rw [hs.i (fun z => z.elim (h.1.ne 65 66) (h.1.ne 65 67))]; exact h.2.2.2.1
  · rw [hs.i (fun z => z.elim (h.1.ne 65 66) (h.1.ne 65 67))]; exact h.2.2.2.2
theorem w_add (h : WS σ C L st n) (v : Int32) (hl : L.length < 9968) : ∃ s, fX1_add σ (C 66) v = some s ∧ zsC C PWr σ s ∧ WS s C (L ++ [v.toBitVec.toNat % 256]) st n := by
  obtain ⟨s, e, m, hB⟩ := s_addL h.2.2.1 v hl
  exact ⟨s, e, h.up m hB⟩
theorem w_num (h : WS σ C L st n) (v : Int32) (hl : L.length + 4 ≤ 9968) : ∃ s, fX1_addNumber σ (C 66) v = some s ∧ zsC C PWr σ s ∧ WS s C (L ++ zb4 v) st n := by
  obtain ⟨s, e, m, hB⟩ := s_addNumberL h.2.2.1 v hl
  exact ⟨s, e, h.up m hB⟩
theorem WS.u (h : WS σ C L st n) {k v st' n' : Nat} (h2 : nI st' = if k = 2 then nI v else nI st) (h3 : nI n' = if k = 3 then nI v else nI n) : zsC C PWr σ (zuI σ (C 65) k (nI v)) ∧ WS (zuI σ (C 65) k (nI v)) C L st' n' := by
  have hs : zsm (fun a => a = C 65) σ (zuI σ (C 65) k (nI v)) := zsm1
  refine ⟨zsC.of1 (by decide) (Or.inl rfl) hs, h.1.of hs, fun j hj => ?_, h.2.2.1.of hs (h.1.ne 66 65) (h.1.ne 67 65), ?_, ?_⟩
  · rw [hs.i (h.1.ne 2 65)]; exact h.2.1 j hj
  · rw [zi_uI, h2, h.2.2.2.1]
    by_cases q : k = 2
    · rw [if_pos q, if_pos ⟨rfl, q.symm⟩]
    · rw [if_neg q, if_neg (fun z => q z.2.symm)]
  · rw [zi_uI, h3, h.2.2.2.2]
    by_cases q : k = 3
    · rw [if_pos q, if_pos ⟨rfl, q.symm⟩]
    · rw [if_neg q, if_neg (fun z => q z.2.symm)]
theorem WS.k (h : WS σ C L st n) : zk σ (C 65) = 10 ∧ zr σ (C 65) 0 = some (C 66) ∧ zr σ (C 65) 1 = some (C 1) := h.1.wrl
theorem WS.bb (h : WS σ C L st n) : zk σ (C 66) = 2 ∧ zi σ (C 66) 1 = nI L.length := ⟨h.2.2.1.1.1, h.2.2.1.1.2.2.2.2.1⟩
theorem w_open (h : WS σ C L st n) (len ty : Int32) (hl : L.length + 8 ≤ 9968) : ∃ s, fX10_openChunk σ (C 65) len ty = some s ∧ zsC C PWr σ s ∧ WS s C (L ++ zb4 len ++ zb4 ty) (L.length + 4) n := by
  obtain ⟨s1, e1, z1, w1⟩ := w_num h len (by omega)
  have hlen : (L ++ zb4 len).length = L.length + 4 := by rw [List.length_append, zb4_len]
  obtain ⟨z2, w2⟩ := w1.u (k := 2) (v := L.length + 4) (st' := L.length + 4) (n' := n) rfl rfl
  obtain ⟨s3, e3, z3, w3⟩ := w_num w2 ty (by omega)
  refine ⟨s3, ?_, (z1.trans z2).trans z3, w3⟩
  have b1 := w1.bb
  rw [hlen] at b1
  unfold fX10_openChunk
  rw [oGR_eq h.k.1 h.k.2.1, oA_eq h.bb.1, oB_eq e1, oGR_eq w1.k.1 w1.k.2.1, oGI_eq b1.1 b1.2, oPI_eq w1.k.1, oGR_eq w2.k.1 w2.k.2.1, oA_eq w2.bb.1, oB_eq e3]
theorem w_end {ty len : Int32} {body : List Nat} (h : WS σ C X (L.length + 4) n) (hX : X = L ++ zb4 len ++ zb4 ty ++ body) (hlen : len = nI body.length) (hl : L.length + body.length + 12 ≤ 9968) : ∃ s, fX10_closeChunk σ (C 65) = some s ∧ zsC C PWr σ s ∧ WS s C (L ++ chkS ty body) (L.length + 4) n := by
  have hX2 : X = (L ++ zb4 len) ++ (zb4 ty ++ body) := by rw [hX, List.append_assoc]
  have hL4 : (L ++ zb4 len).length = L.length + 4 := by rw [List.length_append, zb4_len]
  have hM : (zb4 ty ++ body).length = body.length + 4 := by rw [List.length_append, zb4_len]; omega
  have hXl : X.length = L.length + 4 + (zb4 ty ++ body).length := by rw [hX2, List.length_append, hL4]
  have hch := s_ofChunk (q := C 1) (ta := C 2) h.1.sm h.2.1 h.2.2.1.1 (f := fun j => X.getD j 0) (fun j hj => h.2.2.1.2 j hj) (fr := L.length + 4) (m := (zb4 ty ++ body).length) (by omega)
  have hcr : crX (fun k => X.getD (L.length + 4 + k) 0) (zb4 ty ++ body).length = crL (zb4 ty ++ body) := crX_congr _ (fun j _ => by rw [hX2, ← hL4]; exact zgetD_r j)
  rw [hcr, ← hXl] at hch
  obtain ⟨s, e, z, w⟩ := w_num h (crL (zb4 ty ++ body) ^^^ (-1)) (by omega)
  refine ⟨s, ?_, z, ?_⟩
  · unfold fX10_closeChunk
    rw [oGR_eq h.k.1 h.k.2.1, oGR_eq h.k.1 h.k.2.2, oGR_eq h.k.1 h.k.2.1, oGI_eq h.k.1 h.2.2.2.1, oGR_eq h.k.1 h.k.2.1, oGI_eq h.bb.1 h.bb.2, oA_eq h.1.sm.1, oB_eq hch, oA_eq h.bb.1, oB_eq e]
  · have : X ++ zb4 (crL (zb4 ty ++ body) ^^^ (-1)) = L ++ chkS ty body := by
      rw [hX]
      unfold chkS
      rw [← hlen]
      simp only [List.append_assoc]
    rw [← this]
    exact w
theorem w_head (h : WS σ C L st n) (hb : isR b) {W H : Nat} (h4 : zi σ (C b) 4 = nI W) (h5 : zi σ (C b) 5 = nI H) (hl : L.length + 25 ≤ 9968) : ∃ s, fX10_addHead σ (C 65) (C b) = some s ∧ zsC C PWr σ s ∧ WS s C (L ++ chkS 1229472850 (zb4 (nI W) ++ zb4 (nI H) ++ [8, 6, 0, 0, 0])) (L.length + 4) n := by
  have hlt := hb.lt
  have kb : ∀ t : zS, WS t C L st n ∨ CLL t C → zk t (C b) = 6 := fun t ht => ((ht.elim (fun z => z.1) id).rl hb).1
  obtain ⟨s1, e1, z1, w1⟩ := w_open h 13 1229472850 (by omega)
  obtain ⟨s2, e2, z2, w2⟩ := w_num w1 (nI W) (by simp only [List.length_append, zb4_len]; omega)
  obtain ⟨s3, e3, z3, w3⟩ := w_num w2 (nI H) (by simp only [List.length_append, zb4_len]; omega)
  obtain ⟨s4, e4, z4, w4⟩ := w_num w3 134610944 (by simp only [List.length_append, zb4_len]; omega)
  obtain ⟨s5, e5, z5, w5⟩ := w_add w4 0 (by simp only [List.length_append, zb4_len]; omega)
  obtain ⟨s6, e6, z6, w6⟩ := w_end (L := L) (ty := 1229472850) (len := 13) (body := zb4 (nI W) ++ zb4 (nI H) ++ [8, 6, 0, 0, 0]) w5 (by rw [← zhd13]; simp only [List.append_assoc]) rfl (by simp only [List.length_append, zb4_len, List.length_cons, List.length_nil]; omega)
  have h4' : zi s1 (C b) 4 = nI W := by rw [z1.i h.1 (by omega) (PWr.no (by omega))]; exact h4
  have h5' : zi s2 (C b) 5 = nI H := by rw [(z1.trans z2).i h.1 (by omega) (PWr.no (by omega))]; exact h5
  refine ⟨s6, ?_, ((((z1.trans z2).trans z3).trans z4).trans z5).trans z6, w6⟩
  unfold fX10_addHead
  rw [oA_eq h.k.1, oB_eq e1, oGR_eq w1.k.1 w1.k.2.1, oGI_eq (kb s1 (Or.inr w1.1)) h4', oA_eq w1.bb.1, oB_eq e2, oGR_eq w2.k.1 w2.k.2.1, oGI_eq (kb s2 (Or.inr w2.1)) h5', oA_eq w2.bb.1, oB_eq e3, oGR_eq w3.k.1 w3.k.2.1, oA_eq w3.bb.1, oB_eq e4, oGR_eq w4.k.1 w4.k.2.1, oA_eq w4.bb.1, oB_eq e5, oA_eq w5.k.1, oB_eq e6]
theorem w_ser (h : WS σ C L st n) (hl : L.length + 4 ≤ 9968) : ∃ s, fX10_addSerial σ (C 65) = some s ∧ zsC C PWr σ s ∧ WS s C (L ++ zb4 (nI n)) st (n + 1) := by
  obtain ⟨s1, e1, z1, w1⟩ := w_num h (nI n) hl
  obtain ⟨z2, w2⟩ := w1.u (k := 3) (v := n + 1) (st' := st) (n' := n + 1) rfl rfl
  refine ⟨_, ?_, z1.trans z2, w2⟩
  unfold fX10_addSerial
  rw [oGR_eq h.k.1 h.k.2.1, oGI_eq h.k.1 h.2.2.2.2, oA_eq h.bb.1, oB_eq e1, oGI_eq w1.k.1 w1.2.2.2.2, oPI_eq w1.k.1, nI_1]
theorem w_ctl {ip : Nat} {r : Nat → Nat} (h : WS σ C L st n) (hip : ip < 65) (kp : zk σ (C ip) = 4) (hr : ∀ k, k < 6 → zi σ (C ip) (1 + k) = nI (r k)) (hl : L.length + 38 ≤ 9968) : ∃ s, fX10_addControl σ (C 65) (C ip) = some s ∧ zsC C PWr σ s ∧ WS s C (L ++ chkS 1717785676 (ctlB n r)) (L.length + 4) (n + 1) := by
  have hk : ∀ t, zsC C PWr σ t → zk t (C ip) = 4 ∧ ∀ k, k < 6 → zi t (C ip) (1 + k) = nI (r k) := fun t ht => ⟨by rw [zsm.k ht]; exact kp, fun k hk => by rw [ht.i h.1 (by omega) (PWr.no hip)]; exact hr k hk⟩
  obtain ⟨s1, e1, z1, w1⟩ := w_open h 26 1717785676 (by omega)
  obtain ⟨s2, e2, z2, w2⟩ := w_ser w1 (by simp only [List.length_append, zb4_len]; omega)
  obtain ⟨s3, e3, z3, w3⟩ := w_num w2 (nI (r 0)) (by simp only [List.length_append, zb4_len]; omega)
  obtain ⟨s4, e4, z4, w4⟩ := w_num w3 (nI (r 1)) (by simp only [List.length_append, zb4_len]; omega)
  obtain ⟨s5, e5, z5, w5⟩ := w_num w4 (nI (r 2)) (by simp only [List.length_append, zb4_len]; omega)
  obtain ⟨s6, e6, z6, w6⟩ := w_num w5 (nI (r 3)) (by simp only [List.length_append, zb4_len]; omega)
  obtain ⟨s7, e7, z7, w7⟩ := w_num w6 65546 (by simp only [List.length_append, zb4_len]; omega)
  obtain ⟨s8, e8, z8, w8⟩ := w_add w7 (nI (r 4)) (by simp only [List.length_append, zb4_len]; omega)
  obtain ⟨s9, e9, z9, w9⟩ := w_add w8 (nI (r 5)) (by simp only [List.length_append, zb4_len, List.length_cons, List.length_nil]; omega)
  obtain ⟨s10, e10, z10, w10⟩ := w_end (L := L) (ty := 1717785676) (len := 26) (body := ctlB n r) w9 (by unfold ctlB; rw [← zct4]; simp only [List.append_assoc]) rfl (by rw [ctlB_len]; omega)
  have y2 := z1.trans z2
  have y3 := y2.trans z3
  have y4 := y3.trans z4
  have y5 := y4.trans z5
  have y6 := y5.trans z6
  have y7 := y6.trans z7
  have y8 := y7.trans z8
  refine ⟨s10, ?_, (y8.trans z9).trans z10, w10⟩
  unfold fX10_addControl
  rw [oA_eq h.k.1, oB_eq e1, oA_eq w1.k.1, oB_eq e2, oGR_eq w2.k.1 w2.k.2.1, oGI_eq (hk s2 y2).1 ((hk s2 y2).2 0 (by decide)), oA_eq w2.bb.1, oB_eq e3, oGR_eq w3.k.1 w3.k.2.1, oGI_eq (hk s3 y3).1 ((hk s3 y3).2 1 (by decide)), oA_eq w3.bb.1, oB_eq e4, oGR_eq w4.k.1 w4.k.2.1, oGI_eq (hk s4 y4).1 ((hk s4 y4).2 2 (by decide)), oA_eq w4.bb.1, oB_eq e5, oGR_eq w5.k.1 w5.k.2.1, oGI_eq (hk s5 y5).1 ((hk s5 y5).2 3 (by decide)), oA_eq w5.bb.1, oB_eq e6, oGR_eq w6.k.1 w6.k.2.1, oA_eq w6.bb.1, oB_eq e7, oGR_eq w7.k.1 w7.k.2.1, oGI_eq (hk s7 y7).1 ((hk s7 y7).2 4 (by decide)), oA_eq w7.bb.1, oB_eq e8, oGR_eq w8.k.1 w8.k.2.1, oGI_eq (hk s8 y8).1 ((hk s8 y8).2 5 (by decide)), oA_eq w8.bb.1, oB_eq e9, oA_eq w9.k.1, oB_eq e10]
theorem PXs.of {ip ia w hh : Nat} {pf : Nat → Nat} (h : PXs σ (C ip) (C ia) w hh pf) (hC : CLL σ C) (hs : zsC C PWr σ s) (hip : ip < 65) (hia : ia < 65) : PXs s (C ip) (C ia) w hh pf := by
  obtain ⟨h1, h2, h3, h4⟩ := h
  refine ⟨by unfold PCL; rw [zsm.k hs, zsm.r hs, zsm.n hs]; exact h1, ?_, ?_, fun i hi => ?_⟩
  · rw [hs.i hC (by omega) (PWr.no hip)]; exact h2
  · rw [hs.i hC (by omega) (PWr.no hip)]; exact h3
  · rw [hs.i hC (by omega) (PWr.no hia)]; exact h4 i hi
theorem w_row {ip ia w hh y : Nat} {pf : Nat → Nat} (h : WS σ C L st n) (hip : ip < 65) (hia : ia < 65) (hp : PXs σ (C ip) (C ia) w hh pf) (hw : w ≤ 16) (hh16 : hh ≤ 16) (hy : y < hh) (l3 : Int32) (hl : L.length + 4 * w ≤ 9968) {L0 : List Nat} (hL : L = L0 ++ [0]) : ∃ s, zloop zF (fun x => bX10_addPacked_103 (C 65) (C ip) l3 (nI y) x.1 x.2) (0, σ) = some s ∧ zsC C PWr σ s ∧ WS s C (L0 ++ rowP w pf y w) st n := by
  refine zloop_cnt (body := fun x => bX10_addPacked_103 (C 65) (C ip) l3 (nI y) x.1 x.2) (fun i x => x.1 = nI i ∧ zsC C PWr σ x.2 ∧ WS x.2 C (L0 ++ rowP w pf y i) st n) w (fun s => zsC C PWr σ s ∧ WS s C (L0 ++ rowP w pf y w) st n) (fun i x hi hx => ?_) (fun x hx => ?_) zF (0, σ) ⟨rfl, zsC.rf, by rw [← show L0 ++ [0] = L0 ++ rowP w pf y 0 from rfl, ← hL]; exact h⟩ (by unfold zF; omega)
  · obtain ⟨k, t⟩ := x
    obtain ⟨x1, x2, x3⟩ := hx
    dsimp only at x1 x2 x3
    subst x1
    have hpt := hp.of h.1 x2 hip hia
    have hlt : w * y + i < w * hh := by
      have : w * y + w ≤ w * hh := by rw [← Nat.mul_succ]; exact Nat.mul_le_mul_left _ hy
      omega
    have h256 : w * hh ≤ 16 * 16 := Nat.mul_le_mul hw hh16
    have hL0 : L.length = L0.length + 1 := by rw [hL, List.length_append]; rfl
    obtain ⟨s', e', z', w'⟩ := w_num x3 (nI (pf (w * y + i))) (by rw [List.length_append, rowP_len]; omega)
    refine Or.inl ⟨(nI (i + 1), s'), ?_, rfl, x2.trans z', ?_⟩
    · show bX10_addPacked_103 (C 65) (C ip) l3 (nI y) (nI i) t = _
      unfold bX10_addPacked_103
      have c1 : ¬ nI w ≤ nI i := by rw [nI_leI (by omega) (by omega)]; omega
      have ei : nI y * nI w + nI i = nI (w * y + i) := by rw [pk_mul, nI_add, Nat.mul_comm]
      rw [oGI_eq hpt.1.1 hpt.2.1, if_neg c1, oGR_eq x3.k.1 x3.k.2.1, oGR_eq hpt.1.1 hpt.1.2.1, oGI_eq hpt.1.1 hpt.2.1, ei, oLd_eq hpt.1.2.2.1 (by rw [hpt.1.2.2.2]; omega) (by omega) (hpt.2.2.2 _ hlt), oA_eq x3.bb.1, oB_eq e', oL_eq, nI_1]
    · rw [rowP, ← List.append_assoc]; exact w'
  · obtain ⟨k, t⟩ := x
    obtain ⟨x1, x2, x3⟩ := hx
    dsimp only at x1 x2 x3
    subst x1
    have hpt := hp.of h.1 x2 hip hia
    refine ⟨t, ?_, x2, x3⟩
    show bX10_addPacked_103 (C 65) (C ip) l3 (nI y) (nI w) t = _
    unfold bX10_addPacked_103
    rw [oGI_eq hpt.1.1 hpt.2.1, if_pos (by rw [zle]; exact Int.le_refl _)]
theorem w_rows {ip ia w hh : Nat} {pf : Nat → Nat} (h : WS σ C L st n) (hip : ip < 65) (hia : ia < 65) (hp : PXs σ (C ip) (C ia) w hh pf) (hw : w ≤ 16) (hh16 : hh ≤ 16) (l3 : Int32) (hl : L.length + hh * (1 + 4 * w) ≤ 9968) : ∃ s, zloop zF (fun x => bX10_addPacked_83 (C 65) (C ip) l3 x.1 x.2) (0, σ) = some s ∧ zsC C PWr σ s ∧ WS s C (L ++ rawP w pf hh) st n := by
  refine zloop_cnt (body := fun x => bX10_addPacked_83 (C 65) (C ip) l3 x.1 x.2) (fun i x => x.1 = nI i ∧ zsC C PWr σ x.2 ∧ WS x.2 C (L ++ rawP w pf i) st n) hh (fun s => zsC C PWr σ s ∧ WS s C (L ++ rawP w pf hh) st n) (fun i x hi hx => ?_) (fun x hx => ?_) zF (0, σ) ⟨rfl, zsC.rf, by rw [rawP, List.append_nil]; exact h⟩ (by unfold zF; omega)
  · obtain ⟨k, t⟩ := x
    obtain ⟨x1, x2, x3⟩ := hx
    dsimp only at x1 x2 x3
    subst x1
    have hpt := hp.of h.1 x2 hip hia
    have hle : (i + 1) * (1 + 4 * w) ≤ hh * (1 + 4 * w) := Nat.mul_le_mul_right _ hi
    rw [Nat.add_mul i 1, Nat.one_mul] at hle
    obtain ⟨s1, e1, z1, w1⟩ := w_add x3 0 (by rw [List.length_append, rawP_len]; omega)
    obtain ⟨s2, e2, z2, w2⟩ := w_row w1 hip hia (hpt.of x3.1 z1 hip hia) hw hh16 hi l3 (by rw [List.length_append, List.length_append, rawP_len]; show _ + _ + 1 + _ ≤ _; omega) rfl
    refine Or.inl ⟨(nI (i + 1), s2), ?_, rfl, (x2.trans z1).trans z2, ?_⟩
    · show bX10_addPacked_83 (C 65) (C ip) l3 (nI i) t = _
      unfold bX10_addPacked_83
      have c1 : ¬ nI hh ≤ nI i := by rw [nI_leI (by omega) (by omega)]; omega
      rw [oGI_eq hpt.1.1 hpt.2.2.1, if_neg c1, oGR_eq x3.k.1 x3.k.2.1, oA_eq x3.bb.1, oB_eq e1, oB_eq e2]
      dsimp only
      rw [oL_eq, nI_1]
    · rw [rawP, ← List.append_assoc]; exact w2
  · obtain ⟨k, t⟩ := x
    obtain ⟨x1, x2, x3⟩ := hx
    dsimp only at x1 x2 x3
    subst x1
    have hpt := hp.of h.1 x2 hip hia
    refine ⟨t, ?_, x2, x3⟩
    show bX10_addPacked_83 (C 65) (C ip) l3 (nI hh) t = _
    unfold bX10_addPacked_83
    rw [oGI_eq hpt.1.1 hpt.2.2.1, if_pos (by rw [zle]; exact Int.le_refl _)]
theorem s_rawSize {p pa w hh : Nat} {pf : Nat → Nat} (hp : PXs σ p pa w hh pf) : fX10_rawSize σ p = some (nI (hh * (1 + 4 * w))) := by
  unfold fX10_rawSize
  have e4 : (4 : Int32) * nI w = nI (4 * w) := pk_mul 4 w
  have e1 : (1 : Int32) + nI (4 * w) = nI (1 + 4 * w) := nI_add 1 _
  rw [oGI_eq hp.1.1 hp.2.2.1, oGI_eq hp.1.1 hp.2.1, e4, e1, pk_mul]
theorem w_packed {ip ia w hh : Nat} {pf : Nat → Nat} (h : WS σ C L st n) (hip : ip < 65) (hia : ia < 65) (hp : PXs σ (C ip) (C ia) w hh pf) (hw : w ≤ 16) (hh16 : hh ≤ 16) (hl : L.length + 11 + hh * (1 + 4 * w) ≤ 9968) : ∃ s, fX10_addPacked σ (C 65) (C ip) = some s ∧ zsC C PWr σ s ∧ WS s C (L ++ packP w hh pf) st n := by
  have hz := s_rawSize hp
  generalize hv : nI (hh * (1 + 4 * w)) = v at hz
  have q1 : ((v.toUInt32 >>> ((8 : Int32).toUInt32 &&& Int32.toUInt32 31)).toInt32).toBitVec.toNat % 256 = v.toBitVec.toNat / 2 ^ (8 * 1) % 256 := zushrB v (k := 1) (by decide)
  have q2 : (((v ^^^ (-1)).toUInt32 >>> ((8 : Int32).toUInt32 &&& Int32.toUInt32 31)).toInt32).toBitVec.toNat % 256 = (v ^^^ (-1)).toBitVec.toNat / 2 ^ (8 * 1) % 256 := zushrB (v ^^^ (-1)) (k := 1) (by decide)
  obtain ⟨s1, e1, z1, w1⟩ := w_add h 120 (by omega)
  obtain ⟨s2, e2, z2, w2⟩ := w_add w1 1 (by simp only [List.length_append, List.length_cons, List.length_nil]; omega)
  obtain ⟨s3, e3, z3, w3⟩ := w_add w2 1 (by simp only [List.length_append, List.length_cons, List.length_nil]; omega)
  obtain ⟨s4, e4, z4, w4⟩ := w_add w3 v (by simp only [List.length_append, List.length_cons, List.length_nil]; omega)
  obtain ⟨s5, e5, z5, w5⟩ := w_add w4 ((v.toUInt32 >>> ((8 : Int32).toUInt32 &&& Int32.toUInt32 31)).toInt32) (by simp only [List.length_append, List.length_cons, List.length_nil]; omega)
  obtain ⟨s6, e6, z6, w6⟩ := w_add w5 (v ^^^ (-1)) (by simp only [List.length_append, List.length_cons, List.length_nil]; omega)
  obtain ⟨s7, e7, z7, w7⟩ := w_add w6 (((v ^^^ (-1)).toUInt32 >>> ((8 : Int32).toUInt32 &&& Int32.toUInt32 31)).toInt32) (by simp only [List.length_append, List.length_cons, List.length_nil]; omega)
  have y7 := (((((z1.trans z2).trans z3).trans z4).trans z5).trans z6).trans z7
  rw [q1, q2] at w7
  have w7' : WS s7 C (L ++ hdP v) st n := by
    have : L ++ hdP v = L ++ [(120 : Int32).toBitVec.toNat % 256] ++ [(1 : Int32).toBitVec.toNat % 256] ++ [(1 : Int32).toBitVec.toNat % 256] ++ [v.toBitVec.toNat % 256] ++ [v.toBitVec.toNat / 2 ^ (8 * 1) % 256] ++ [(v ^^^ (-1)).toBitVec.toNat % 256] ++ [(v ^^^ (-1)).toBitVec.toNat / 2 ^ (8 * 1) % 256] := by
      unfold hdP
      simp only [List.append_assoc]
      rfl
    rw [this]
    exact w7
  have hlh : (L ++ hdP v).length = L.length + 7 := by rw [List.length_append]; rfl
  obtain ⟨s8, e8, z8, w8⟩ := w_rows w7' hip hia (hp.of h.1 y7 hip hia) hw hh16 (nI (L ++ hdP v).length) (by omega)
  have hl8 : (L ++ hdP v ++ rawP w pf hh).length = (L ++ hdP v).length + (rawP w pf hh).length := List.length_append
  have hraw := s_ofRaw w8.2.2.1 (fr := (L ++ hdP v).length) (m := (rawP w pf hh).length) (by rw [hl8]; exact Nat.le_refl _)
  rw [← hl8, adlV_congr (g := fun k => (rawP w pf hh).getD k 0) _ (fun j _ => zgetD_r j)] at hraw
  obtain ⟨s9, e9, z9, w9⟩ := w_num w8 (nI (adlL (rawP w pf hh))) (by rw [hl8, hlh, rawP_len]; omega)
  refine ⟨s9, ?_, (y7.trans z8).trans z9, ?_⟩
  · unfold fX10_addPacked
    rw [oB_eq hz, oGR_eq h.k.1 h.k.2.1, oA_eq h.bb.1, oB_eq e1, oGR_eq w1.k.1 w1.k.2.1, oA_eq w1.bb.1, oB_eq e2, oGR_eq w2.k.1 w2.k.2.1, oA_eq w2.bb.1, oB_eq e3, oGR_eq w3.k.1 w3.k.2.1, oA_eq w3.bb.1, oB_eq e4, oGR_eq w4.k.1 w4.k.2.1, oA_eq w4.bb.1, oB_eq e5, oGR_eq w5.k.1 w5.k.2.1, oA_eq w5.bb.1, oB_eq e6, oGR_eq w6.k.1 w6.k.2.1, oA_eq w6.bb.1, oB_eq e7, oGR_eq w7.k.1 w7.k.2.1, oGI_eq w7'.bb.1 w7'.bb.2, oB_eq e8]
    dsimp only
    rw [oGR_eq w8.k.1 w8.k.2.1, oGR_eq w8.k.1 w8.k.2.1, oGR_eq w8.k.1 w8.k.2.1, oGI_eq w8.bb.1 w8.bb.2, oB_eq hraw, oA_eq w8.bb.1]
    exact oB_eq e9
  · have : L ++ packP w hh pf = L ++ hdP v ++ rawP w pf hh ++ zb4 (nI (adlL (rawP w pf hh))) := by
      unfold packP
      rw [hv]
      simp only [List.append_assoc]
    rw [this]
    exact w9
theorem w_default {ip ia w hh : Nat} {pf : Nat → Nat} (h : WS σ C L st n) (hip : ip < 65) (hia : ia < 65) (hp : PXs σ (C ip) (C ia) w hh pf) (hw : w ≤ 16) (hh16 : hh ≤ 16) (hl : L.length + 23 + hh * (1 + 4 * w) ≤ 9968) : ∃ s, fX10_addDefaultData σ (C 65) (C ip) = some s ∧ zsC C PWr σ s ∧ WS s C (L ++ chkS 1229209940 (packP w hh pf)) (L.length + 4) n := by
  have e11 : (11 : Int32) + nI (hh * (1 + 4 * w)) = nI (11 + hh * (1 + 4 * w)) := nI_add 11 _
  obtain ⟨s1, e1, z1, w1⟩ := w_open h (nI (11 + hh * (1 + 4 * w))) 1229209940 (by omega)
  obtain ⟨s2, e2, z2, w2⟩ := w_packed w1 hip hia (hp.of h.1 z1 hip hia) hw hh16 (by simp only [List.length_append, zb4_len]; omega)
  obtain ⟨s3, e3, z3, w3⟩ := w_end (L := L) (ty := 1229209940) (len := nI (11 + hh * (1 + 4 * w))) (body := packP w hh pf) w2 rfl (by rw [packP_len]) (by rw [packP_len]; omega)
  refine ⟨s3, ?_, (z1.trans z2).trans z3, w3⟩
  unfold fX10_addDefaultData
  rw [oB_eq (s_rawSize hp), e11, oA_eq h.k.1, oB_eq e1, oA_eq w1.k.1, oB_eq e2, oA_eq w2.k.1, oB_eq e3]
theorem w_fdata {ip ia w hh : Nat} {pf : Nat → Nat} (h : WS σ C L st n) (hip : ip < 65) (hia : ia < 65) (hp : PXs σ (C ip) (C ia) w hh pf) (hw : w ≤ 16) (hh16 : hh ≤ 16) (hl : L.length + 27 + hh * (1 + 4 * w) ≤ 9968) : ∃ s, fX10_addFrameData σ (C 65) (C ip) = some s ∧ zsC C PWr σ s ∧ WS s C (L ++ chkS 1717846356 (zb4 (nI n) ++ packP w hh pf)) (L.length + 4) (n + 1) := by
  have e15 : (15 : Int32) + nI (hh * (1 + 4 * w)) = nI (15 + hh * (1 + 4 * w)) := nI_add 15 _
  obtain ⟨s1, e1, z1, w1⟩ := w_open h (nI (15 + hh * (1 + 4 * w))) 1717846356 (by omega)
  obtain ⟨s2, e2, z2, w2⟩ := w_ser w1 (by simp only [List.length_append, zb4_len]; omega)
  obtain ⟨s3, e3, z3, w3⟩ := w_packed w2 hip hia (hp.of h.1 (z1.trans z2) hip hia) hw hh16 (by simp only [List.length_append, zb4_len]; omega)
  obtain ⟨s4, e4, z4, w4⟩ := w_end (L := L) (ty := 1717846356) (len := nI (15 + hh * (1 + 4 * w))) (body := zb4 (nI n) ++ packP w hh pf) w3 (by simp only [List.append_assoc]) (by rw [List.length_append, packP_len, zb4_len]; congr 1; omega) (by rw [List.length_append, packP_len, zb4_len]; omega)
  refine ⟨s4, ?_, ((z1.trans z2).trans z3).trans z4, w4⟩
  unfold fX10_addFrameData
  rw [oB_eq (s_rawSize hp), e15, oA_eq h.k.1, oB_eq e1, oA_eq w1.k.1, oB_eq e2, oA_eq w2.k.1, oB_eq e3, oA_eq w3.k.1, oB_eq e4]
end PWRITE
