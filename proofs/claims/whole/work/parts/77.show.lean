/-! showing: the mathematics, and the class's Screen -/
def blV (x y : Int32) : Int32 := ((x &&& 255) * 255) + (((255 : Int32) - (x &&& 255)) * (y &&& 255))
def blK (x y acc l : Int32) : Int32 := acc ||| ((((((((x.toUInt32 >>> (l.toUInt32 &&& Int32.toUInt32 31)).toInt32) &&& (255 : Int32)) * (x &&& 255)) * (255 : Int32)) + (((((y.toUInt32 >>> (l.toUInt32 &&& Int32.toUInt32 31)).toInt32) &&& (255 : Int32)) * (y &&& 255)) * ((255 : Int32) - (x &&& 255)))) / blV x y) <<< (l &&& 31))
def blnS (x y : Int32) : Int32 := if (x &&& 255) = 0 then y else if (x &&& 255) = 255 then x else blK x y (blK x y (blK x y (blV x y / 255) 8) 16) 24
def mixS (a b : Nat) : Nat := (blnS (nI a) (nI b)).toBitVec.toNat
def toS (W : Nat) (r : Nat → Nat) (i : Nat) : Nat := W * (r 3 + i / r 0) + r 2 + i % r 0
def dr (W : Nat) (r pf : Nat → Nat) (cv : Nat → Nat) : Nat → Nat → Nat
  | 0 => cv
  | i + 1 => va_up (dr W r pf cv i) (toS W r i) (if r 5 = 0 then pf i else mixS (pf i) (dr W r pf cv i (toS W r i)))
def zrS (W : Nat) (r : Nat → Nat) (cv : Nat → Nat) : Nat → Nat → Nat
  | 0 => cv
  | i + 1 => va_up (zrS W r cv i) (toS W r i) 0
/-- the canvas before frame k -/
def cvS (W : Nat) (rg px : Nat → Nat → Nat) : Nat → Nat → Nat
  | 0 => fun _ => 0
  | k + 1 => if rg k 4 = 2 then cvS W rg px k else if rg k 4 = 1 then zrS W (rg k) (dr W (rg k) (px k) (cvS W rg px k) (rg k 0 * rg k 1)) (rg k 0 * rg k 1) else dr W (rg k) (px k) (cvS W rg px k) (rg k 0 * rg k 1)
def shS (W : Nat) (rg px : Nat → Nat → Nat) (k : Nat) : Nat → Nat := dr W (rg k) (px k) (cvS W rg px k) (rg k 0 * rg k 1)
def zCV (σ : zS) (a : Nat) (cv : Nat → Nat) : Prop := ∀ t, t < 256 → zi σ a t = nI (cv t)
theorem toS_lt {ab r : Nat → Nat} (h : RGN ab r) (h1 : ab 1 ≤ 16) (h2 : ab 2 ≤ 16) {i : Nat} (hi : i < r 0 * r 1) : toS (ab 1) r i < 256 := by
  obtain ⟨a, b, c, d, -⟩ := h
  have hd : i / r 0 < r 1 := Nat.div_lt_of_lt_mul hi
  have hm : i % r 0 < r 0 := Nat.mod_lt _ (by omega)
  have q : ab 1 * (r 3 + i / r 0 + 1) ≤ 16 * 16 := Nat.mul_le_mul h1 (by omega)
  rw [Nat.mul_succ] at q
  unfold toS
  omega
theorem blV_ne (x y : Int32) (h : ¬ (x &&& 255) = 0) : ¬ blV x y = 0 := by
  have e1 : x &&& 255 = nI (x.toBitVec.toNat % 2 ^ 8) := pk_and x 8 (by decide)
  have e2 : y &&& 255 = nI (y.toBitVec.toNat % 2 ^ 8) := pk_and y 8 (by decide)
  have l1 : x.toBitVec.toNat % 2 ^ 8 < 256 := Nat.mod_lt _ (by decide)
  have l2 : y.toBitVec.toNat % 2 ^ 8 < 256 := Nat.mod_lt _ (by decide)
  rw [e1] at h
  unfold blV
  rw [e1, e2]
  generalize x.toBitVec.toNat % 2 ^ 8 = a at *
  generalize y.toBitVec.toNat % 2 ^ 8 = b at *
  have ha : a ≠ 0 := fun z => h (by rw [z]; rfl)
  have q1 : nI a * 255 = nI (a * 255) := pk_mul a 255
  have q2 : (255 : Int32) - nI a = nI (255 - a) := pk_sub (a := 255) (by omega)
  have hb : (255 - a) * b ≤ 255 * 255 := Nat.mul_le_mul (by omega) (by omega)
  rw [q1, q2, pk_mul, nI_add]
  exact nI_ne0 (by omega) (by omega)
section PSHOW
variable {σ s t : zS}
theorem s_blended (x y : Int32) : fX7_blended σ x y = some (blnS x y) := by
  unfold fX7_blended fX7_blended_17 blnS
  rw [oL_eq]
  by_cases d0 : (x &&& 255) = 0
  · rw [if_pos d0, if_pos d0, if_pos d0]
  · rw [if_neg d0, if_neg d0, if_neg d0]
    by_cases d1 : (x &&& 255) = 255
    · rw [if_pos d1, if_pos d1]
    · rw [if_neg d1, if_neg d1, oL_eq, oL_eq, oL_eq]
      have hne : ¬ (((x &&& 255) * 255) + (((255 : Int32) - (x &&& 255)) * (y &&& 255))) = 0 := blV_ne x y d0
      have body : ∀ acc l : Int32, ¬ (24 : Int32) < l → bX7_blended_60 σ x y (x &&& 255) (y &&& 255) (((x &&& 255) * 255) + (((255 : Int32) - (x &&& 255)) * (y &&& 255))) acc l = some (.inl (blK x y acc l, l + 8)) := fun acc l hl => by
        unfold bX7_blended_60
        rw [if_neg hl, oL_eq, oL_eq, oA_eq hne, oL_eq, oL_eq]
        rfl
      have e : zloop zF (fun z => bX7_blended_60 σ x y (x &&& 255) (y &&& 255) (((x &&& 255) * 255) + (((255 : Int32) - (x &&& 255)) * (y &&& 255))) z.1 z.2) ((((x &&& 255) * 255) + (((255 : Int32) - (x &&& 255)) * (y &&& 255))) / 255, 8) = some (blK x y (blK x y (blK x y (blV x y / 255) 8) 16) 24) := by
        refine zloop_seq (fun i => (match i with
          | 0 => (blV x y / 255, (8 : Int32))
          | 1 => (blK x y (blV x y / 255) 8, (8 : Int32) + 8)
          | 2 => (blK x y (blK x y (blV x y / 255) 8) 16, (16 : Int32) + 8)
          | _ => (blK x y (blK x y (blK x y (blV x y / 255) 8) 16) 24, (24 : Int32) + 8))) 3 (fun i hi => ?_) ?_ zF (by unfold zF; decide)
        · match i, hi with
          | 0, _ => exact body _ 8 (by decide)
          | 1, _ => exact body _ 16 (by decide)
          | 2, _ => exact body _ 24 (by decide)
        · show bX7_blended_60 σ x y _ _ _ (blK x y (blK x y (blK x y (blV x y / 255) 8) 16) 24) ((24 : Int32) + 8) = _
          unfold bX7_blended_60
          rw [if_pos (by decide)]
      rw [oB_eq e]
theorem m_over (x y : Int32) : fX12_over σ x y = some (blnS x y) := by
  unfold fX12_over blnS
  rw [oL_eq]
  by_cases d0 : (x &&& 255) = 0
  · rw [if_pos d0, if_pos d0]
  · rw [if_neg d0, if_neg d0]
    by_cases d1 : (x &&& 255) = 255
    · rw [if_pos d1, if_pos d1]
    · rw [if_neg d1, if_neg d1, oL_eq, oL_eq, oL_eq]
      have hne : ¬ (((x &&& 255) * 255) + (((255 : Int32) - (x &&& 255)) * (y &&& 255))) = 0 := blV_ne x y d0
      have body : ∀ acc l : Int32, ¬ (32 : Int32) ≤ l → bX12_over_54 σ x y (x &&& 255) (y &&& 255) (((x &&& 255) * 255) + (((255 : Int32) - (x &&& 255)) * (y &&& 255))) acc l = some (.inl (blK x y acc l, l + 8)) := fun acc l hl => by
        unfold bX12_over_54
        rw [if_neg hl, oA_eq hne, oL_eq, oL_eq, oL_eq]
        rfl
      have e : zloop zF (fun z => bX12_over_54 σ x y (x &&& 255) (y &&& 255) (((x &&& 255) * 255) + (((255 : Int32) - (x &&& 255)) * (y &&& 255))) z.1 z.2) ((((x &&& 255) * 255) + (((255 : Int32) - (x &&& 255)) * (y &&& 255))) / 255, 8) = some (blK x y (blK x y (blK x y (blV x y / 255) 8) 16) 24) := by
        refine zloop_seq (fun i => (match i with
          | 0 => (blV x y / 255, (8 : Int32))
          | 1 => (blK x y (blV x y / 255) 8, (8 : Int32) + 8)
          | 2 => (blK x y (blK x y (blV x y / 255) 8) 16, (16 : Int32) + 8)
          | _ => (blK x y (blK x y (blK x y (blV x y / 255) 8) 16) 24, (24 : Int32) + 8))) 3 (fun i hi => ?_) ?_ zF (by unfold zF; decide)
        · match i, hi with
          | 0, _ => exact body _ 8 (by decide)
          | 1, _ => exact body _ 16 (by decide)
          | 2, _ => exact body _ 24 (by decide)
        · show bX12_over_54 σ x y _ _ _ (blK x y (blK x y (blK x y (blV x y / 255) 8) 16) 24) ((24 : Int32) + 8) = _
          unfold bX12_over_54
          rw [if_pos (by decide)]
      rw [oB_eq e]
/-- a screen and a picture at hand -/
def SCL (σ : zS) (c pa W : Nat) : Prop := zk σ c = 7 ∧ zr σ c 0 = some pa ∧ zk σ pa = 21 ∧ zn σ pa = 256 ∧ zi σ c 2 = nI W
def PCC (σ : zS) (p pa : Nat) (r pf : Nat → Nat) : Prop := PCL σ p pa ∧ (∀ k, k < 6 → zi σ p (1 + k) = nI (r k)) ∧ ∀ i, i < r 0 * r 1 → zi σ pa i = nI (pf i)
theorem SCL.of {S : Nat → Prop} {c pa W : Nat} (h : SCL σ c pa W) (hs : zsm S σ s) (hc : ¬ S c) : SCL s c pa W := by
  unfold SCL
  rw [hs.k, hs.n, hs.r, hs.i hc]
  exact h
theorem PCC.of {S : Nat → Prop} {p pa : Nat} {r pf : Nat → Nat} (h : PCC σ p pa r pf) (hs : zsm S σ s) (hp : ¬ S p) (hpa : ¬ S pa) : PCC s p pa r pf := ⟨h.1.of hs, fun k hk => by rw [hs.i hp]; exact h.2.1 k hk, fun i hi => by rw [hs.i hpa]; exact h.2.2 i hi⟩
theorem toS_eq {W x y : Nat} {r : Nat → Nat} (h0 : x < r 0) : toS W r (y * r 0 + x) = (r 3 + y) * W + r 2 + x := by
  unfold toS
  have e1 : (y * r 0 + x) / r 0 = y := by
    rw [Nat.mul_comm, Nat.mul_add_div (by omega), Nat.div_eq_of_lt h0]; rfl
  have e2 : (y * r 0 + x) % r 0 = x := by
    rw [Nat.mul_comm, Nat.mul_add_mod, Nat.mod_eq_of_lt h0]
  rw [e1, e2, Nat.mul_comm W]
theorem s_drawRow {c pa p fa y : Nat} {ab r pf cv : Nat → Nat} (hS : SCL σ c pa (ab 1)) (hP : PCC σ p fa r pf) (hne : fa ≠ pa) (hr : RGN ab r) (h1 : ab 1 ≤ 16) (h2 : ab 2 ≤ 16) (hy : y < r 1) (hcv : zCV σ pa (dr (ab 1) r pf cv (y * r 0))) :
    ∃ s, zloop zF (fun x => bX7_draw_12 c p (nI y) x.1 x.2) (0, σ) = some s ∧ zsm (fun a => a = pa) σ s ∧ zCV s pa (dr (ab 1) r pf cv ((y + 1) * r 0)) := by
  have hb := hr.b h1 h2
  have npc : c ≠ pa := fun e => by
    have q := hS.1
    rw [e, hS.2.2.1] at q
    exact absurd q (by decide)
  have npp : p ≠ pa := fun e => by
    have q := hP.1.1
    rw [e, hS.2.2.1] at q
    exact absurd q (by decide)
  have hyw : y * r 0 + r 0 ≤ r 0 * r 1 := by
    have : (y + 1) * r 0 ≤ r 1 * r 0 := Nat.mul_le_mul_right _ hy
    rw [Nat.add_mul, Nat.one_mul] at this
    rw [Nat.mul_comm (r 0)]
    exact this
  obtain ⟨s, e, p1, p2⟩ := zloop_cnt (body := fun x => bX7_draw_12 c p (nI y) x.1 x.2) (fun i x => x.1 = nI i ∧ zsm (fun a => a = pa) σ x.2 ∧ zCV x.2 pa (dr (ab 1) r pf cv (y * r 0 + i))) (r 0) (fun s => zsm (fun a => a = pa) σ s ∧ zCV s pa (dr (ab 1) r pf cv ((y + 1) * r 0)))
    (fun i x hi hx => by
      obtain ⟨k, s⟩ := x
      obtain ⟨x1, x2, x3⟩ := hx
      dsimp only at x1 x2 x3
      subst x1
      have hSs := hS.of x2 npc
      have hPs := hP.of x2 npp hne
      have f0 : zi s p 1 = nI (r 0) := hPs.2.1 0 (by decide)
      have f2 : zi s p 3 = nI (r 2) := hPs.2.1 2 (by decide)
      have f3 : zi s p 4 = nI (r 3) := hPs.2.1 3 (by decide)
      have f5 : zi s p 6 = nI (r 5) := hPs.2.1 5 (by decide)
      have c1 : ¬ nI (r 0) ≤ nI i := by rw [nI_leI (by omega) (by omega)]; omega
      have hlt := toS_lt hr h1 h2 (i := y * r 0 + i) (by omega)
      have et := toS_eq (W := ab 1) (y := y) (r := r) hi
      have eidx : ((nI (r 3) + nI y) * nI (ab 1) + nI (r 2)) + nI i = nI (toS (ab 1) r (y * r 0 + i)) := by rw [nI_add, pk_mul, nI_add, nI_add, et]
      have epx : nI y * nI (r 0) + nI i = nI (y * r 0 + i) := by rw [pk_mul, nI_add]
      have hv := hPs.2.2 (y * r 0 + i) (by omega)
      have hcvt := x3 _ hlt
      have e5 : nI (r 5) = 0 ↔ r 5 = 0 := nI_eq (b := 0) (by omega) (by decide)
      have h85 : ∀ v : Int32, v = nI (if r 5 = 0 then pf (y * r 0 + i) else mixS (pf (y * r 0 + i)) (dr (ab 1) r pf cv (y * r 0 + i) (toS (ab 1) r (y * r 0 + i)))) → ∃ s', fX7_draw_85 s c p (nI y) (nI i) v (nI (toS (ab 1) r (y * r 0 + i))) pa = some (.inl (nI (i + 1), s')) ∧ zsm (fun a => a = pa) σ s' ∧ zCV s' pa (dr (ab 1) r pf cv (y * r 0 + (i + 1))) := fun v hv => by
        refine ⟨zuI s pa (toS (ab 1) r (y * r 0 + i)) v, ?_, x2.uI rfl, fun t ht => ?_⟩
        · unfold fX7_draw_85
          rw [oSt_eq hSs.2.2.1 (by rw [hSs.2.2.2.1]; exact hlt) (by omega), oL_eq, nI_1]
        · show zi (zuI s pa _ _) pa t = nI (dr (ab 1) r pf cv (y * r 0 + i + 1) t)
          rw [zi_uI, dr]
          unfold va_up
          by_cases q : t = toS (ab 1) r (y * r 0 + i)
          · rw [if_pos ⟨rfl, q⟩, if_pos q]; exact hv
          · rw [if_neg (fun z => q z.2), if_neg q]; exact x3 t ht
      have hpre : bX7_draw_12 c p (nI y) (nI i) s = (if nI (r 5) = 0 then fX7_draw_85 s c p (nI y) (nI i) (nI (pf (y * r 0 + i))) (nI (toS (ab 1) r (y * r 0 + i))) pa else fX7_draw_85 s c p (nI y) (nI i) (blnS (nI (pf (y * r 0 + i))) (nI (dr (ab 1) r pf cv (y * r 0 + i) (toS (ab 1) r (y * r 0 + i))))) (nI (toS (ab 1) r (y * r 0 + i))) pa) := by
        unfold bX7_draw_12
        rw [oGI_eq hPs.1.1 f0, if_neg c1, oGI_eq hPs.1.1 f3, oGI_eq hSs.1 hSs.2.2.2.2, oGI_eq hPs.1.1 f2, oL_eq, eidx, oGR_eq hPs.1.1 hPs.1.2.1, oGI_eq hPs.1.1 f0, epx, oLd_eq hPs.1.2.2.1 (by rw [hPs.1.2.2.2]; omega) (by omega) hv, oGR_eq hSs.1 hSs.2.1, oGI_eq hPs.1.1 f5, oGR_eq hSs.1 hSs.2.1, oLd_eq hSs.2.2.1 (by rw [hSs.2.2.2.1]; exact hlt) (by omega) hcvt, oB_eq (s_blended _ _)]
      by_cases d : r 5 = 0
      · obtain ⟨s', q1, q2, q3⟩ := h85 (nI (pf (y * r 0 + i))) (by rw [if_pos d])
        rw [if_pos (e5.mpr d), q1] at hpre
        exact Or.inl ⟨_, hpre, rfl, q2, q3⟩
      · obtain ⟨s', q1, q2, q3⟩ := h85 (blnS (nI (pf (y * r 0 + i))) (nI (dr (ab 1) r pf cv (y * r 0 + i) (toS (ab 1) r (y * r 0 + i))))) (by rw [if_neg d]; exact zof _)
        rw [if_neg (fun z => d (e5.mp z)), q1] at hpre
        exact Or.inl ⟨_, hpre, rfl, q2, q3⟩)
    (fun x hx => by
      obtain ⟨k, s⟩ := x
      obtain ⟨x1, x2, x3⟩ := hx
      dsimp only at x1 x2 x3
      subst x1
      have hPs := hP.of x2 npp hne
      refine ⟨s, ?_, x2, ?_⟩
      · show bX7_draw_12 c p (nI y) (nI (r 0)) s = _
        unfold bX7_draw_12
        rw [oGI_eq hPs.1.1 (hPs.2.1 0 (by decide)), if_pos (by rw [zle]; exact Int.le_refl _)]
      · rw [Nat.add_mul, Nat.one_mul]; exact x3) zF (0, σ) ⟨nI_0.symm, zsm.rf, by rw [Nat.add_zero]; exact hcv⟩ (by unfold zF; omega)
  exact ⟨s, e, p1, p2⟩
theorem s_draw {c pa p fa : Nat} {ab r pf cv : Nat → Nat} (hS : SCL σ c pa (ab 1)) (hP : PCC σ p fa r pf) (hne : fa ≠ pa) (hr : RGN ab r) (h1 : ab 1 ≤ 16) (h2 : ab 2 ≤ 16) (hcv : zCV σ pa cv) :
    ∃ s, fX7_draw σ c p = some s ∧ zsm (fun a => a = pa) σ s ∧ zCV s pa (dr (ab 1) r pf cv (r 0 * r 1)) := by
  have hb := hr.b h1 h2
  have npc : c ≠ pa := fun e => by
    have q := hS.1
    rw [e, hS.2.2.1] at q
    exact absurd q (by decide)
  have npp : p ≠ pa := fun e => by
    have q := hP.1.1
    rw [e, hS.2.2.1] at q
    exact absurd q (by decide)
  obtain ⟨s, e, p1, p2⟩ := zloop_cnt (body := fun x => bX7_draw_2 c p x.1 x.2) (fun y x => x.1 = nI y ∧ zsm (fun a => a = pa) σ x.2 ∧ zCV x.2 pa (dr (ab 1) r pf cv (y * r 0))) (r 1) (fun s => zsm (fun a => a = pa) σ s ∧ zCV s pa (dr (ab 1) r pf cv (r 0 * r 1)))
    (fun y x hy hx => by
      obtain ⟨k, s⟩ := x
      obtain ⟨x1, x2, x3⟩ := hx
      dsimp only at x1 x2 x3
      subst x1
      have hPs := hP.of x2 npp hne
      obtain ⟨s', e', m', c'⟩ := s_drawRow (hS.of x2 npc) hPs hne hr h1 h2 hy x3
      have c1 : ¬ nI (r 1) ≤ nI y := by rw [nI_leI (by omega) (by omega)]; omega
      have f1 : zi s p 2 = nI (r 1) := hPs.2.1 1 (by decide)
      refine Or.inl ⟨(nI (y + 1), s'), ?_, rfl, x2.trans m', c'⟩
      show bX7_draw_2 c p (nI y) s = _
      unfold bX7_draw_2
      rw [oGI_eq hPs.1.1 f1, if_neg c1, oB_eq e']
      dsimp only
      rw [oL_eq, nI_1])
    (fun x hx => by
      obtain ⟨k, s⟩ := x
      obtain ⟨x1, x2, x3⟩ := hx
      dsimp only at x1 x2 x3
      subst x1
      have hPs := hP.of x2 npp hne
      have f1 : zi s p 2 = nI (r 1) := hPs.2.1 1 (by decide)
      refine ⟨s, ?_, x2, by rw [Nat.mul_comm (r 0)]; exact x3⟩
      show bX7_draw_2 c p (nI (r 1)) s = _
      unfold bX7_draw_2
      rw [oGI_eq hPs.1.1 f1, if_pos (by rw [zle]; exact Int.le_refl _)]) zF (0, σ) ⟨nI_0.symm, zsm.rf, by rw [Nat.zero_mul]; exact hcv⟩ (by unfold zF; omega)
  refine ⟨s, ?_, p1, p2⟩
  unfold fX7_draw
  rw [oB_eq e]
theorem s_zrow {c pa p fa y : Nat} {ab r pf cv : Nat → Nat} (hS : SCL σ c pa (ab 1)) (hP : PCC σ p fa r pf) (hne : fa ≠ pa) (hr : RGN ab r) (h1 : ab 1 ≤ 16) (h2 : ab 2 ≤ 16) (hy : y < r 1) (hcv : zCV σ pa (zrS (ab 1) r cv (y * r 0))) :
    ∃ s, zloop zF (fun x => bX7_dispose_65 c p (nI y) (nI ((r 3 + y) * ab 1 + r 2)) x.1 x.2) (0, σ) = some s ∧ zsm (fun a => a = pa) σ s ∧ zCV s pa (zrS (ab 1) r cv ((y + 1) * r 0)) := by
  have hb := hr.b h1 h2
  have npc : c ≠ pa := fun e => by
    have q := hS.1
    rw [e, hS.2.2.1] at q
    exact absurd q (by decide)
  have npp : p ≠ pa := fun e => by
    have q := hP.1.1
    rw [e, hS.2.2.1] at q
    exact absurd q (by decide)
  have hyw : y * r 0 + r 0 ≤ r 0 * r 1 := by
    have : (y + 1) * r 0 ≤ r 1 * r 0 := Nat.mul_le_mul_right _ hy
    rw [Nat.add_mul, Nat.one_mul] at this
    rw [Nat.mul_comm (r 0)]
    exact this
  obtain ⟨s, e, p1, p2⟩ := zloop_cnt (body := fun x => bX7_dispose_65 c p (nI y) (nI ((r 3 + y) * ab 1 + r 2)) x.1 x.2) (fun i x => x.1 = nI i ∧ zsm (fun a => a = pa) σ x.2 ∧ zCV x.2 pa (zrS (ab 1) r cv (y * r 0 + i))) (r 0) (fun s => zsm (fun a => a = pa) σ s ∧ zCV s pa (zrS (ab 1) r cv ((y + 1) * r 0)))
    (fun i x hi hx => by
      obtain ⟨k, s⟩ := x
      obtain ⟨x1, x2, x3⟩ := hx
      dsimp only at x1 x2 x3
      subst x1
      have hSs := hS.of x2 npc
      have hPs := hP.of x2 npp hne
      have f0 : zi s p 1 = nI (r 0) := hPs.2.1 0 (by decide)
      have c1 : ¬ nI (r 0) ≤ nI i := by rw [nI_leI (by omega) (by omega)]; omega
      have hlt := toS_lt hr h1 h2 (i := y * r 0 + i) (by omega)
      have et := toS_eq (W := ab 1) (y := y) (r := r) hi
      have eidx : nI ((r 3 + y) * ab 1 + r 2) + nI i = nI (toS (ab 1) r (y * r 0 + i)) := by rw [nI_add, et]
      refine Or.inl ⟨(nI (i + 1), zuI s pa (toS (ab 1) r (y * r 0 + i)) 0), ?_, rfl, x2.uI rfl, fun t ht => ?_⟩
      · show bX7_dispose_65 c p (nI y) (nI ((r 3 + y) * ab 1 + r 2)) (nI i) s = _
        unfold bX7_dispose_65
        rw [oGI_eq hPs.1.1 f0, if_neg c1, oGR_eq hSs.1 hSs.2.1, eidx, oSt_eq hSs.2.2.1 (by rw [hSs.2.2.2.1]; exact hlt) (by omega), oL_eq, nI_1]
      · show zi (zuI s pa _ _) pa t = nI (zrS (ab 1) r cv (y * r 0 + i + 1) t)
        rw [zi_uI, zrS]
        unfold va_up
        by_cases q : t = toS (ab 1) r (y * r 0 + i)
        · rw [if_pos ⟨rfl, q⟩, if_pos q]; rfl
        · rw [if_neg (fun z => q z.2), if_neg q]; exact x3 t ht)
    (fun x hx => by
      obtain ⟨k, s⟩ := x
      obtain ⟨x1, x2, x3⟩ := hx
      dsimp only at x1 x2 x3
      subst x1
      have hPs := hP.of x2 npp hne
      refine ⟨s, ?_, x2, ?_⟩
      · show bX7_dispose_65 c p (nI y) (nI ((r 3 + y) * ab 1 + r 2)) (nI (r 0)) s = _
        unfold bX7_dispose_65
        rw [oGI_eq hPs.1.1 (hPs.2.1 0 (by decide)), if_pos (by rw [zle]; exact Int.le_refl _)]
      · rw [Nat.add_mul, Nat.one_mul]; exact x3) zF (0, σ) ⟨nI_0.symm, zsm.rf, by rw [Nat.add_zero]; exact hcv⟩ (by unfold zF; omega)
  exact ⟨s, e, p1, p2⟩
theorem oCp_eq {ρ : Type} {a b : Nat} {f : zS → Option ρ} (h1 : zk σ a = 21) (h2 : zk σ b = 21) (n1 : zn σ a = 256) (n2 : zn σ b = 256) : oCp σ a 0 b 0 256 f = f (zuC σ a 0 b 0 256) := by
  unfold oCp
  have e0 : (0 : Int32).toNatClampNeg = 0 := by decide
  have e256 : (256 : Int32).toNatClampNeg = 256 := by decide
  rw [e0, e256, if_pos ⟨h1, h2, by decide, by decide, by decide, by omega, by omega⟩]
theorem zCV_cp {a b : Nat} {cv : Nat → Nat} (h : zCV σ a cv) : zCV (zuC σ a 0 b 0 256) b cv := fun t ht => by
  rw [zuC_at, sb_cpy0 ht]
  exact h t ht
/-- after a frame -/
theorem s_dispose {c pa sa p fa : Nat} {ab r pf cv bf : Nat → Nat} (hS : SCL σ c pa (ab 1)) (hS1 : zr σ c 1 = some sa) (ksa : zk σ sa = 21) (nsa : zn σ sa = 256) (hP : PCC σ p fa r pf) (hne : fa ≠ pa) (hr : RGN ab r) (h1 : ab 1 ≤ 16) (h2 : ab 2 ≤ 16) (hcv : zCV σ pa cv) (hbf : zCV σ sa bf) :
    ∃ s, fX7_dispose σ c p = some s ∧ zsm (fun a => a = pa) σ s ∧ zCV s pa (if r 4 = 2 then bf else if r 4 = 1 then zrS (ab 1) r cv (r 0 * r 1) else cv) := by
  have hb := hr.b h1 h2
  have npc : c ≠ pa := fun e => by
    have q := hS.1
    rw [e, hS.2.2.1] at q
    exact absurd q (by decide)
  have npp : p ≠ pa := fun e => by
    have q := hP.1.1
    rw [e, hS.2.2.1] at q
    exact absurd q (by decide)
  have f4 : zi σ p 5 = nI (r 4) := hP.2.1 4 (by decide)
  have e2 : nI (r 4) = 2 ↔ r 4 = 2 := nI_eq (b := 2) (by omega) (by decide)
  have e1 : nI (r 4) = 1 ↔ r 4 = 1 := nI_eq (b := 1) (by omega) (by decide)
  unfold fX7_dispose
  rw [oGI_eq hP.1.1 f4]
  by_cases d2 : r 4 = 2
  · rw [if_pos (e2.mpr d2), oGR_eq hS.1 hS1, oGR_eq hS.1 hS.2.1, oCp_eq ksa hS.2.2.1 nsa hS.2.2.2.1, if_pos d2]
    exact ⟨_, rfl, zsm.uC zsm.rf rfl, zCV_cp hbf⟩
  · rw [if_neg (fun z => d2 (e2.mp z)), oGI_eq hP.1.1 f4, if_neg d2]
    by_cases d1 : r 4 = 1
    · rw [if_pos (e1.mpr d1), if_pos d1]
      obtain ⟨s, e, p1, p2⟩ := zloop_cnt (body := fun x => bX7_dispose_37 c p x.1 x.2) (fun y x => x.1 = nI y ∧ zsm (fun a => a = pa) σ x.2 ∧ zCV x.2 pa (zrS (ab 1) r cv (y * r 0))) (r 1) (fun s => zsm (fun a => a = pa) σ s ∧ zCV s pa (zrS (ab 1) r cv (r 0 * r 1)))
        (fun y x hy hx => by
          obtain ⟨k, s⟩ := x
          obtain ⟨x1, x2, x3⟩ := hx
          dsimp only at x1 x2 x3
          subst x1
          have hPs := hP.of x2 npp hne
          have hSs := hS.of x2 npc
          obtain ⟨s', e', m', c'⟩ := s_zrow hSs hPs hne hr h1 h2 hy x3
          have c1 : ¬ nI (r 1) ≤ nI y := by rw [nI_leI (by omega) (by omega)]; omega
          have f1 : zi s p 2 = nI (r 1) := hPs.2.1 1 (by decide)
          have f2 : zi s p 3 = nI (r 2) := hPs.2.1 2 (by decide)
          have f3 : zi s p 4 = nI (r 3) := hPs.2.1 3 (by decide)
          have ei : (nI (r 3) + nI y) * nI (ab 1) + nI (r 2) = nI ((r 3 + y) * ab 1 + r 2) := by rw [nI_add, pk_mul, nI_add]
          refine Or.inl ⟨(nI (y + 1), s'), ?_, rfl, x2.trans m', c'⟩
          show bX7_dispose_37 c p (nI y) s = _
          unfold bX7_dispose_37
          rw [oGI_eq hPs.1.1 f1, if_neg c1, oGI_eq hPs.1.1 f3, oGI_eq hSs.1 hSs.2.2.2.2, oGI_eq hPs.1.1 f2, oL_eq, ei, oB_eq e']
          dsimp only
          rw [oL_eq, nI_1])
        (fun x hx => by
          obtain ⟨k, s⟩ := x
          obtain ⟨x1, x2, x3⟩ := hx
          dsimp only at x1 x2 x3
          subst x1
          have hPs := hP.of x2 npp hne
          have f1 : zi s p 2 = nI (r 1) := hPs.2.1 1 (by decide)
          refine ⟨s, ?_, x2, by rw [Nat.mul_comm (r 0)]; exact x3⟩
          show bX7_dispose_37 c p (nI (r 1)) s = _
          unfold bX7_dispose_37
          rw [oGI_eq hPs.1.1 f1, if_pos (by rw [zle]; exact Int.le_refl _)]) zF (0, σ) ⟨nI_0.symm, zsm.rf, by rw [Nat.zero_mul]; exact hcv⟩ (by unfold zF; omega)
      exact ⟨s, by rw [oB_eq e], p1, p2⟩
    · rw [if_neg (fun z => d1 (e1.mp z)), if_neg d1]
      exact ⟨σ, rfl, zsm.rf, hcv⟩
end PSHOW
