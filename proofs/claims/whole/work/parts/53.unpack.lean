/-! sums; the whole of unpacking -/
def adlF (f : Nat → Nat) : Nat → Nat × Nat
  | 0 => (1, 0)
  | k + 1 => (((adlF f k).1 + f k) % 65521, ((adlF f k).2 + ((adlF f k).1 + f k) % 65521) % 65521)
def adlV (f : Nat → Nat) (k : Nat) : Nat := (adlF f k).2 * 65536 + (adlF f k).1
theorem adlF_lt (f : Nat → Nat) : ∀ k, (adlF f k).1 < 65521 ∧ (adlF f k).2 < 65521
  | 0 => ⟨by show 1 < 65521; decide, by show 0 < 65521; decide⟩
  | k + 1 => ⟨Nat.mod_lt _ (by decide), Nat.mod_lt _ (by decide)⟩
theorem oL_eq {α ρ : Type} {e : α} {f : α → Option ρ} : oL e f = f e := rfl
theorem zrem {a : Nat} (h : a < 2147483648) : nI a - nI a / (65521 : Int32) * (65521 : Int32) = nI (a % 65521) := pk_rem (d := 65521) h (by decide) (by decide)
theorem zsum16 {a b : Nat} (ha : a < 65536) (hb : b < 65536) : (nI b <<< ((16 : Int32) &&& 31)) ||| nI a = nI (b * 65536 + a) := by
  have e1 : nI b <<< ((16 : Int32) &&& 31) = nI (b * 2 ^ 16) := zshl (k := 16) (by decide) (by omega)
  rw [e1, zor, zadd_or (k := 16) (by omega)]
theorem znI_inj {a b : Nat} (ha : a < 4294967296) (hb : b < 4294967296) : nI a = nI b ↔ a = b := ⟨fun h => by
  have this : (nI a).toBitVec.toNat = (nI b).toBitVec.toNat := by rw [h]
  rw [zbv_nat ha, zbv_nat hb] at this
  exact this, fun h => by rw [h]⟩
theorem s_ofRaw {σ : zS} {b c N : Nat} {l : List Nat} (h : BL σ b c N l) {fr m : Nat} (hm : fr + m ≤ l.length) : fX8_ofRaw σ b (nI fr) (nI (fr + m)) = some (nI (adlV (fun k => l.getD (fr + k) 0) m)) := by
  have hl : l.length ≤ 20000 := Nat.le_trans h.1.2.2.2.2.2.1 h.1.2.2.2.2.2.2
  have te : (nI (fr + m)).toInt = ((fr + m : Nat) : Int) := zt_nI (by omega)
  have hz := zloop_seq (body := fun x => bX8_ofRaw_8 σ b (nI (fr + m)) x.1 x.2.1 x.2.2) (fun k => (nI (adlF (fun k => l.getD (fr + k) 0) k).1, nI (adlF (fun k => l.getD (fr + k) 0) k).2, nI (fr + k))) m (b := (nI (adlF (fun k => l.getD (fr + k) 0) m).1, nI (adlF (fun k => l.getD (fr + k) 0) m).2))
    (fun i hi => by
      have ti : (nI (fr + i)).toInt = ((fr + i : Nat) : Int) := zt_nI (by omega)
      have ha := s_atN h.1 (j := fr + i) (by omega)
      rw [h.2 _ (by omega)] at ha
      have hlt : l.getD (fr + i) 0 < 256 := h.lt (by omega)
      obtain ⟨q1, q2⟩ := adlF_lt (fun k => l.getD (fr + k) 0) i
      have q3 : ((adlF (fun k => l.getD (fr + k) 0) i).1 + l.getD (fr + i) 0) % 65521 < 65521 := Nat.mod_lt _ (by decide)
      have a1 : nI (fr + i) + 1 = nI (fr + (i + 1)) := nI_1 _
      unfold bX8_ofRaw_8
      simp only [oA, oB, oL, h.1.1, ha, zle, te, ti, nI_add, ↓reduceIte]
      rw [if_neg (by omega), zrem (by omega), nI_add, zrem (by omega), a1]
      rfl)
    (by
      unfold bX8_ofRaw_8
      simp only [zle, Int.le_refl, ↓reduceIte]) zF (by unfold zF; omega)
  unfold fX8_ofRaw
  have h0 : ((1 : Int32), (0 : Int32), nI fr) = (fun k => (nI (adlF (fun k => l.getD (fr + k) 0) k).1, nI (adlF (fun k => l.getD (fr + k) 0) k).2, nI (fr + k))) 0 := rfl
  rw [h0, oB_eq hz]
  obtain ⟨q1, q2⟩ := adlF_lt (fun k => l.getD (fr + k) 0) m
  dsimp only
  rw [zsum16 (by omega) (by omega)]
  rfl
def sumS (pk : List Nat) (p : Nat) (out : List Nat) : Prop := (p + 7) / 8 + 4 = pk.length ∧ zn4 (pb pk) ((p + 7) / 8) = adlV (fun k => out.getD k 0) out.length
noncomputable def blockS (pk : List Nat) (kind pos : Nat) (out : List Nat) : Option (Nat × List Nat) := if kind = 0 then plainS pk pos out else
  match codesS pk kind pos with
  | none => none
  | some (L, M, D, Dn, p1) => codedS pk L M D Dn p1 out
noncomputable def blocksF (pk : List Nat) : Nat → Nat → List Nat → Option (Nat × List Nat)
  | 0, _, _ => none
  | k + 1, pos, out => match takeS pk pos 3 with
    | none => none
    | some (h, p1) => match blockS pk (h / 2) p1 out with
      | none => none
      | some (p2, o2) => if h % 2 = 1 then some (p2, o2) else blocksF pk k p2 o2
noncomputable def unpackS (pk : List Nat) : Option (List Nat) := by
  classical
  exact if startS pk = true then
    match blocksF pk (8 * pk.length) 16 [] with
    | none => none
    | some (p, o) => if sumS pk p o then some o else none
    else none
section PUNPACK
variable {σ : zS} {A : Nat → Nat} {pk out : List Nat} {pos : Nat}
theorem UX.UF {A : Nat → Nat} {a : Nat} (h : UX A a) : UF A a := by
  rcases h with h | h | h
  · exact ⟨3, by decide, h⟩
  · exact ⟨4, by decide, h⟩
  · exact ⟨5, by decide, h⟩
theorem UD.UF {A : Nat → Nat} {a : Nat} (h : UD A a) : UF A a := by
  rcases h with h | ⟨i, -, h2, h⟩
  · exact ⟨0, by decide, h⟩
  · exact ⟨i, h2, h⟩
theorem u_ends (h : US σ A pk out pos) : ∃ r σ', fX9_endsWithSum σ (A 0) = some (r, σ') ∧ zsm (fun a => a = A 5) σ σ' ∧ ((sumS pk pos out ∧ r = 1 ∧ US σ' A pk out ((pos + 7) / 8 * 8)) ∨ (¬ sumS pk pos out ∧ r = 0)) := by
  obtain ⟨l1, l2, l3, l4, l5, l6, l7, l8, l9, l10, l11, l12, -⟩ := id h.1
  obtain ⟨σ1, e1, m1, h1⟩ := u_skip h
  have hp := h1.2.2.2.2
  have hpl := h.plen
  have hat : zi σ1 (A 5) 1 = nI ((pos + 7) / 8 * 8) := h1.2.2.2.1
  have hdv : nI ((pos + 7) / 8 * 8) / 8 = nI ((pos + 7) / 8) := by
    have : nI ((pos + 7) / 8 * 8) / 8 = nI ((pos + 7) / 8 * 8 / 8) := pk_div (d := 8) (by omega) (by decide) (by decide)
    rw [this, Nat.mul_div_cancel _ (by decide)]
  have hsz : zi σ1 (A 1) 1 = nI pk.length := h1.2.1.1.2.2.2.2.1
  have hsr : zi σ1 (A 3) 1 = nI out.length := h1.2.2.1.1.2.2.2.2.1
  have hsb : nI pk.length - nI ((pos + 7) / 8) = nI (pk.length - (pos + 7) / 8) := pk_sub (by omega)
  have h4 : nI (pk.length - (pos + 7) / 8) = 4 ↔ pk.length - (pos + 7) / 8 = 4 := nI_eq (b := 4) (by omega) (by decide)
  have hr0 := s_ofRaw h1.2.2.1 (fr := 0) (m := out.length) (by omega)
  have hr : fX8_ofRaw σ1 (A 3) 0 (nI out.length) = some (nI (adlV (fun k => out.getD k 0) out.length)) := by
    simp only [Nat.zero_add] at hr0
    exact hr0
  have kr : zk σ (A 1) = 2 := h.2.1.1.1
  have krr : zk σ (A 3) = 2 := h.2.2.1.1.1
  have hpre : gX9_endsWithSum σ (A 0) = if pk.length - (pos + 7) / 8 = 4 then oB (fX1_number σ1 (A 1) (nI ((pos + 7) / 8))) (fun x3 => (if x3 = nI (adlV (fun k => out.getD k 0) out.length) then some (1, σ1) else some (0, σ1))) else some (0, σ1) := by
    unfold gX9_endsWithSum
    simp only [oGR, oR, oGI, oA, oB, oL, l2, l5, l12, e1, m1.k, m1.r, l3, l4, kr, krr, hat, hdv, hsz, hsr, hsb, h4, hr, ↓reduceIte]
  by_cases c1 : pk.length - (pos + 7) / 8 = 4
  · have hnum := s_number h1.2.1.1 (i := (pos + 7) / 8) (by omega)
    have hcong : zn4 (zby σ1 (A 2)) ((pos + 7) / 8) = zn4 (pb pk) ((pos + 7) / 8) := by
      unfold zn4
      rw [h1.pb (by omega), h1.pb (by omega), h1.pb (by omega), h1.pb (by omega)]
    rw [hcong] at hnum
    rw [if_pos c1, oB_eq hnum] at hpre
    have hb4 : zn4 (pb pk) ((pos + 7) / 8) < 4294967296 := by
      have q : ∀ j, j < pk.length → pb pk j < 256 := fun j hj => h.2.1.lt hj
      have q1 := q ((pos + 7) / 8) (by omega)
      have q2 := q ((pos + 7) / 8 + 1) (by omega)
      have q3 := q ((pos + 7) / 8 + 2) (by omega)
      have q4 := q ((pos + 7) / 8 + 3) (by omega)
      unfold zn4
      omega
    have hba : adlV (fun k => out.getD k 0) out.length < 4294967296 := by
      obtain ⟨q1, q2⟩ := adlF_lt (fun k => out.getD k 0) out.length
      unfold adlV
      omega
    have hinj := znI_inj hb4 hba
    by_cases c2 : zn4 (pb pk) ((pos + 7) / 8) = adlV (fun k => out.getD k 0) out.length
    · refine ⟨1, σ1, ?_, m1, Or.inl ⟨⟨by omega, c2⟩, rfl, h1⟩⟩
      unfold fX9_endsWithSum
      rw [hpre, if_pos (hinj.mpr c2)]
      simp only [oC, oA, or_true, ↓reduceIte]
    · refine ⟨0, σ1, ?_, m1, Or.inr ⟨fun z => c2 z.2, rfl⟩⟩
      unfold fX9_endsWithSum
      rw [hpre, if_neg (fun z => c2 (hinj.mp z))]
      simp only [oC, oA, true_or, ↓reduceIte]
  · refine ⟨0, σ1, ?_, m1, Or.inr ⟨fun z => c1 (by have := z.1; omega), rfl⟩⟩
    unfold fX9_endsWithSum
    rw [hpre, if_neg c1]
    simp only [oC, oA, true_or, ↓reduceIte]
/-- a block of one of the four kinds -/
theorem u_block (h : US σ A pk out pos) {hd lst : Nat} {l2 l3 : Int32} (hh : hd < 8) : ∃ y, fX9_unpack_79 σ (A 0) l2 l3 (nI hd) (nI lst) = some y ∧ ((blockS pk (hd / 2) pos out = none ∧ ∃ s, y = .inr (.inr (0, s)) ∧ zsm (UF A) σ s) ∨ ∃ p' o' s, blockS pk (hd / 2) pos out = some (p', o') ∧ y = .inl (nI lst, l3 + 1, s) ∧ zsm (UF A) σ s ∧ US s A pk o' p') := by
  have l2' : zk σ (A 0) = 9 := h.1.2.1
  have hs : nI hd >>> ((1 : Int32) &&& 31) = nI (hd / 2) := zshr (k := 1) (by decide) (by omega)
  have hz : nI (hd / 2) = 0 ↔ hd / 2 = 0 := nI_eq (b := 0) (by omega) (by decide)
  unfold fX9_unpack_79
  rw [oL_eq, hs]
  unfold blockS
  by_cases c : hd / 2 = 0
  · rw [if_pos (hz.mpr c), if_pos c, oA_eq l2']
    obtain ⟨r, s, e, m, q⟩ := u_plain h
    rw [oC_eq e]
    rcases q with ⟨q1, q2⟩ | ⟨p', o', q1, q2, q3⟩
    · subst q2
      exact ⟨_, if_pos rfl, Or.inl ⟨q1, s, rfl, m.mono (fun a z => UX.UF z)⟩⟩
    · subst q2
      refine ⟨_, by rw [if_neg (by decide)]; rfl, Or.inr ⟨p', o', s, q1, rfl, m.mono (fun a z => UX.UF z), q3⟩⟩
  · rw [if_neg (fun z => c (hz.mp z)), if_neg c, oA_eq l2']
    obtain ⟨r, s, e, m, q⟩ := u_has h (kind := hd / 2) (by omega)
    rw [oC_eq e]
    rcases q with ⟨q1, q2⟩ | ⟨L, M, D, Dn, p1, q1, q2, q3, q4, q5, q6, q7⟩
    · subst q2
      rw [q1]
      exact ⟨_, if_pos rfl, Or.inl ⟨rfl, s, rfl, m.mono (fun a z => UD.UF z)⟩⟩
    · subst q2
      rw [q1, if_neg (by decide), oA_eq (by rw [m.k]; exact l2')]
      obtain ⟨r2, s2, e2, m2, w⟩ := u_coded q3 q4 q5 q6 q7
      have mm := (m.mono (fun a z => (UD.UF z : UF A a))).trans (m2.mono (fun a z => UX.UF z))
      rw [oC_eq e2]
      rcases w with ⟨w1, w2⟩ | ⟨p', o', w1, w2, w3⟩
      · subst w2
        exact ⟨_, if_pos rfl, Or.inl ⟨w1, s2, rfl, mm⟩⟩
      · subst w2
        refine ⟨_, by rw [if_neg (by decide)]; rfl, Or.inr ⟨p', o', s2, w1, rfl, mm, w3⟩⟩
theorem u_unpack (h : US σ A pk out pos) : ∃ r σ', fX9_unpack σ (A 0) = some (r, σ') ∧ zsm (UF A) σ σ' ∧ ((unpackS pk = none ∧ r = 0) ∨ ∃ o p', unpackS pk = some o ∧ r = 1 ∧ US σ' A pk o p') := by
  obtain ⟨l1, l2, l3, l4, l5, l6, l7, l8, l9, l10, l11, l12, -⟩ := id h.1
  obtain ⟨e1, b1, m1⟩ := s_clearL h.2.2.1
  have h1 : US (zuI σ (A 3) 1 0) A pk [] pos := ⟨h.1.of m1, h.2.1.of m1 (h.1.ne 1 3) (h.1.ne 2 3), b1, by rw [m1.i (h.1.ne 5 3)]; exact h.2.2.2.1, h.2.2.2.2⟩
  have m1' : zsm (UF A) σ (zuI σ (A 3) 1 0) := m1.mono (fun a z => ⟨3, by decide, z⟩)
  generalize zuI σ (A 3) 1 0 = σ1 at e1 b1 m1 h1 m1'
  have hst := u_start h1
  have hpl := h.plen
  have kr : zk σ (A 3) = 2 := h.2.2.1.1.1
  by_cases c0 : startS pk = true
  · have hlen : 2 ≤ pk.length := by
      unfold startS at c0
      simp only [Bool.and_eq_true, decide_eq_true_eq] at c0
      exact c0.1.1.1
    rw [if_pos c0] at hst
    have h2 : US (zuI σ1 (A 5) 1 (nI 16)) A pk [] 16 := h1.at (by omega)
    have m2' : zsm (UF A) σ (zuI σ1 (A 5) 1 (nI 16)) := m1'.uI ⟨5, by decide, rfl⟩
    generalize hσ2 : zuI σ1 (A 5) 1 (nI 16) = σ2 at h2 m2'
    have hsz : zi σ2 (A 1) 1 = nI pk.length := h2.2.1.1.2.2.2.2.1
    have e8 : nI pk.length * 8 = nI (8 * pk.length) := by
      have : nI pk.length * 8 = nI (pk.length * 8) := pk_mul _ 8
      rw [this, Nat.mul_comm]
    have t8 : (nI (8 * pk.length)).toInt = ((8 * pk.length : Nat) : Int) := zt_nI (by omega)
    obtain ⟨b, eb, hb⟩ := zloop_cnt (body := fun x => bX9_unpack_40 (A 0) (nI (8 * pk.length)) x.1 x.2.1 x.2.2)
      (fun i x => ∃ p' o', x.2.1 = nI i ∧ zsm (UF A) σ x.2.2 ∧ US x.2.2 A pk o' p' ∧ ((x.1 = 0 ∧ blocksF pk (8 * pk.length) 16 [] = blocksF pk (8 * pk.length - i) p' o') ∨ (x.1 = 1 ∧ blocksF pk (8 * pk.length) 16 [] = some (p', o')))) (8 * pk.length)
      (fun b => match b with
        | .inl c => zsm (UF A) σ c.2 ∧ ((c.1 = 0 ∧ blocksF pk (8 * pk.length) 16 [] = none) ∨ ∃ p' o', c.1 = 1 ∧ blocksF pk (8 * pk.length) 16 [] = some (p', o') ∧ US c.2 A pk o' p')
        | .inr r => zsm (UF A) σ r.2 ∧ r.1 = 0 ∧ blocksF pk (8 * pk.length) 16 [] = none)
      (fun i x hi hx => by
        obtain ⟨y1, y2, s⟩ := x
        obtain ⟨p', o', x1, x2, x3, x4⟩ := hx
        dsimp only at x1 x2 x3 x4
        subst x1
        have ti : (nI i).toInt = (i : Int) := zt_nI (by omega)
        have c1 : ¬ nI (8 * pk.length) ≤ nI i := by rw [zle, t8, ti]; omega
        rcases x4 with ⟨w1, w2⟩ | ⟨w1, w2⟩
        · subst w1
          have es : 8 * pk.length - i = (8 * pk.length - (i + 1)) + 1 := by omega
          rw [es, blocksF] at w2
          obtain ⟨v3, s3, e3, m3, q3⟩ := u_take x3 (m := 3) (by decide)
          have e3' : fX0_take s (A 5) 3 = some (v3, s3) := e3
          have mm3 := x2.trans (m3.mono (fun a z => (⟨5, by decide, z⟩ : UF A a)))
          have hpre : bX9_unpack_40 (A 0) (nI (8 * pk.length)) 0 (nI i) s = (if 0 ≤ v3 then (if (v3 &&& (1 : Int32)) = (1 : Int32) then fX9_unpack_79 s3 (A 0) (nI (8 * pk.length)) (nI i) v3 1 else fX9_unpack_79 s3 (A 0) (nI (8 * pk.length)) (nI i) v3 0) else some (.inr (.inr (0, s3)))) := by
            unfold bX9_unpack_40
            rw [if_neg c1, if_pos rfl, oGR_eq (by rw [x2.k]; exact l2) (by rw [x2.r]; exact l5), oA_eq (by rw [x2.k]; exact l12), oC_eq e3']
          rcases q3 with ⟨t3, r3, -⟩ | ⟨v, t3, r3, bv, h3⟩
          · rw [t3] at w2
            refine Or.inr ⟨.inr (0, s3), ?_, mm3, rfl, w2⟩
            rw [hpre, if_neg (by rw [r3]; decide)]
          · subst r3
            rw [t3] at w2
            dsimp only at w2
            have b8 : v < 8 := bv
            rw [if_pos (nI_pos' (by omega))] at hpre
            have ha1 : nI v &&& 1 = nI (v % 2) := pk_andN (by omega) 1 (by decide)
            have hae : nI (v % 2) = 1 ↔ v % 2 = 1 := nI_eq (b := 1) (by omega) (by decide)
            rw [ha1] at hpre
            have hlast : (if nI (v % 2) = (1 : Int32) then fX9_unpack_79 s3 (A 0) (nI (8 * pk.length)) (nI i) (nI v) 1 else fX9_unpack_79 s3 (A 0) (nI (8 * pk.length)) (nI i) (nI v) 0) = fX9_unpack_79 s3 (A 0) (nI (8 * pk.length)) (nI i) (nI v) (nI (v % 2)) := by
              by_cases z : v % 2 = 1
              · rw [if_pos (hae.mpr z), z]; rfl
              · rw [if_neg (fun q => z (hae.mp q)), show v % 2 = 0 by omega]; rfl
            rw [hlast] at hpre
            obtain ⟨y, ey, hy⟩ := u_block (l2 := nI (8 * pk.length)) (l3 := nI i) (lst := v % 2) h3 b8
            rcases hy with ⟨k1, s4, k2, k3⟩ | ⟨p4, o4, s4, k1, k2, k3, k4⟩
            · subst k2
              rw [k1] at w2
              exact Or.inr ⟨.inr (0, s4), by rw [hpre]; exact ey, mm3.trans k3, rfl, w2⟩
            · subst k2
              rw [k1] at w2
              dsimp only at w2
              refine Or.inl ⟨(nI (v % 2), nI i + 1, s4), by rw [hpre]; exact ey, p4, o4, nI_1 i, mm3.trans k3, k4, ?_⟩
              by_cases z : v % 2 = 1
              · rw [if_pos z] at w2
                exact Or.inr ⟨by rw [z]; rfl, w2⟩
              · rw [if_neg z] at w2
                exact Or.inl ⟨by rw [show v % 2 = 0 by omega]; rfl, w2⟩
        · subst w1
          refine Or.inr ⟨.inl (1, s), ?_, x2, Or.inr ⟨p', o', rfl, w2, x3⟩⟩
          unfold bX9_unpack_40
          simp only [c1, show ¬ ((1 : Int32) = 0) from by decide, ↓reduceIte])
      (fun x hx => by
        obtain ⟨y1, y2, s⟩ := x
        obtain ⟨p', o', x1, x2, x3, x4⟩ := hx
        dsimp only at x1 x2 x3 x4
        subst x1
        refine ⟨.inl (y1, s), ?_, x2, ?_⟩
        · unfold bX9_unpack_40
          simp only [zle, Int.le_refl, ↓reduceIte]
        · rcases x4 with ⟨w1, w2⟩ | ⟨w1, w2⟩
          · exact Or.inl ⟨w1, by rw [w2, Nat.sub_self, blocksF]⟩
          · exact Or.inr ⟨p', o', w1, w2, x3⟩) zF (0, 0, σ2) ⟨16, [], nI_0.symm, m2', h2, Or.inl ⟨rfl, by rw [Nat.sub_zero]⟩⟩ (by unfold zF; omega)
    have hpre : gX9_unpack σ (A 0) = oS b (fun c1 => (fun v4 σ7 => (if v4 = 0 then some (0, σ7) else oA (zk σ7 (A 0) = 9) (oC (fX9_endsWithSum σ7 (A 0)) (fun x7 σ8 => (if x7 = 0 then some (0, σ8) else some (1, σ8)))))) c1.1 c1.2) (fun r1 => some r1) := by
      have hp5 : ∀ f : zS → Option (Int32 × zS), oPI σ1 1 (A 5) 1 16 f = f σ2 := fun f => by
        unfold oPI
        rw [if_pos (by rw [m1'.k]; exact l12)]
        have : zuI σ1 (A 5) 1 16 = σ2 := hσ2
        rw [this]
      unfold gX9_unpack
      rw [oGR_eq l2 l4, oA_eq kr, oB_eq e1, oA_eq (by rw [m1'.k]; exact l2), oB_eq hst, if_neg (by decide), oGR_eq (by rw [m1'.k]; exact l2) (by rw [m1'.r]; exact l5), hp5, oGR_eq (by rw [m2'.k]; exact l2) (by rw [m2'.r]; exact l3), oGI_eq (by rw [m2'.k]; exact h.2.1.1.1) hsz]
      rw [oL_eq, e8, oB_eq eb]
    have hun : ∀ x, blocksF pk (8 * pk.length) 16 [] = x → unpackS pk = match x with
      | none => none
      | some (p, o) => @ite _ (sumS pk p o) (Classical.propDecidable _) (some o) none := fun x hx => by
      unfold unpackS
      rw [if_pos c0, hx]
    cases b with
    | inr r =>
      obtain ⟨r1, r2⟩ := r
      obtain ⟨p1, p2, p3⟩ := hb
      dsimp only at p1 p2
      subst p2
      refine ⟨0, r2, ?_, p1, Or.inl ⟨hun _ p3, rfl⟩⟩
      unfold fX9_unpack
      rw [hpre]
      simp only [oS, oC, oA, true_or, ↓reduceIte]
    | inl c =>
      obtain ⟨v4, σ7⟩ := c
      obtain ⟨p1, p2⟩ := hb
      dsimp only at p1 p2
      rcases p2 with ⟨q1, q2⟩ | ⟨p', o', q1, q2, q3⟩
      · subst q1
        refine ⟨0, σ7, ?_, p1, Or.inl ⟨hun _ q2, rfl⟩⟩
        unfold fX9_unpack
        rw [hpre]
        simp only [oS, oC, oA, true_or, ↓reduceIte]
      · subst q1
        obtain ⟨r8, σ8, e8', m8, c8⟩ := u_ends q3
        have m8' := p1.trans (m8.mono (fun a z => (⟨5, by decide, z⟩ : UF A a)))
        have hg : gX9_unpack σ (A 0) = if r8 = 0 then some (0, σ8) else some (1, σ8) := by
          rw [hpre]
          unfold oS
          dsimp only
          rw [if_neg (by decide), oA_eq (by rw [p1.k]; exact l2), oC_eq e8']
        rcases c8 with ⟨w1, w2, w3⟩ | ⟨w1, w2⟩
        · subst w2
          refine ⟨1, σ8, ?_, m8', Or.inr ⟨o', _, by rw [hun _ q2]; dsimp only; rw [if_pos w1], rfl, w3⟩⟩
          unfold fX9_unpack
          rw [hg, if_neg (by decide)]
          simp only [oC, oA, or_true, ↓reduceIte]
        · subst w2
          refine ⟨0, σ8, ?_, m8', Or.inl ⟨by rw [hun _ q2]; dsimp only; rw [if_neg w1], rfl⟩⟩
          unfold fX9_unpack
          rw [hg, if_pos rfl]
          simp only [oC, oA, true_or, ↓reduceIte]
  · rw [if_neg c0] at hst
    refine ⟨0, σ1, ?_, m1', Or.inl ⟨by unfold unpackS; rw [if_neg c0], rfl⟩⟩
    unfold fX9_unpack gX9_unpack
    rw [oGR_eq l2 l4, oA_eq kr, oB_eq e1, oA_eq (by rw [m1'.k]; exact l2), oB_eq hst, if_pos rfl]
    simp only [oC, oA, true_or, ↓reduceIte]
end PUNPACK
