/-! the reference's unpack -/
section PMONO
variable {pk : List Nat}
theorem symF_mono {p : Nat → Nat} {n pos M : Nat} {len : Nat → Nat} {x : Nat × Nat} : ∀ k l, symF p n pos len M k l = some x → pos + l ≤ x.2
  | 0, _, h => by cases h
  | k + 1, l, h => by
    rw [symF] at h
    split at h
    · split at h
      · cases h; exact Nat.le_refl _
      · have := symF_mono k (l + 1) h
        omega
    · cases h
theorem symS_mono {p : Nat → Nat} {n pos M : Nat} {len : Nat → Nat} {v p' : Nat} (h : symS p n pos len M = some (v, p')) : pos + 1 ≤ p' := symF_mono 15 1 h
theorem matchS_mono {D : Nat → Nat} {Dn k pos p' : Nat} {out o' : List Nat} (h : matchS pk D Dn k pos out = some (p', o')) : pos ≤ p' := by
  unfold matchS at h
  split at h
  · cases h
  · rename_i t1
    have g1 := (takeS_some t1).1
    split at h
    · cases h
    · rename_i t2
      have g2 := symS_mono t2
      split at h
      · split at h
        · cases h
        · rename_i t3
          have g3 := (takeS_some t3).1
          split at h
          · cases h; omega
          · cases h
      · cases h
theorem codedF_mono {L D : Nat → Nat} {M Dn : Nat} {x : Nat × List Nat} : ∀ k pos out, codedF pk L M D Dn k pos out = some x → pos ≤ x.1
  | 0, _, _, h => by rw [codedF] at h; cases h
  | k + 1, pos, out, h => by
    rw [codedF] at h
    split at h
    · cases h
    · rename_i y hy
      have ih := codedF_mono k _ _ h
      unfold codedT at hy
      split at hy
      · cases hy
      · rename_i t1
        have g1 := symS_mono t1
        split at hy
        · cases hy
        · split at hy
          · cases hy
          · split at hy
            · cases hy; dsimp only at ih; omega
            · split at hy
              · split at hy
                · cases hy
                · rename_i x2 hx2
                  cases hy
                  have := matchS_mono hx2
                  omega
              · cases hy
    · rename_i y hy
      cases h
      unfold codedT at hy
      split at hy
      · cases hy
      · rename_i t1
        have g1 := symS_mono t1
        split at hy
        · cases hy; dsimp only; omega
        · split at hy
          · cases hy
          · split at hy
            · cases hy
            · split at hy
              · split at hy
                · cases hy
                · cases hy
              · cases hy
theorem lensF_mono {tl : Nat → Nat} {all : Nat} {x : List Nat × Nat} : ∀ k ls pos, lensF pk tl all k ls pos = some x → pos ≤ x.2
  | 0, ls, pos, h => by
    rw [lensF] at h
    split at h
    · cases h; exact Nat.le_refl _
    · cases h
  | k + 1, ls, pos, h => by
    rw [lensF] at h
    split at h
    · cases h; exact Nat.le_refl _
    · split at h
      · cases h
      · rename_i t1
        have g1 := symS_mono t1
        split at h
        · cases h
        · split at h
          · cases h
          · rename_i t2
            have g2 := (takeS_some t2).1
            split at h
            · have := lensF_mono k _ _ h
              omega
            · cases h
theorem blockS_mono {kind pos p' : Nat} {out o' : List Nat} (h : blockS pk kind pos out = some (p', o')) : pos ≤ p' := by
  unfold blockS at h
  split at h
  · unfold plainS at h
    split at h
    · cases h
    · rename_i t1
      have g1 := (takeS_some t1).1
      split at h
      · cases h
      · rename_i t2
        have g2 := (takeS_some t2).1
        split at h
        · cases h; omega
        · cases h
  · split at h
    · cases h
    · rename_i L M D Dn p1 hc
      have g1 : p1 ≤ p' := codedF_mono _ _ _ h
      have g2 : pos ≤ p1 := by
        unfold codesS at hc
        split at hc
        · cases hc; exact Nat.le_refl _
        · split at hc
          · split at hc
            · cases hc
            · rename_i M2 Dn2 tl2 p2 ht
              split at hc
              · cases hc
              · rename_i ls2 p3 hl
                have g3 : p2 ≤ p3 := lensF_mono _ _ _ hl
                split at hc
                · cases hc
                  unfold tellS at ht
                  split at ht
                  · cases ht
                  · rename_i t1
                    have g4 := (takeS_some t1).1
                    split at ht
                    · cases ht; omega
                    · cases ht
                · cases hc
          · cases hc
      omega
end PMONO
/-- what waits to be unpacked -/
def zMP (σ : zS) (B : Nat → Nat) (pk : List Nat) : Prop := zML σ B ∧ (zi σ (B 0) 14 = nI pk.length ∧ pk.length ≤ 8000 ∧ ∀ j, j < pk.length → zi σ (B 8) j = sx (pk.getD j 0) ∧ pk.getD j 0 < 256)
theorem sx_all : ∀ n, n < 256 → ((sx n = 120 ↔ n = 120) ∧ sx n &&& 255 = nI n ∧ (((sx n >>> ((5 : Int32) &&& 31)) &&& 1) = 1 ↔ ¬ n / 32 % 2 = 0)) := by decide +kernel
section PMUNPACK
variable {σ : zS} {B : Nat → Nat} {pk out : List Nat} {pos : Nat}
/-- a block -/
theorem m_block (h : zMQ σ B pk out pos) (hb : zi σ (B 0) 18 = 0) {l : Int32} : ∃ s, fX12_unpack_104 σ (B 0) l = some (.inl (l, s)) ∧ zfr B σ s ∧ zMR s B pk (match takeS pk pos 2 with
    | none => none
    | some (kd, p1) => blockS pk kd p1 out) := by
  have k0 : zk σ (B 0) = 12 := h.1.2.1
  obtain ⟨r1, s1, e1, m1, f1, w1⟩ := m_bits h (m := 2) (by decide)
  have e1' : fX12_bits σ (B 0) 2 = some (r1, s1) := e1
  have z1 : zfs B σ s1 := ⟨m1, f1⟩
  have k1 : zk s1 (B 0) = 12 := by rw [m1.k]; exact k0
  have h123 : ∀ x : Option (Nat × List Nat), x = none → (∃ o p, zMQ s1 B pk o p) → ∃ s, fX12_unpack_123 s1 (B 0) l = some (.inl (l, s)) ∧ zfr B σ s ∧ zMR s B pk x := fun x hx hq => by
    refine ⟨zuI s1 (B 0) 18 1, ?_, z1.zfr.bad, zMR.bad hq hx⟩
    unfold fX12_unpack_123 fX12_unpack_158
    rw [oPZ_eq k1 (Or.inr rfl)]
  unfold fX12_unpack_104
  rw [oA_eq k0, oC_eq e1']
  rcases w1 with ⟨t1, t2, t3, t4⟩ | ⟨v, t1, t2, t3, t4, t5⟩
  · rw [oGI_eq k1 t3, if_neg (by decide), t1]
    exact h123 _ rfl ⟨_, _, t4⟩
  · subst t2
    have hb1 : zi s1 (B 0) 18 = 0 := t4.trans hb
    have v4 : v < 4 := t3
    have e3 : nI v = 3 ↔ v = 3 := nI_eq (b := 3) (by omega) (by decide)
    have e0 : nI v = 0 ↔ v = 0 := nI_eq (b := 0) (by omega) (by decide)
    have e11 : nI v = 1 ↔ v = 1 := nI_eq (b := 1) (by omega) (by decide)
    rw [oGI_eq k1 hb1, if_pos rfl, t1]
    dsimp only
    by_cases d3 : v = 3
    · rw [if_pos (e3.mpr d3)]
      refine h123 _ ?_ ⟨_, _, t5⟩
      unfold blockS codesS
      rw [if_neg (by omega), if_neg (by omega), if_neg (by omega)]
    · rw [if_neg (fun z => d3 (e3.mp z))]
      by_cases d0 : v = 0
      · rw [if_pos (e0.mpr d0), oA_eq k1]
        obtain ⟨s2, e2, z2, w2⟩ := m_plain t5 hb1
        refine ⟨s2, ?_, z1.zfr.trans z2.zfr, ?_⟩
        · rw [oB_eq e2]; rfl
        · unfold blockS
          rw [if_pos d0]
          exact w2
      · rw [if_neg (fun z => d0 (e0.mp z))]
        by_cases d1 : v = 1
        · rw [if_pos (e11.mpr d1), oA_eq k1]
          obtain ⟨s2, e2, z2, w2⟩ := m_fixed t5 hb1
          refine ⟨s2, ?_, z1.zfr.trans z2, ?_⟩
          · rw [oB_eq e2]; rfl
          · unfold blockS codesS
            rw [if_neg d0, if_pos d1]
            exact w2
        · rw [if_neg (fun z => d1 (e11.mp z)), oA_eq k1]
          obtain ⟨s2, e2, z2, w2⟩ := m_told t5 hb1
          refine ⟨s2, ?_, z1.zfr.trans z2, ?_⟩
          · rw [oB_eq e2]; rfl
          · rw [show v = 2 by omega]
            exact w2
/-- all blocks -/
theorem m_blocks (h : zMQ σ B pk [] 16) (hb : zi σ (B 0) 18 = 0) : ∃ s, zloop zF (fun x => bX12_unpack_79 (B 0) x.1 x.2) (0, σ) = some s ∧ zfr B σ s ∧ zMR s B pk (blocksF pk (8 * pk.length) 16 []) := by
  have k0 : zk σ (B 0) = 12 := h.1.2.1
  have hpl := h.2.1.2.1
  obtain ⟨s, e, p1, p2⟩ := zloop_cnt (body := fun x => bX12_unpack_79 (B 0) x.1 x.2)
    (fun i x => zfr B σ x.2 ∧ ((x.1 = 0 ∧ zi x.2 (B 0) 18 = 0 ∧ ∃ p o, zMQ x.2 B pk o p ∧ i + 1 ≤ p ∧ blocksF pk (8 * pk.length) 16 [] = blocksF pk (8 * pk.length - i) p o) ∨ ((x.1 = 1 ∨ (x.1 = 0 ∧ zi x.2 (B 0) 18 = 1)) ∧ zMR x.2 B pk (blocksF pk (8 * pk.length) 16 [])))) (8 * pk.length + 1)
    (fun s => zfr B σ s ∧ zMR s B pk (blocksF pk (8 * pk.length) 16 []))
    (fun i x hi hx => by
      obtain ⟨y, s⟩ := x
      obtain ⟨x1, x2⟩ := hx
      dsimp only at x1 x2
      have ks : zk s (B 0) = 12 := by rw [x1.1.k]; exact k0
      rcases x2 with ⟨q1, q2, p, o, q3, q4, q5⟩ | ⟨q1, q2⟩
      · subst q1
        have hp := q3.2.2.1.2.2
        have es : 8 * pk.length - i = (8 * pk.length - (i + 1)) + 1 := by omega
        rw [es, blocksF] at q5
        obtain ⟨r1, s1, e1, m1, f1, w1⟩ := m_bits q3 (m := 1) (by decide)
        have e1' : fX12_bits s (B 0) 1 = some (r1, s1) := e1
        have z1 : zfr B σ s1 := x1.trans (show zfs B s s1 from ⟨m1, f1⟩).zfr
        have k1 : zk s1 (B 0) = 12 := by rw [m1.k]; exact ks
        have hpre : bX12_unpack_79 (B 0) 0 s = (if r1 = (1 : Int32) then fX12_unpack_104 s1 (B 0) 1 else fX12_unpack_104 s1 (B 0) 0) := by
          unfold bX12_unpack_79
          rw [if_pos rfl, oGI_eq ks q2, if_pos rfl, oA_eq ks, oC_eq e1']
        rcases w1 with ⟨t1, t2, t3, t4⟩ | ⟨v, t1, t2, t3, t4, t5⟩
        · have hno := takeS_no t1
          have h3 : takeS pk p 3 = none := by unfold takeS; rw [if_neg (by omega)]
          rw [h3] at q5
          subst t2
          -- bad already: the block adds nothing
          obtain ⟨r2, s2, e2, z2, b2, p2, q6⟩ := m_bitsB t4 t3 (m := 2) (by decide)
          have e2' : fX12_bits s1 (B 0) 2 = some (r2, s2) := e2
          have k2 : zk s2 (B 0) = 12 := by rw [z2.1.k]; exact k1
          refine Or.inl ⟨(0, zuI s2 (B 0) 18 1), ?_, (z1.trans z2.zfr).bad, Or.inr ⟨Or.inr ⟨rfl, zi_bad⟩, zMR.bad ⟨_, _, q6⟩ q5⟩⟩
          show bX12_unpack_79 (B 0) 0 s = _
          rw [hpre, if_neg (by decide)]
          unfold fX12_unpack_104 fX12_unpack_123 fX12_unpack_158
          rw [oA_eq k1, oC_eq e2', oGI_eq k2 b2, if_neg (by decide), oPZ_eq k2 (Or.inr rfl)]
        · subst t2
          obtain ⟨y1, y2⟩ := takeS_at t1
          have hv2 : v < 2 := t3
          have hb1 : zi s1 (B 0) 18 = 0 := t4.trans q2
          have ev : nI v = 1 ↔ v = 1 := nI_eq (b := 1) (by omega) (by decide)
          have hlast : bX12_unpack_79 (B 0) 0 s = fX12_unpack_104 s1 (B 0) (nI v) := by
            rw [hpre]
            by_cases z : v = 1
            · rw [if_pos (ev.mpr z), z]; rfl
            · rw [if_neg (fun q => z (ev.mp q)), show v = 0 by omega]; rfl
          obtain ⟨s2, e2, z2, w2⟩ := m_block t5 hb1 (l := nI v)
          have z12 := z1.trans z2
          have hb5 : ∀ x, (match takeS pk (p + 1) 2 with
              | none => none
              | some (kd, p1) => blockS pk kd p1 o) = x → blocksF pk (8 * pk.length) 16 [] = match x with
                | none => none
                | some (p2, o2) => if v = 1 then some (p2, o2) else blocksF pk (8 * pk.length - (i + 1)) p2 o2 := fun x hx => by
            rw [q5]
            by_cases w : p + 3 ≤ 8 * pk.length
            · have h3 : takeS pk p 3 = some (v + numS (pb pk) (p + 1) 2 * 2, p + 3) := by
                unfold takeS
                rw [if_pos w]
                have : numS (pb pk) p 3 = numS (pb pk) p 1 + numS (pb pk) (p + 1) 2 * 2 ^ 1 := numS_add _ _ 1 2
                rw [this, ← y1]
              have h2 : takeS pk (p + 1) 2 = some (numS (pb pk) (p + 1) 2, p + 1 + 2) := by
                unfold takeS
                rw [if_pos (by omega)]
              rw [h3]
              dsimp only
              rw [show (v + numS (pb pk) (p + 1) 2 * 2) / 2 = numS (pb pk) (p + 1) 2 by omega, show (v + numS (pb pk) (p + 1) 2 * 2) % 2 = v by omega]
              rw [h2] at hx
              dsimp only at hx
              rw [show p + 1 + 2 = p + 3 by omega] at hx
              rw [hx]
              cases x with
              | none => rfl
              | some x => obtain ⟨a, b⟩ := x; rfl
            · have h3 : takeS pk p 3 = none := by unfold takeS; rw [if_neg w]
              have h2 : takeS pk (p + 1) 2 = none := by unfold takeS; rw [if_neg (by omega)]
              rw [h3]
              rw [h2] at hx
              dsimp only at hx
              subst hx
              rfl
          refine Or.inl ⟨(nI v, s2), ?_, z12, ?_⟩
          · show bX12_unpack_79 (B 0) 0 s = _
            rw [hlast, e2]
          · rcases w2 with ⟨u1, u2, u3⟩ | ⟨p', o', u1, u2, u3⟩
            · have hn := hb5 _ u1
              dsimp only at hn
              refine Or.inr ⟨?_, Or.inl ⟨hn, u2, u3⟩⟩
              by_cases z : v = 1
              · exact Or.inl (ev.mpr z)
              · exact Or.inr ⟨by show nI v = 0; rw [show v = 0 by omega]; rfl, u2⟩
            · have hn := hb5 _ u1
              dsimp only at hn
              by_cases z : v = 1
              · rw [if_pos z] at hn
                exact Or.inr ⟨Or.inl (ev.mpr z), Or.inr ⟨p', o', hn, u2, u3⟩⟩
              · rw [if_neg z] at hn
                refine Or.inl ⟨by show nI v = 0; rw [show v = 0 by omega]; rfl, u2, p', o', u3, ?_, hn⟩
                have hm : p + 1 ≤ p' := by
                  split at u1
                  · cases u1
                  · rename_i tk
                    have g1 := (takeS_some tk).1
                    have := blockS_mono u1
                    omega
                omega
      · refine Or.inr ⟨s, ?_, x1, q2⟩
        show bX12_unpack_79 (B 0) y s = _
        unfold bX12_unpack_79
        rcases q1 with q1 | ⟨q1, q3⟩
        · rw [q1, if_neg (by decide)]
        · rw [q1, if_pos rfl, oGI_eq ks q3, if_neg (by decide)])
    (fun x hx => by
      obtain ⟨y, s⟩ := x
      obtain ⟨x1, x2⟩ := hx
      dsimp only at x1 x2
      have ks : zk s (B 0) = 12 := by rw [x1.1.k]; exact k0
      rcases x2 with ⟨q1, q2, p, o, q3, q4, q5⟩ | ⟨q1, q2⟩
      · have hp := q3.2.2.1.2.2
        omega
      · refine ⟨s, ?_, x1, q2⟩
        show bX12_unpack_79 (B 0) y s = _
        unfold bX12_unpack_79
        rcases q1 with q1 | ⟨q1, q3⟩
        · rw [q1, if_neg (by decide)]
        · rw [q1, if_pos rfl, oGI_eq ks q3, if_neg (by decide)]) zF (0, σ) ⟨zfr.rf, Or.inl ⟨rfl, hb, 16, [], h, by decide, rfl⟩⟩ (by unfold zF; omega)
  exact ⟨s, e, p1, p2⟩
/-- the sum behind them -/
theorem m_adl (h : zMQ σ B pk out pos) : zloop zF (fun x => bX12_unpack_181 σ (B 0) x.1 x.2.1 x.2.2) (1, 0, 0) = some (nI (adlF (fun k => out.getD k 0) out.length).1, nI (adlF (fun k => out.getD k 0) out.length).2) := by
  obtain ⟨l0, l1, -, -, -, -, -, -, -, -, l10, -, -, -, -, -, -, -, -, -, -, ⟨k9, n9⟩, -⟩ := id h.1
  have ho := h.2.2.2.2.1
  have hsz : zi σ (B 0) 19 = nI out.length := h.2.2.2.1
  refine zloop_seq (fun i => (nI (adlF (fun k => out.getD k 0) i).1, nI (adlF (fun k => out.getD k 0) i).2, nI i)) out.length (fun i hi => ?_) ?_ zF (by unfold zF; omega)
  · obtain ⟨b1, b2⟩ := adlF_lt (fun k => out.getD k 0) i
    have c1 : ¬ nI out.length ≤ nI i := by rw [nI_leI (by omega) (by omega)]; omega
    have hby : zby σ (B 9) i = out.getD i 0 := h.2.2.2.2.2 i hi
    have hlt : out.getD i 0 < 256 := by rw [← hby]; exact zby_lt _ _ _
    have hx : zi σ (B 9) i &&& 255 = nI (out.getD i 0) := by rw [zby_and, hby]
    have hld : ∀ f : Int32 → Option ((Int32 × Int32 × Int32) ⊕ (Int32 × Int32)), oLd σ 20 (B 9) (nI i) f = f (zi σ (B 9) i) := fun f => oLd_eq k9 (by rw [n9]; omega) (by omega) rfl
    show bX12_unpack_181 σ (B 0) _ _ _ = _
    unfold bX12_unpack_181
    rw [oGI_eq l1 hsz, if_neg c1, oGR_eq l1 l10, hld, hx, oL_eq, oL_eq, oL_eq, nI_add, zrem (by omega), nI_add, zrem (by omega), nI_1]
    rfl
  · show bX12_unpack_181 σ (B 0) _ _ _ = _
    unfold bX12_unpack_181
    rw [oGI_eq l1 hsz, if_pos (by rw [zle]; exact Int.le_refl _)]
theorem m_sum4 (h : zMQ σ B pk out pos) {l2 l3 : Int32} {a : Nat} (hat : zi σ (B 0) 16 = nI a) (ha : a + 4 = pk.length) : zloop zF (fun x => bX12_unpack_246 σ (B 0) l2 l3 1 x.1 x.2) (0, 0) = some (nI (zn4 (pb pk) a)) := by
  obtain ⟨l0, l1, -, -, -, -, -, -, -, l9, -, -, -, -, -, -, -, -, -, -, ⟨k8, n8⟩, -⟩ := id h.1
  have hpl := h.2.1.2.1
  have hb : ∀ i, i < pk.length → pb pk i < 256 := fun i hi => (h.2.1.2.2 i hi).2
  have hx : ∀ i, i < pk.length → zi σ (B 8) i &&& 255 = nI (pb pk i) := fun i hi => by
    rw [zby_and, h.pb hi]
  have q0 := hb a (by omega)
  have q1 := hb (a + 1) (by omega)
  have q2 := hb (a + 2) (by omega)
  have q3 := hb (a + 3) (by omega)
  have step : ∀ n b, n < 16777216 → b < 256 → (nI n <<< ((8 : Int32) &&& 31)) ||| nI b = nI (n * 256 + b) := fun n b hn hbb => by
    have e : nI n <<< ((8 : Int32) &&& 31) = nI (n * 2 ^ 8) := zshl (k := 8) (by decide) (by omega)
    rw [e, zor, zadd_or (k := 8) hbb]
  refine zloop_seq (fun i => (match i with
    | 0 => ((0 : Int32), (0 : Int32))
    | 1 => (nI (pb pk a), nI 1)
    | 2 => (nI (pb pk a * 256 + pb pk (a + 1)), nI 2)
    | 3 => (nI ((pb pk a * 256 + pb pk (a + 1)) * 256 + pb pk (a + 2)), nI 3)
    | _ => (nI (((pb pk a * 256 + pb pk (a + 1)) * 256 + pb pk (a + 2)) * 256 + pb pk (a + 3)), nI 4))) 4 (fun i hi => ?_) ?_ zF (by unfold zF; decide)
  · have hld : ∀ k, k < 4 → ∀ f : Int32 → Option ((Int32 × Int32) ⊕ Int32), oLd σ 20 (B 8) (nI a + nI k) f = f (zi σ (B 8) (a + k)) := fun k hk f => by
      rw [nI_add]
      exact oLd_eq k8 (by rw [n8]; omega) (by omega) rfl
    have body : ∀ (k n : Nat) (v : Int32), k < 4 → n < 16777216 → v = nI n → bX12_unpack_246 σ (B 0) l2 l3 1 v (nI k) = some (.inl (nI (n * 256 + pb pk (a + k)), nI (k + 1))) := fun k n v hk hn hv => by
      subst hv
      have c4 : ¬ (4 : Int32) ≤ nI k := fun z => by
        have := (nI_leI (a := 4) (b := k) (by decide) (by omega)).mp z
        omega
      unfold bX12_unpack_246
      rw [if_neg c4, if_neg (by decide), oGR_eq l1 l9, oGI_eq l1 hat, hld k hk, hx _ (by omega), oL_eq, oL_eq, step n _ hn (hb _ (by omega)), nI_1]
    match i, hi with
    | 0, _ =>
      have := body 0 0 0 (by decide) (by decide) nI_0.symm
      rw [Nat.zero_mul, Nat.zero_add] at this
      exact this
    | 1, _ => exact body 1 _ _ (by decide) (by omega) rfl
    | 2, _ => exact body 2 _ _ (by decide) (by omega) rfl
    | 3, _ => exact body 3 _ _ (by decide) (by omega) rfl
  · show bX12_unpack_246 σ (B 0) l2 l3 1 (nI (((pb pk a * 256 + pb pk (a + 1)) * 256 + pb pk (a + 2)) * 256 + pb pk (a + 3))) (nI 4) = _
    unfold bX12_unpack_246
    have e4 : zn4 (pb pk) a = ((pb pk a * 256 + pb pk (a + 1)) * 256 + pb pk (a + 2)) * 256 + pb pk (a + 3) := by
      unfold zn4
      omega
    rw [if_pos (by decide), e4]
theorem m_unpack (h : zMP σ B pk) : ∃ r s, fX12_unpack σ (B 0) = some (r, s) ∧ zfr B σ s ∧ ((unpackS pk = none ∧ r = 0) ∨ ∃ o p, unpackS pk = some o ∧ r = 1 ∧ zMQ s B pk o p) := by
  obtain ⟨l0, l1, -, -, -, -, -, -, -, l9, -, -, -, -, -, -, -, -, -, -, ⟨k8, n8⟩, -⟩ := id h.1
  have hpl := h.2.2.1
  have hs2 : zsm (fun a => a = B 0) σ (zuI (zuI σ (B 0) 16 2) (B 0) 17 0) := zsm2
  have hf2 : ∀ j, j ≠ 16 → j ≠ 17 → zi (zuI (zuI σ (B 0) 16 2) (B 0) 17 0) (B 0) j = zi σ (B 0) j := fun j a b => by rw [zi_uI, if_neg (fun z => b z.2), zi_uI, if_neg (fun z => a z.2)]
  have i16 : zi (zuI (zuI σ (B 0) 16 2) (B 0) 17 0) (B 0) 16 = 2 := by rw [zi_uI, if_neg (by omega), zi_uI, if_pos ⟨rfl, rfl⟩]
  have i17 : zi (zuI (zuI σ (B 0) 16 2) (B 0) 17 0) (B 0) 17 = 0 := by rw [zi_uI, if_pos ⟨rfl, rfl⟩]
  have hg : ∀ f : zS → Option (Int32 × zS), oPI σ 12 (B 0) 16 2 (fun σ1 => oPI σ1 12 (B 0) 17 0 f) = f (zuI (zuI σ (B 0) 16 2) (B 0) 17 0) := fun f => by rw [oPI_eq l1, oPI_eq (by rw [zk_uI]; exact l1)]
  unfold fX12_unpack gX12_unpack
  rw [hg]
  generalize zuI (zuI σ (B 0) 16 2) (B 0) 17 0 = s2 at hs2 hf2 i16 i17
  have k2 : zk s2 (B 0) = 12 := by rw [hs2.k]; exact l1
  have z2 : zfs B σ s2 := ⟨hs2, fun j a b _ => hf2 j a b⟩
  have hq14 : zi s2 (B 0) 14 = nI pk.length := (hf2 14 (by decide) (by decide)).trans h.2.1
  have c2 : nI pk.length < 2 ↔ pk.length < 2 := nI_ltI (b := 2) (by omega) (by decide)
  have h64 : startS pk = false → ∃ r s, oC (fX12_unpack_64 s2 (B 0) (B 0)) (fun r s => oA (r = 0 ∨ r = 1) (some (r, s))) = some (r, s) ∧ zfr B σ s ∧ ((unpackS pk = none ∧ r = 0) ∨ ∃ o p, unpackS pk = some o ∧ r = 1 ∧ zMQ s B pk o p) := fun hst => by
    have kk : zk (zuI (zuI s2 (B 0) 18 1) (B 0) 19 0) (B 0) = 12 := by rw [zk_uI, zk_uI]; exact k2
    have bb : zi (zuI (zuI s2 (B 0) 18 1) (B 0) 19 0) (B 0) 18 = 1 := by rw [zi_uI, if_neg (by omega), zi_uI, if_pos ⟨rfl, rfl⟩]
    have e1 : bX12_unpack_79 (B 0) 0 (zuI (zuI s2 (B 0) 18 1) (B 0) 19 0) = some (.inr (zuI (zuI s2 (B 0) 18 1) (B 0) 19 0)) := by
      unfold bX12_unpack_79
      rw [if_pos rfl, oGI_eq kk bb, if_neg (by decide)]
    refine ⟨0, zuI (zuI s2 (B 0) 18 1) (B 0) 19 0, ?_, z2.zfr.bad.trans ⟨zsm.rf.uI (Or.inl rfl), fun j _ _ _ d => by rw [zi_uI, if_neg (fun z => d z.2)]⟩, Or.inl ⟨?_, rfl⟩⟩
    · unfold fX12_unpack_64 fX12_unpack_69
      rw [oPZ_eq k2 (Or.inr rfl), oPI_eq (by rw [zk_uI]; exact k2), oB_eq (zloop_one (body := fun x => bX12_unpack_79 (B 0) x.1 x.2) (x := (0, zuI (zuI s2 (B 0) 18 1) (B 0) 19 0)) e1)]
      dsimp only
      rw [oGI_eq kk bb, if_neg (by decide)]
      rfl
    · unfold unpackS
      rw [if_neg (by rw [hst]; decide)]
  rw [oGI_eq k2 hq14]
  by_cases d0 : pk.length < 2
  · rw [if_pos (c2.mpr d0)]
    refine h64 ?_
    unfold startS
    rw [show decide (2 ≤ pk.length) = false by rw [decide_eq_false_iff_not]; omega]
    rfl
  · rw [if_neg (fun z => d0 (c2.mp z))]
    have h2l : 2 ≤ pk.length := by omega
    have r15 : zr s2 (B 0) 15 = some (B 8) := by rw [hs2.r]; exact l9
    obtain ⟨v0, b0⟩ := h.2.2.2 0 (by omega)
    obtain ⟨v1, b1⟩ := h.2.2.2 1 (by omega)
    have n80 : B 8 ≠ B 0 := h.1.ne 8 0
    obtain ⟨x0, -, -⟩ := sx_all _ b0
    obtain ⟨-, x1, x2⟩ := sx_all _ b1
    obtain ⟨-, y2⟩ := zstart _ b1
    have ld0 : ∀ f : Int32 → Option (Int32 × zS), oLd s2 20 (B 8) 0 f = f (sx (pk.getD 0 0)) := fun f => oLd_eq (n := 0) (by rw [hs2.k]; exact k8) (by rw [hs2.n, n8]; decide) (by decide) (by rw [hs2.i n80]; exact v0)
    have ld1 : ∀ f : Int32 → Option (Int32 × zS), oLd s2 20 (B 8) 1 f = f (sx (pk.getD 1 0)) := fun f => oLd_eq (n := 1) (by rw [hs2.k]; exact k8) (by rw [hs2.n, n8]; decide) (by decide) (by rw [hs2.i n80]; exact v1)
    rw [oGR_eq k2 r15, ld0]
    have hfalse : ∀ (P : ¬ (pk.getD 0 0 = 120 ∧ pk.getD 1 0 / 32 % 2 = 0 ∧ (30720 + pk.getD 1 0) % 31 = 0)), startS pk = false := fun P => by
      rw [Bool.eq_false_iff]
      intro z
      unfold startS at z
      simp only [Bool.and_eq_true, decide_eq_true_eq] at z
      exact P ⟨z.1.1.2, z.1.2, z.2⟩
    by_cases d1 : pk.getD 0 0 = 120
    · rw [if_pos (x0.mpr d1), oGR_eq k2 r15, ld1, x1]
      by_cases d2 : (30720 + pk.getD 1 0) % 31 = 0
      · rw [if_pos (y2.mpr d2), oGR_eq k2 r15, ld1]
        by_cases d3 : pk.getD 1 0 / 32 % 2 = 0
        · rw [if_neg (fun z => (x2.mp z) d3)]
          have hst : startS pk = true := by
            unfold startS
            simp only [Bool.and_eq_true, decide_eq_true_eq]
            exact ⟨⟨⟨h2l, d1⟩, d3⟩, d2⟩
          have hun : ∀ x, blocksF pk (8 * pk.length) 16 [] = x → unpackS pk = match x with
            | none => none
            | some (p, o) => @ite _ (sumS pk p o) (Classical.propDecidable _) (some o) none := fun x hx => by
            unfold unpackS
            rw [if_pos hst, hx]
            rfl
          have zz4 : zfr B σ (zuI (zuI s2 (B 0) 18 0) (B 0) 19 0) := z2.zfr.bad.trans ⟨zsm.rf.uI (Or.inl rfl), fun j _ _ _ d => by rw [zi_uI, if_neg (fun z => d z.2)]⟩
          have hq4 : zMQ (zuI (zuI s2 (B 0) 18 0) (B 0) 19 0) B pk [] 16 := by
            have hss : zsm (fun a => a = B 0) σ (zuI (zuI s2 (B 0) 18 0) (B 0) 19 0) := (zsm.uI (S := fun a => a = B 0) (zsm.uI (S := fun a => a = B 0) hs2 rfl) rfl)
            refine ⟨h.1.of hss, ⟨?_, hpl, fun j hj => by rw [hss.i n80]; exact h.2.2.2 j hj⟩, ⟨?_, ?_, by omega⟩, ⟨?_, by simp, fun j hj => absurd hj (Nat.not_lt_zero j)⟩⟩
            · rw [zi_uI, if_neg (by omega), zi_uI, if_neg (by omega)]; exact hq14
            · rw [zi_uI, if_neg (by omega), zi_uI, if_neg (by omega), i16]; rfl
            · rw [zi_uI, if_neg (by omega), zi_uI, if_neg (by omega), i17]; rfl
            · rw [zi_uI, if_pos ⟨rfl, rfl⟩]; rfl
          have hb4 : zi (zuI (zuI s2 (B 0) 18 0) (B 0) 19 0) (B 0) 18 = 0 := by rw [zi_uI, if_neg (by omega), zi_uI, if_pos ⟨rfl, rfl⟩]
          unfold fX12_unpack_69
          rw [oPZ_eq k2 (Or.inl rfl), oPI_eq (by rw [zk_uI]; exact k2)]
          generalize zuI (zuI s2 (B 0) 18 0) (B 0) 19 0 = s4 at zz4 hq4 hb4
          obtain ⟨s5, e5, z5, w5⟩ := m_blocks hq4 hb4
          have z45 := zz4.trans z5
          have k5 : zk s5 (B 0) = 12 := by rw [z45.1.k]; exact l1
          rw [oB_eq e5]
          dsimp only
          rcases w5 with ⟨u1, u2, u3⟩ | ⟨p', o', u1, u2, u3⟩
          · rw [oGI_eq k5 u2, if_neg (by decide)]
            exact ⟨0, s5, rfl, z45, Or.inl ⟨hun _ u1, rfl⟩⟩
          · obtain ⟨s6, e6, m6, f6, h6⟩ := m_even u3
            have z6 : zfr B σ s6 := z45.trans (show zfs B s5 s6 from ⟨m6, fun j a b _ => f6 j a b⟩).zfr
            have k6 : zk s6 (B 0) = 12 := by rw [m6.k]; exact k5
            have hadl := m_adl h6
            obtain ⟨a1, a2⟩ := adlF_lt (fun k => o'.getD k 0) o'.length
            have hp6 := h6.2.2.1.2.2
            have q16 : zi s6 (B 0) 16 = nI ((p' + 7) / 8) := by
              have := h6.2.2.1.1
              rw [Nat.mul_div_cancel _ (by decide)] at this
              exact this
            have q14 : zi s6 (B 0) 14 = nI pk.length := h6.2.1.1
            have a4 : nI ((p' + 7) / 8) + 4 = nI ((p' + 7) / 8 + 4) := nI_add _ 4
            have ceq : nI pk.length = nI ((p' + 7) / 8 + 4) ↔ pk.length = (p' + 7) / 8 + 4 := nI_eq (by omega) (by omega)
            rw [oGI_eq k5 u2, if_pos rfl, oA_eq k5, oB_eq e6, oB_eq hadl]
            dsimp only
            rw [oGI_eq k6 q14, oGI_eq k6 q16, a4]
            have hu := hun _ u1
            dsimp only at hu
            by_cases d4 : pk.length = (p' + 7) / 8 + 4
            · rw [if_pos (ceq.mpr d4)]
              have hs4 := m_sum4 (l2 := nI (adlF (fun k => o'.getD k 0) o'.length).1) (l3 := nI (adlF (fun k => o'.getD k 0) o'.length).2) h6 q16 d4.symm
              unfold fX12_unpack_238
              rw [oB_eq hs4]
              dsimp only
              rw [if_neg (by decide), zsum16 (by omega) (by omega)]
              have hbz : zn4 (pb pk) ((p' + 7) / 8) < 4294967296 := by
                have q : ∀ j, j < pk.length → pb pk j < 256 := fun j hj => (h.2.2.2 j hj).2
                have q1 := q ((p' + 7) / 8) (by omega)
                have q2 := q ((p' + 7) / 8 + 1) (by omega)
                have q3 := q ((p' + 7) / 8 + 2) (by omega)
                have q4 := q ((p' + 7) / 8 + 3) (by omega)
                unfold zn4
                omega
              have hinj := znI_inj hbz (b := (adlF (fun k => o'.getD k 0) o'.length).2 * 65536 + (adlF (fun k => o'.getD k 0) o'.length).1) (by omega)
              by_cases d5 : zn4 (pb pk) ((p' + 7) / 8) = (adlF (fun k => o'.getD k 0) o'.length).2 * 65536 + (adlF (fun k => o'.getD k 0) o'.length).1
              · rw [if_pos (hinj.mpr d5)]
                exact ⟨1, s6, rfl, z6, Or.inr ⟨o', _, by rw [hu, if_pos ⟨d4.symm, d5⟩], rfl, h6⟩⟩
              · rw [if_neg (fun z => d5 (hinj.mp z))]
                exact ⟨0, s6, rfl, z6, Or.inl ⟨by rw [hu, if_neg (fun z => d5 z.2)], rfl⟩⟩
            · rw [if_neg (fun z => d4 (ceq.mp z))]
              have e0 : bX12_unpack_246 s6 (B 0) (nI (adlF (fun k => o'.getD k 0) o'.length).1) (nI (adlF (fun k => o'.getD k 0) o'.length).2) 0 0 0 = some (.inr 0) := by
                unfold bX12_unpack_246
                rw [if_neg (by decide), if_pos rfl]
              unfold fX12_unpack_238
              rw [oB_eq (zloop_one (body := fun x => bX12_unpack_246 s6 (B 0) (nI (adlF (fun k => o'.getD k 0) o'.length).1) (nI (adlF (fun k => o'.getD k 0) o'.length).2) 0 x.1 x.2) (x := (0, 0)) e0)]
              dsimp only
              rw [if_pos rfl]
              exact ⟨0, s6, rfl, z6, Or.inl ⟨by rw [hu, if_neg (fun z => d4 z.1.symm)], rfl⟩⟩
        · rw [if_pos (x2.mpr d3)]
          exact h64 (hfalse (fun z => d3 z.2.1))
      · rw [if_neg (fun z => d2 (y2.mp z))]
        exact h64 (hfalse (fun z => d2 z.2.2))
    · rw [if_neg (fun z => d1 (x0.mp z))]
      exact h64 (hfalse (fun z => d1 z.1))
end PMUNPACK
