/-! reading, the middle: a state is place, chunk before, serial, told, has data, about, regions, pixels, packed -/
abbrev zRS : Type := Nat × Int32 × Nat × Nat × Nat × (Nat → Nat) × (Nat → Nat → Nat) × (Nat → Nat → Nat) × List Nat
def nmS (tp : List Nat) (i : Nat) : Int32 := nI (zn4 (fun j => tp.getD j 0) i)
def prtS (tp : List Nat) (fr m : Nat) : List Nat := (tp.drop fr).take m
def ltrS (b : Nat) : Prop := (65 ≤ b ∧ b ≤ 90) ∨ (97 ≤ b ∧ b ≤ 122)
def letS (tp : List Nat) (f : Nat) : Prop := 97 ≤ tp.getD f 0 ∧ ltrS (tp.getD f 0) ∧ ltrS (tp.getD (f + 1) 0) ∧ ltrS (tp.getD (f + 2) 0) ∧ ltrS (tp.getD (f + 3) 0)
def okH (tp : List Nat) (f : Nat) : Prop := ((1 ≤ (nmS tp f).toInt ∧ (nmS tp f).toInt ≤ 16) ∧ (1 ≤ (nmS tp (f + 4)).toInt ∧ (nmS tp (f + 4)).toInt ≤ 16)) ∧ tp.getD (f + 8) 0 = 8 ∧ tp.getD (f + 9) 0 = 6 ∧ tp.getD (f + 10) 0 = 0 ∧ tp.getD (f + 11) 0 = 0 ∧ tp.getD (f + 12) 0 = 0
def alC (tp : List Nat) (f : Nat) (ab : Nat → Nat) : Prop := alw (ab 1) (ab 2) (nmS tp (f + 4)) (nmS tp (f + 8)) (nmS tp (f + 12)) (nmS tp (f + 16)) (nI (tp.getD (f + 24) 0)) (nI (tp.getD (f + 25) 0))
def okC (tp : List Nat) (f ser : Nat) (ab : Nat → Nat) (hd : Nat) : Prop := nmS tp f = nI ser ∧ alC tp f ab ∧ (hd = 0 → (nmS tp (f + 4)).toInt.toNat = ab 1 ∧ (nmS tp (f + 8)).toInt.toNat = ab 2)
def rgC (tp : List Nat) (f : Nat) : Nat → Nat := frg (nmS tp (f + 4)) (nmS tp (f + 8)) (nmS tp (f + 12)) (nmS tp (f + 16)) (nI (tp.getD (f + 24) 0)) (nI (tp.getD (f + 25) 0))
def abC (ab : Nat → Nat) (hd : Nat) : Nat → Nat := fun k => if k = 4 then ab 4 + 1 else if k = 5 then (if hd = 0 then 1 else ab 5) else ab k
def abP (ab : Nat → Nat) (p : Nat) : Nat → Nat := fun k => if k = 3 then p else ab k
/-- the sort of a chunk: 1 IDAT, 2 fdAT, 3 fcTL, 4 IHDR, 5 acTL, 6 IEND, 0 none, 7 another -/
def kd (t : Int32) : Nat := if t = 0 then 0 else if t = 1229209940 then 1 else if t = 1717846356 then 2 else if t = 1717785676 then 3 else if t = 1229472850 then 4 else if t = 1633899596 then 5 else if t = 1229278788 then 6 else 7
def Fn (k hd : Nat) (ab : Nat → Nat) (f : Nat) : Prop := (f < ab 4 ∧ ¬ ((k = 3 ∨ k = 2) ∧ f + 1 = ab 4) ∧ ¬ (k = 1 ∧ ab 5 = 1)) ∨ (f = 8 ∧ ab 5 = 0 ∧ hd = 1 ∧ k ≠ 1)
def gsR (k : Nat) (ab : Nat → Nat) : Nat := if k = 1 then dfP ab else ab 4 - 1
noncomputable def takK (tp : List Nat) (kb kt : Nat) (ty : Int32) (m q ser tl hd : Nat) (ab : Nat → Nat) (rg px : Nat → Nat → Nat) (pk : List Nat) : Option zRS := by
  classical
  exact
    if kb = 0 then (if kt = 4 ∧ m = 13 ∧ okH tp (q + 8) then some (q + 12 + m, ty, ser, tl, hd, abB (nmS tp (q + 8)).toInt.toNat (nmS tp (q + 8 + 4)).toInt.toNat 0, rg, px, pk) else none)
    else if kt = 1 then (if tl = 0 ∨ (hd = 1 ∧ kb ≠ 1) then none else some (q + 12 + m, ty, ser, tl, 1, ab, rg, px, (if hd = 0 then [] else pk) ++ prtS tp (q + 8) m))
    else if kt = 6 then (if m = 0 ∧ hd = 1 ∧ kb ≠ 3 ∧ ab 4 = tl then some (q + 12 + m, ty, ser, tl, hd, ab, rg, px, pk) else none)
    else if kt = 4 then none
    else if kt = 5 then (if m = 8 ∧ tl = 0 ∧ hd = 0 ∧ 1 ≤ (nmS tp (q + 8)).toInt ∧ (nmS tp (q + 8)).toInt ≤ 8 then some (q + 12 + m, ty, ser, (nmS tp (q + 8)).toInt.toNat, hd, abP ab (zn4 (fun j => tp.getD j 0) (q + 8 + 4)), rg, px, pk) else none)
    else if kt = 3 then (if m = 26 ∧ kb ≠ 3 ∧ ab 4 < tl ∧ okC tp (q + 8) ser ab hd then some (q + 12 + m, ty, ser + 1, tl, hd, abC ab hd, rgF rg (ab 4) (rgC tp (q + 8)), px, pk) else none)
    else if kt = 2 then (if 4 ≤ m ∧ hd = 1 ∧ (kb = 3 ∨ kb = 2) ∧ nmS tp (q + 8) = nI ser then some (q + 12 + m, ty, ser + 1, tl, hd, ab, rg, px, (if kb = 3 then [] else pk) ++ prtS tp (q + 12) (m - 4)) else none)
    else (if kb ≠ 3 ∧ letS tp (q + 4) then some (q + 12 + m, ty, ser, tl, hd, ab, rg, px, pk) else none)
noncomputable def takS (tp : List Nat) (ty : Int32) (m : Nat) : zRS → Option zRS
  | (q, bf, ser, tl, hd, ab, rg, px, pk) => takK tp (kd bf) (kd ty) ty m q ser tl hd ab rg px pk
def clW (k : Nat) (ab : Nat → Nat) (rg : Nat → Nat → Nat) : Nat := if k = 1 then ab 1 else rg (ab 4 - 1) 0
def clH (k : Nat) (ab : Nat → Nat) (rg : Nat → Nat → Nat) : Nat := if k = 1 then ab 2 else rg (ab 4 - 1) 1
def pxN (px : Nat → Nat → Nat) (g : Nat) (pf : Nat → Nat) : Nat → Nat → Nat := fun f i => if f = g then pf i else px f i
def clC (bf ty : Int32) : Prop := ty ≠ bf ∧ (kd bf = 1 ∨ kd bf = 2)
noncomputable def clsS (ty : Int32) : zRS → Int32 ⊕ zRS
  | (q, bf, ser, tl, hd, ab, rg, px, pk) => by
    classical
    exact
      if clC bf ty then
        match unpackS pk with
        | none => .inl 5
        | some o => match rowsS (clW (kd bf) ab rg) (clH (kd bf) ab rg) o with
          | none => .inl 6
          | some g => .inr (q, bf, ser, tl, hd, ab, rg, pxN px (gsR (kd bf) ab) (pxS (clW (kd bf) ab rg) g), pk)
      else .inr (q, bf, ser, tl, hd, ab, rg, px, pk)
def tooS (tp : List Nat) (q : Nat) : Prop := tp.length < q + 12 ∨ (nmS tp q).toInt < 0 ∨ (tp.length : Int) < (q : Int) + 12 + (nmS tp q).toInt
def lnS (tp : List Nat) (q : Nat) : Nat := (nmS tp q).toInt.toNat
noncomputable def stepS (tp : List Nat) (R : zRS) : (Int32 × Nat) ⊕ zRS := by
  classical
  exact
    if tooS tp R.1 then .inl (2, tp.length)
    else if crX (fun k => tp.getD (R.1 + 4 + k) 0) (4 + lnS tp R.1) ^^^ (-1) = nmS tp (R.1 + 8 + lnS tp R.1) then
      match clsS (nmS tp (R.1 + 4)) R with
      | .inl f => .inl (f, R.1 + 4)
      | .inr R1 => match takS tp (nmS tp (R.1 + 4)) (lnS tp R.1) R1 with
        | none => .inl (4, R.1 + 4)
        | some R2 => .inr R2
    else .inl (3, R.1 + 4)
def WFk (tp : List Nat) (kb q ser tl hd : Nat) (ab : Nat → Nat) (rg : Nat → Nat → Nat) (pk : List Nat) : Prop :=
    (q ≤ tp.length ∧ ser ≤ q ∧ tl ≤ 8 ∧ hd ≤ 1 ∧ 8 ≤ q ∧ (kb = 0 ↔ q = 8)) ∧ (kb = 0 → ser = 0 ∧ tl = 0 ∧ hd = 0) ∧ (kb ≠ 0 → WFr ab rg ∧ ab 0 = 1 ∧ ab 4 ≤ tl ∧ ab 5 ≤ ab 4) ∧ (hd = 1 → tl ≠ 0) ∧
    (hd = 0 → kb ≠ 0 → (ab 4 = 0 ∧ ab 5 = 0 ∧ kb ≠ 3) ∨ (kb = 3 ∧ ab 4 = 1 ∧ ab 5 = 1)) ∧ (kb = 1 → hd = 1 ∧ ab 4 = ab 5) ∧ (kb = 2 → hd = 1 ∧ ab 5 < ab 4) ∧ (kb = 3 → 0 < ab 4 ∧ (hd = 1 → ab 5 < ab 4)) ∧ (kb = 1 ∨ kb = 2 → pk.length ≤ q)
def WFS (tp : List Nat) : zRS → Prop
  | (q, bf, ser, tl, hd, ab, rg, _, pk) => WFk tp (kd bf) q ser tl hd ab rg pk
def FnR : zRS → Nat → Prop
  | (_, bf, _, _, hd, ab, _, _, _) => Fn (kd bf) hd ab
theorem kd0 (t : Int32) : kd t = 0 ↔ t = 0 := by
  unfold kd
  by_cases h : t = 0
  · rw [if_pos h]; exact ⟨fun _ => h, fun _ => rfl⟩
  · rw [if_neg h]
    refine ⟨fun z => ?_, fun z => absurd z h⟩
    split at z
    · omega
    · split at z
      · omega
      · split at z
        · omega
        · split at z
          · omega
          · split at z
            · omega
            · split at z <;> omega
theorem kdv (t : Int32) : (kd t = 1 ↔ t = 1229209940) ∧ (kd t = 2 ↔ t = 1717846356) ∧ (kd t = 3 ↔ t = 1717785676) ∧ (kd t = 4 ↔ t = 1229472850) ∧ (kd t = 5 ↔ t = 1633899596) ∧ (kd t = 6 ↔ t = 1229278788) := by
  unfold kd
  by_cases h0 : t = 0
  · subst h0; decide
  · by_cases h1 : t = 1229209940
    · subst h1; decide
    · by_cases h2 : t = 1717846356
      · subst h2; decide
      · by_cases h3 : t = 1717785676
        · subst h3; decide
        · by_cases h4 : t = 1229472850
          · subst h4; decide
          · by_cases h5 : t = 1633899596
            · subst h5; decide
            · by_cases h6 : t = 1229278788
              · subst h6; decide
              · simp only [h0, h1, h2, h3, h4, h5, h6, if_false]
                decide
theorem prtS_len {tp : List Nat} {fr m : Nat} (h : fr + m ≤ tp.length) : (prtS tp fr m).length = m := by
  unfold prtS
  rw [List.length_take, List.length_drop]
  omega
theorem frg_v (w h x y d b : Int32) : frg w h x y d b 0 = w.toInt.toNat ∧ frg w h x y d b 1 = h.toInt.toNat ∧ frg w h x y d b 2 = x.toInt.toNat ∧ frg w h x y d b 3 = y.toInt.toNat ∧ frg w h x y d b 4 = d.toInt.toNat ∧ frg w h x y d b 5 = b.toInt.toNat := ⟨rfl, rfl, rfl, rfl, rfl, rfl⟩
theorem rgC_v (tp : List Nat) (f : Nat) : rgC tp f 0 = (nmS tp (f + 4)).toInt.toNat ∧ rgC tp f 1 = (nmS tp (f + 8)).toInt.toNat ∧ rgC tp f 2 = (nmS tp (f + 12)).toInt.toNat ∧ rgC tp f 3 = (nmS tp (f + 16)).toInt.toNat ∧ rgC tp f 4 = (nI (tp.getD (f + 24) 0)).toInt.toNat ∧ rgC tp f 5 = (nI (tp.getD (f + 25) 0)).toInt.toNat := frg_v _ _ _ _ _ _
theorem alw_rgn {ab : Nat → Nat} {w h x y d b : Int32} (hl : alw (ab 1) (ab 2) w h x y d b) : RGN ab (frg w h x y d b) := by
  unfold alw at hl
  show 1 ≤ w.toInt.toNat ∧ 1 ≤ h.toInt.toNat ∧ x.toInt.toNat + w.toInt.toNat ≤ ab 1 ∧ y.toInt.toNat + h.toInt.toNat ≤ ab 2 ∧ d.toInt.toNat ≤ 2 ∧ b.toInt.toNat ≤ 1
  omega
theorem alC_rgn {tp : List Nat} {f : Nat} {ab : Nat → Nat} (h : alC tp f ab) : RGN ab (rgC tp f) := alw_rgn h
theorem znat_b {x : Int} {n : Nat} (h1 : 1 ≤ x) (h2 : x ≤ (n : Int)) : 1 ≤ x.toNat ∧ x.toNat ≤ n := by omega
theorem okH_b {tp : List Nat} {f : Nat} (h : okH tp f) : (1 ≤ (nmS tp f).toInt.toNat ∧ (nmS tp f).toInt.toNat ≤ 16) ∧ (1 ≤ (nmS tp (f + 4)).toInt.toNat ∧ (nmS tp (f + 4)).toInt.toNat ≤ 16) := by
  unfold okH at h
  generalize (nmS tp f).toInt = x at h ⊢
  generalize (nmS tp (f + 4)).toInt = y at h ⊢
  exact ⟨znat_b h.1.1.1 h.1.1.2, znat_b h.1.2.1 h.1.2.2⟩
theorem alw_b {W H : Nat} {w h x y d b : Int32} (hl : alw W H w h x y d b) : w = nI w.toInt.toNat ∧ h = nI h.toInt.toNat ∧ x = nI x.toInt.toNat ∧ y = nI y.toInt.toNat ∧ d = nI d.toInt.toNat ∧ b = nI b.toInt.toNat := by
  unfold alw at hl
  exact ⟨znI (by omega), znI (by omega), znI (by omega), znI (by omega), znI (by omega), znI (by omega)⟩
theorem WFr_C {ab : Nat → Nat} {rg : Nat → Nat → Nat} {r : Nat → Nat} {hd : Nat} (h : WFr ab rg) (h0 : ab 0 = 1) (h8 : ab 4 < 8) (hr : RGN ab r) (h5 : ab 5 ≤ ab 4) (hc : hd = 0 → ab 4 = 0 ∧ r 0 = ab 1 ∧ r 1 = ab 2) : WFr (abC ab hd) (rgF rg (ab 4) r) := by
  rcases h with ⟨q, -⟩ | ⟨q0, q1, q2, q4, q5, q6, q7⟩
  · omega
  · refine Or.inr ⟨q0, q1, q2, ?_, ?_, fun f hf => ?_, fun h1 => ?_⟩
    · show ab 4 + 1 ≤ 8; omega
    · show (if hd = 0 then 1 else ab 5) ≤ 1
      split <;> omega
    · have hf' : f < ab 4 + 1 := hf
      by_cases e : f = ab 4
      · subst e
        have : rgF rg (ab 4) r (ab 4) = r := by funext k; unfold rgF; rw [if_pos rfl]
        rw [this]
        exact hr
      · have : rgF rg (ab 4) r f = rg f := by funext k; unfold rgF; rw [if_neg e]
        rw [this]
        exact q6 f (by omega)
    · refine ⟨by show 0 < ab 4 + 1; omega, ?_⟩
      have h1' : (if hd = 0 then 1 else ab 5) = 1 := h1
      show rgF rg (ab 4) r 0 0 = ab 1 ∧ rgF rg (ab 4) r 0 1 = ab 2
      by_cases e : hd = 0
      · obtain ⟨c0, c1, c2⟩ := hc e
        unfold rgF
        rw [if_pos c0.symm, if_pos c0.symm]
        exact ⟨c1, c2⟩
      · rw [if_neg e] at h1'
        obtain ⟨p1, p2⟩ := q7 h1'
        unfold rgF
        rw [if_neg (by omega), if_neg (by omega)]
        exact p2
theorem WFr_B {W H pl : Nat} {rg : Nat → Nat → Nat} (hW : 1 ≤ W ∧ W ≤ 16) (hH : 1 ≤ H ∧ H ≤ 16) : WFr (abB W H pl) rg := Or.inr ⟨rfl, hW, hH, Nat.zero_le 8, Nat.zero_le 1, fun f hf => absurd hf (Nat.not_lt_zero f), fun z => absurd z (by show ¬ 0 = 1; decide)⟩
/-- what a chunk that is taken makes of a good state -/
theorem wfk_take {tp : List Nat} {kb kt : Nat} {ty : Int32} {m q ser tl hd : Nat} {ab : Nat → Nat} {rg px : Nat → Nat → Nat} {pk : List Nat} {R' : zRS} {cx : Prop} (h : WFk tp kb q ser tl hd ab rg pk) (hm : q + 12 + m ≤ tp.length) (ht0 : letS tp (q + 4) → kt ≠ 0) (hcx : kb = 1 ∨ kb = 2 → kt ≠ 1 → kt ≠ 2 → cx) (e : takK tp kb kt ty m q ser tl hd ab rg px pk = some R') :
    ∃ ser' tl' hd' ab' rg' pk', R' = (q + 12 + m, ty, ser', tl', hd', ab', rg', px, pk') ∧ WFk tp kt (q + 12 + m) ser' tl' hd' ab' rg' pk' ∧ ∀ f, Fn kt hd' ab' f → kb ≠ 0 ∧ (Fn kb hd ab f ∨ (cx ∧ f = gsR kb ab)) := by
  obtain ⟨⟨w1, w2, w3, w4, w5, w6⟩, w7, w8, w9, w10, w11, w12, w13, w14⟩ := h
  unfold takK at e
  by_cases k0 : kb = 0
  · rw [if_pos k0] at e
    obtain ⟨u1, u2, u3⟩ := w7 k0
    split at e
    · rename_i c
      obtain ⟨c1, c2, c3⟩ := c
      have e' := (Option.some.inj e).symm
      obtain ⟨hq1, hq2⟩ := okH_b c3
      clear c3 e
      generalize (nmS tp (q + 8)).toInt.toNat = W8 at e' hq1
      generalize (nmS tp (q + 8 + 4)).toInt.toNat = H8 at e' hq2
      refine ⟨_, _, _, _, _, _, e', ⟨⟨by omega, by omega, w3, w4, by omega, ⟨fun z => by omega, fun z => by omega⟩⟩, fun z => by omega, fun _ => ⟨WFr_B hq1 hq2, rfl, Nat.zero_le _, Nat.le_refl _⟩, w9, fun _ _ => Or.inl ⟨rfl, rfl, by omega⟩, fun z => by omega, fun z => by omega, fun z => by omega, fun z => by omega⟩, fun f hf => ?_⟩
      rcases hf with ⟨hf, -⟩ | ⟨-, -, hf, -⟩
      · exact absurd hf (Nat.not_lt_zero f)
      · omega
    · exact absurd e (by simp)
  · rw [if_neg k0] at e
    obtain ⟨v1, v2, v3, v4⟩ := w8 k0
    have vb := v1.b
    have hclose : ∀ f, kb ≠ 3 → (kb = 1 ∨ kb = 2 → cx) → (f < ab 4 ∨ (f = 8 ∧ ab 5 = 0 ∧ hd = 1)) → Fn kb hd ab f ∨ (cx ∧ f = gsR kb ab) := fun f h3 hc hf => by
      unfold Fn gsR dfP
      clear e
      rcases (show kb = 1 ∨ kb = 2 ∨ (kb ≠ 1 ∧ kb ≠ 2) by omega) with z | z | z
      · obtain ⟨y1, y2⟩ := w11 z
        refine Or.inr ⟨hc (Or.inl z), ?_⟩
        rw [if_pos z]
        split <;> omega
      · by_cases e1 : f + 1 = ab 4
        · refine Or.inr ⟨hc (Or.inr z), ?_⟩
          rw [if_neg (by omega)]
          omega
        · exact Or.inl (by omega)
      · exact Or.inl (by omega)
    split at e
    · rename_i t1
      split at e
      · exact absurd e (by simp)
      · rename_i c
        have e' := (Option.some.inj e).symm
        clear e
        have hab : ab 4 = ab 5 := by
          by_cases hh : hd = 0
          · rcases w10 hh k0 with z | z <;> omega
          · exact (w11 (by omega)).2
        refine ⟨_, _, _, _, _, _, e', ⟨⟨by omega, by omega, w3, by omega, by omega, ⟨fun z => by omega, fun z => by omega⟩⟩, fun z => by omega, fun _ => ⟨v1, v2, v3, v4⟩, fun _ => by omega, fun z => by omega, fun _ => ⟨rfl, hab⟩, fun z => by omega, fun z => by omega, fun _ => ?_⟩, fun f hf => ?_⟩
        · rw [List.length_append, prtS_len (by omega)]
          by_cases hh : hd = 0
          · rw [if_pos hh]; show 0 + m ≤ _; omega
          · rw [if_neg hh]
            have := w14 (Or.inl (by omega))
            omega
        · rcases hf with ⟨f1, -, f3⟩ | ⟨-, -, -, f4⟩
          · omega
          · omega
    · rename_i t1
      split at e
      · rename_i t6
        split at e
        · rename_i c
          have e' := (Option.some.inj e).symm
          clear e
          refine ⟨_, _, _, _, _, _, e', ⟨⟨by omega, by omega, w3, w4, by omega, ⟨fun z => by omega, fun z => by omega⟩⟩, fun z => by omega, fun _ => ⟨v1, v2, v3, v4⟩, w9, fun z => by omega, fun z => by omega, fun z => by omega, fun z => by omega, fun z => by omega⟩, fun f hf => ⟨k0, hclose f c.2.2.1 (fun z => hcx z (by omega) (by omega)) ?_⟩⟩
          rcases hf with ⟨f1, -, -⟩ | ⟨f1, f2, f3, -⟩ <;> omega
        · exact absurd e (by simp)
      · rename_i t6
        split at e
        · exact absurd e (by simp)
        · rename_i t4
          split at e
          · rename_i t5
            split at e
            · rename_i c
              have e' := (Option.some.inj e).symm
              obtain ⟨c1, c2, c3, c4, c5⟩ := c
              have h3 : (ab 4 = 0 ∧ ab 5 = 0 ∧ kb ≠ 3) ∨ (kb = 3 ∧ ab 4 = 1 ∧ ab 5 = 1) := w10 c3 k0
              clear e
              generalize (nmS tp (q + 8)).toInt = i8 at e' c4 c5
              have hq := znat_b (n := 8) c4 c5
              clear c4 c5
              generalize i8.toNat = n8 at e' hq
              have hw' : WFr (abP ab (zn4 (fun j => tp.getD j 0) (q + 8 + 4))) rg := by
                generalize zn4 (fun j => tp.getD j 0) (q + 8 + 4) = n12
                exact v1
              generalize zn4 (fun j => tp.getD j 0) (q + 8 + 4) = n12 at e' hw'
              refine ⟨_, _, _, _, _, _, e', ⟨⟨by omega, by omega, by omega, w4, by omega, ⟨fun z => by omega, fun z => by omega⟩⟩, fun z => by omega, fun _ => ⟨hw', v2, by show ab 4 ≤ _; omega, v4⟩, fun z => by omega, fun _ _ => Or.inl ⟨by show ab 4 = 0; omega, by show ab 5 = 0; omega, by omega⟩, fun z => by omega, fun z => by omega, fun z => by omega, fun z => by omega⟩, fun f hf => ?_⟩
              rcases hf with ⟨f1, -, -⟩ | ⟨-, -, f3, -⟩
              · have f1' : f < ab 4 := f1
                omega
              · omega
            · exact absurd e (by simp)
          · rename_i t5
            split at e
            · rename_i t3
              split at e
              · rename_i c
                have e' := (Option.some.inj e).symm
                clear e
                obtain ⟨c1, c2, c3, c4, c5, c6⟩ := c
                have h0 : hd = 0 → ab 4 = 0 := fun z => by
                  clear c6
                  rcases w10 z k0 with y | y <;> omega
                have h48 : ab 4 < 8 := by
                  clear c6
                  omega
                have hw' := WFr_C (r := rgC tp (q + 8)) (hd := hd) v1 v2 h48 (alC_rgn c5) v4 (fun z => ⟨h0 z, (rgC_v tp (q + 8)).1.trans (c6 z).1, (rgC_v tp (q + 8)).2.1.trans (c6 z).2⟩)
                clear c4 c5 c6
                generalize rgC tp (q + 8) = rr at e' hw'
                have a4 : abC ab hd 4 = ab 4 + 1 := rfl
                have a5 : abC ab hd 5 = if hd = 0 then 1 else ab 5 := rfl
                refine ⟨_, _, _, _, _, _, e', ⟨⟨by omega, by omega, w3, w4, by omega, ⟨fun z => by omega, fun z => by omega⟩⟩, fun z => by omega, fun _ => ⟨hw', v2, by rw [a4]; omega, by rw [a4, a5]; split <;> omega⟩, w9, fun z _ => Or.inr ⟨t3, by rw [a4, h0 z], by rw [a5, if_pos z]⟩, fun z => by omega, fun z => by omega, fun _ => ⟨by rw [a4]; omega, fun z => by rw [a4, a5, if_neg (by omega)]; omega⟩, fun z => by omega⟩, fun f hf => ⟨k0, hclose f c2 (fun z => hcx z (by omega) (by omega)) ?_⟩⟩
                rcases hf with ⟨f1, f2, -⟩ | ⟨f1, f2, f3, -⟩
                · rw [a4] at f1 f2
                  omega
                · rw [a5, if_neg (by omega)] at f2
                  omega
              · exact absurd e (by simp)
            · rename_i t3
              split at e
              · rename_i t2
                split at e
                · rename_i c
                  have e' := (Option.some.inj e).symm
                  clear e
                  obtain ⟨c1, c2, c3, c4⟩ := c
                  clear c4
                  have h5 : ab 5 < ab 4 := by
                    rcases c3 with z | z
                    · exact (w13 z).2 c2
                    · exact (w12 z).2
                  refine ⟨_, _, _, _, _, _, e', ⟨⟨by omega, by omega, w3, w4, by omega, ⟨fun z => by omega, fun z => by omega⟩⟩, fun z => by omega, fun _ => ⟨v1, v2, v3, v4⟩, w9, fun z => by omega, fun z => by omega, fun _ => ⟨c2, h5⟩, fun z => by omega, fun _ => ?_⟩, fun f hf => ⟨k0, Or.inl ?_⟩⟩
                  · rw [List.length_append, prtS_len (by omega)]
                    by_cases hh : kb = 3
                    · rw [if_pos hh]; show 0 + (m - 4) ≤ _; omega
                    · rw [if_neg hh]
                      have := w14 (Or.inr (by omega))
                      omega
                  · unfold Fn
                    rcases hf with ⟨f1, f2, -⟩ | ⟨f1, f2, f3, -⟩ <;> omega
                · exact absurd e (by simp)
              · rename_i t2
                split at e
                · rename_i c
                  have e' := (Option.some.inj e).symm
                  clear e
                  have t0 := ht0 c.2
                  have c1 := c.1
                  clear c
                  refine ⟨_, _, _, _, _, _, e', ⟨⟨by omega, by omega, w3, w4, by omega, ⟨fun z => by omega, fun z => by omega⟩⟩, fun z => by omega, fun _ => ⟨v1, v2, v3, v4⟩, w9, fun z _ => ?_, fun z => by omega, fun z => by omega, fun z => by omega, fun z => by omega⟩, fun f hf => ⟨k0, hclose f c1 (fun z => hcx z (by omega) (by omega)) ?_⟩⟩
                  · rcases w10 z k0 with y | y
                    · exact Or.inl ⟨y.1, y.2.1, by omega⟩
                    · omega
                  · rcases hf with ⟨f1, -, -⟩ | ⟨f1, f2, f3, -⟩ <;> omega
                · exact absurd e (by simp)
theorem kd_let {tp : List Nat} {q : Nat} (hby : ∀ j, tp.getD j 0 < 256) (hl : letS tp (q + 4)) : kd (nmS tp (q + 4)) ≠ 0 := fun z => by
  have z0 := (kd0 _).mp z
  have b0 := hby (q + 4)
  have b1 := hby (q + 4 + 1)
  have b2 := hby (q + 4 + 2)
  have b3 := hby (q + 4 + 3)
  have c97 := hl.1
  simp only [nmS, zn4] at z0
  generalize tp.getD (q + 4) 0 = x0 at b0 c97 z0
  generalize tp.getD (q + 4 + 1) 0 = x1 at b1 z0
  generalize tp.getD (q + 4 + 2) 0 = x2 at b2 z0
  generalize tp.getD (q + 4 + 3) 0 = x3 at b3 z0
  clear z
  have z1 : x0 * 16777216 + x1 * 65536 + x2 * 256 + x3 = 0 := (znI_inj (by omega) (b := 0) (by omega)).mp (z0.trans nI_0.symm)
  omega
