/-! reading as a whole: the middle, and the class's read -/
def sgF (tp : List Nat) : Nat → Option Nat
  | 0 => none
  | n + 1 => match sgF tp n with
    | some k => some k
    | none => if n < tp.length ∧ tp.getD n 0 = sgL.getD n 0 then none else some n
noncomputable def runF (tp : List Nat) : Nat → zRS → (Int32 × Nat) ⊕ zRS
  | 0, _ => .inl (0, 0)
  | n + 1, R => if kd R.2.1 = 6 then .inr R else match stepS tp R with
    | .inl f => .inl f
    | .inr R' => runF tp n R'
theorem runF_s {tp : List Nat} (n : Nat) (R : zRS) : runF tp (n + 1) R = (if kd R.2.1 = 6 then .inr R else match stepS tp R with
    | .inl f => .inl f
    | .inr R' => runF tp n R') := rfl
def R0 : zRS := (8, 0, 0, 0, 0, fun _ => 0, fun _ _ => 0, fun _ _ => 0, [])
noncomputable def readS (tp : List Nat) : (Int32 × Nat) ⊕ zRS := match sgF tp 8 with
  | some k => .inl (1, k)
  | none => match runF tp 667 R0 with
    | .inl f => .inl f
    | .inr R => if R.1 < tp.length then .inl (4, R.1) else .inr R
theorem sgF_mono {tp : List Nat} {i k : Nat} (h : sgF tp i = some k) : ∀ d, sgF tp (i + d) = some k
  | 0 => h
  | d + 1 => by rw [← Nat.add_assoc, sgF, sgF_mono h d]
theorem sgF_len {tp : List Nat} : ∀ n, sgF tp n = none → n ≤ tp.length
  | 0, _ => Nat.zero_le _
  | n + 1, h => by
    rw [sgF] at h
    cases e : sgF tp n with
    | none =>
      rw [e] at h
      dsimp only at h
      by_cases c : n < tp.length ∧ tp.getD n 0 = sgL.getD n 0
      · exact c.1
      · rw [if_neg c] at h
        exact absurd h (by simp)
    | some k =>
      rw [e] at h
      exact absurd h (by simp)
theorem takK_end {tp : List Nat} {kb kt : Nat} {ty : Int32} {m q ser tl hd : Nat} {ab : Nat → Nat} {rg px : Nat → Nat → Nat} {pk : List Nat} {R' : zRS} (e : takK tp kb kt ty m q ser tl hd ab rg px pk = some R') (hk : kt = 6) : R'.2.2.2.2.1 = 1 := by
  unfold takK at e
  by_cases k0 : kb = 0
  · rw [if_pos k0, if_neg (fun z => by have := z.1; omega)] at e
    exact absurd e (by simp)
  · rw [if_neg k0, if_neg (by omega), if_pos hk] at e
    by_cases c : m = 0 ∧ hd = 1 ∧ kb ≠ 3 ∧ ab 4 = tl
    · rw [if_pos c] at e
      have e' := Option.some.inj e
      rw [← e']
      exact c.2.1
    · rw [if_neg c] at e
      exact absurd e (by simp)
theorem takK_at {tp : List Nat} {kb kt : Nat} {ty : Int32} {m q ser tl hd : Nat} {ab : Nat → Nat} {rg px : Nat → Nat → Nat} {pk : List Nat} {R' : zRS} (e : takK tp kb kt ty m q ser tl hd ab rg px pk = some R') : R'.1 = q + 12 + m ∧ R'.2.1 = ty := by
  have key : ∀ (c : Prop) (inst : Decidable c) (x : zRS), x.1 = q + 12 + m ∧ x.2.1 = ty → (if c then some x else none) = some R' → R'.1 = q + 12 + m ∧ R'.2.1 = ty := fun c inst x hx h => by
    by_cases hc : c
    · rw [if_pos hc] at h
      rw [← Option.some.inj h]
      exact hx
    · rw [if_neg hc] at h
      exact absurd h (by simp)
  have key2 : ∀ (c : Prop) (inst : Decidable c) (x : zRS), x.1 = q + 12 + m ∧ x.2.1 = ty → (if c then none else some x) = some R' → R'.1 = q + 12 + m ∧ R'.2.1 = ty := fun c inst x hx h => by
    by_cases hc : c
    · rw [if_pos hc] at h
      exact absurd h (by simp)
    · rw [if_neg hc] at h
      rw [← Option.some.inj h]
      exact hx
  unfold takK at e
  by_cases k0 : kb = 0
  · rw [if_pos k0] at e
    exact key _ _ _ ⟨rfl, rfl⟩ e
  rw [if_neg k0] at e
  by_cases t1 : kt = 1
  · rw [if_pos t1] at e
    exact key2 _ _ _ ⟨rfl, rfl⟩ e
  rw [if_neg t1] at e
  by_cases t6 : kt = 6
  · rw [if_pos t6] at e
    exact key _ _ _ ⟨rfl, rfl⟩ e
  rw [if_neg t6] at e
  by_cases t4 : kt = 4
  · rw [if_pos t4] at e
    exact absurd e (by simp)
  rw [if_neg t4] at e
  by_cases t5 : kt = 5
  · rw [if_pos t5] at e
    exact key _ _ _ ⟨rfl, rfl⟩ e
  rw [if_neg t5] at e
  by_cases t3 : kt = 3
  · rw [if_pos t3] at e
    exact key _ _ _ ⟨rfl, rfl⟩ e
  rw [if_neg t3] at e
  by_cases t2 : kt = 2
  · rw [if_pos t2] at e
    exact key _ _ _ ⟨rfl, rfl⟩ e
  rw [if_neg t2] at e
  exact key _ _ _ ⟨rfl, rfl⟩ e
theorem clsS_at {ty : Int32} {R R1 : zRS} (e : clsS ty R = .inr R1) : R1.1 = R.1 := by
  obtain ⟨q, bf, ser, tl, hd, ab, rg, px, pk⟩ := R
  unfold clsS at e
  dsimp only at e
  by_cases c : clC bf ty
  · rw [if_pos c] at e
    cases u : unpackS pk with
    | none =>
      rw [u] at e
      exact absurd e (by simp)
    | some o =>
      rw [u] at e
      dsimp only at e
      cases v : rowsS (clW (kd bf) ab rg) (clH (kd bf) ab rg) o with
      | none =>
        rw [v] at e
        exact absurd e (by simp)
      | some g =>
        rw [v] at e
        rw [← Sum.inr.inj e]
  · rw [if_neg c] at e
    rw [← Sum.inr.inj e]
/-- what a step comes to -/
theorem step_cases {tp : List Nat} {R : zRS} : (∃ f p, stepS tp R = .inl (f, p) ∧ (p = tp.length ∨ (p = R.1 + 4 ∧ ¬ tooS tp R.1))) ∨ ∃ R' R1 ty m, stepS tp R = .inr R' ∧ takS tp ty m R1 = some R' ∧ R1.1 = R.1 := by
  by_cases c1 : tooS tp R.1
  · refine Or.inl ⟨2, tp.length, ?_, Or.inl rfl⟩
    unfold stepS
    rw [if_pos c1]
  by_cases c2 : crX (fun k => tp.getD (R.1 + 4 + k) 0) (4 + lnS tp R.1) ^^^ (-1) = nmS tp (R.1 + 8 + lnS tp R.1)
  · have e := step_eq (R := R) (tp := tp) c1 rfl c2
    cases u : clsS (nmS tp (R.1 + 4)) R with
    | inl f =>
      rw [u] at e
      exact Or.inl ⟨f, R.1 + 4, e, Or.inr ⟨rfl, c1⟩⟩
    | inr R1 =>
      rw [u] at e
      dsimp only at e
      have h1 := clsS_at u
      cases v : takS tp (nmS tp (R.1 + 4)) (lnS tp R.1) R1 with
      | none =>
        rw [v] at e
        exact Or.inl ⟨4, R.1 + 4, e, Or.inr ⟨rfl, c1⟩⟩
      | some R' =>
        rw [v] at e
        exact Or.inr ⟨R', R1, _, _, e, v, h1⟩
  · refine Or.inl ⟨3, R.1 + 4, ?_, Or.inr ⟨rfl, c1⟩⟩
    unfold stepS
    rw [if_neg c1, if_neg c2]
theorem step_inl {tp : List Nat} {R : zRS} {f : Int32} {p : Nat} (e : stepS tp R = .inl (f, p)) : p ≤ tp.length := by
  rcases step_cases (tp := tp) (R := R) with ⟨f', p', e', h⟩ | ⟨R', R1, ty, m, e', -⟩
  · rw [e] at e'
    have := (Prod.mk.inj (Sum.inl.inj e')).2
    rcases h with h | ⟨h, h2⟩
    · omega
    · have : ¬ tp.length < R.1 + 12 := fun z => h2 (Or.inl z)
      omega
  · rw [e] at e'
    exact absurd e' (by simp)
theorem step_inr {tp : List Nat} {R R' : zRS} (e : stepS tp R = .inr R') : R.1 + 12 ≤ R'.1 ∧ (kd R'.2.1 = 6 → R'.2.2.2.2.1 = 1) := by
  rcases step_cases (tp := tp) (R := R) with ⟨f', p', e', h⟩ | ⟨R2, R1, ty, m, e', e2, e3⟩
  · rw [e] at e'
    exact absurd e' (by simp)
  · rw [e] at e'
    have e4 := Sum.inr.inj e'
    subst e4
    obtain ⟨q, bf, ser, tl, hd, ab, rg, px, pk⟩ := R1
    have e5 : takK tp (kd bf) (kd ty) ty m q ser tl hd ab rg px pk = some R' := e2
    obtain ⟨h1, h2⟩ := takK_at e5
    dsimp only at e3
    refine ⟨by omega, fun hk => ?_⟩
    rw [h2] at hk
    exact takK_end e5 hk
theorem sgv1 : ∀ i, i < 4 → ((((-1991225785 : Int32).toUInt32 >>> (((24 : Int32) - ((nI i - nI i / (4 : Int32) * (4 : Int32)) * (8 : Int32))).toUInt32 &&& Int32.toUInt32 31)).toInt32) &&& (255 : Int32)) = nI (sgL.getD i 0) := by decide +kernel
theorem sgv2 : ∀ i, i < 8 → 4 ≤ i → ((((218765834 : Int32).toUInt32 >>> (((24 : Int32) - ((nI i - nI i / (4 : Int32) * (4 : Int32)) * (8 : Int32))).toUInt32 &&& Int32.toUInt32 31)).toInt32) &&& (255 : Int32)) = nI (sgL.getD i 0) := by decide +kernel
section PCREAD4
variable {σ s t : zS} {C : Nat → Nat} {b b' : Nat} {tp pk : List Nat} {ab : Nat → Nat} {rg px : Nat → Nat → Nat}
theorem k_sg {i : Nat} (hi : i < 8) : (if (4 : Int32) ≤ nI i then fX4_startsAsFile_20 σ (C 5) (nI i) 218765834 else fX4_startsAsFile_20 σ (C 5) (nI i) (-1991225785 : Int32)) = oGR σ 5 (C 5) 0 (fun a1 => oA (zk σ a1 = 2) (oB (fX1_at σ a1 (nI i)) (fun x1 => (if x1 = nI (sgL.getD i 0) then oL (nI i + 1) (fun v1 => some (.inl (v1, σ))) else oPI σ 5 (C 5) 5 (nI i) (fun σ1 => some (.inr (.inr (0, σ1)))))))) := by
  have c4 : (4 : Int32) ≤ nI i ↔ 4 ≤ i := nI_leI (a := 4) (by decide) (by omega)
  unfold fX4_startsAsFile_20
  by_cases c : 4 ≤ i
  · rw [if_pos (c4.mpr c), sgv2 i hi c]
  · rw [if_neg (fun z => c (c4.mp z)), sgv1 i (by omega)]
theorem k_sig1 (h : KB σ C b tp) {i : Nat} (hi : i < 8) : (i < tp.length ∧ tp.getD i 0 = sgL.getD i 0 → bX4_startsAsFile_2 (C 5) (nI i) σ = some (.inl (nI (i + 1), σ))) ∧ (¬ (i < tp.length ∧ tp.getD i 0 = sgL.getD i 0) → bX4_startsAsFile_2 (C 5) (nI i) σ = some (.inr (.inr (0, zuI σ (C 5) 5 (nI i))))) := by
  have c8 : ¬ (8 : Int32) ≤ nI i := fun z => by
    have := (nI_leI (a := 8) (b := i) (by decide) (by omega)).mp z
    omega
  have sgb : sgL.getD i 0 < 256 := by
    rcases (show i = 0 ∨ i = 1 ∨ i = 2 ∨ i = 3 ∨ i = 4 ∨ i = 5 ∨ i = 6 ∨ i = 7 by omega) with q | q | q | q | q | q | q | q <;> subst q <;> decide
  have e0 : bX4_startsAsFile_2 (C 5) (nI i) σ = oB (fX1_at σ (C 3) (nI i)) (fun x1 => (if x1 = nI (sgL.getD i 0) then some (.inl (nI (i + 1), σ)) else some (.inr (.inr (0, zuI σ (C 5) 5 (nI i)))))) := by
    unfold bX4_startsAsFile_2
    rw [if_neg c8, k_sg hi, oGR_eq h.k5.1 h.k5.2.1, oA_eq h.k5.2.2, nI_1]
    congr 1
    funext x1
    rw [oL_eq, oPI_eq h.k5.1]
  have hlen := h.len
  refine ⟨fun c => ?_, fun c => ?_⟩
  · rw [e0, oB_eq (k_at h c.1), c.2, if_pos rfl]
  · by_cases y : i < tp.length
    · have hb := h.by i
      rw [e0, oB_eq (k_at h y), if_neg (fun z => c ⟨y, (nI_eq (by omega) (by omega)).mp z⟩)]
    · have := s_at h.2.2.1.1 (nI i)
      rw [zt_nI (by omega), if_neg (by omega)] at this
      rw [e0, oB_eq this, if_neg (fun z => by
        have z' := congrArg Int32.toInt z
        rw [zt_nI (by omega)] at z'
        have : (-1 : Int32).toInt = -1 := by decide
        omega)]
theorem k_sig (h : KB σ C b tp) : (sgF tp 8 = none ∧ fX4_startsAsFile σ (C 5) = some (1, σ)) ∨ ∃ k, k < 8 ∧ sgF tp 8 = some k ∧ fX4_startsAsFile σ (C 5) = some (0, zuI σ (C 5) 5 (nI k)) := by
  obtain ⟨r, e, hr⟩ := zloop_cnt (body := fun x => bX4_startsAsFile_2 (C 5) x.1 x.2) (fun i x => x = (nI i, σ) ∧ sgF tp i = none) 8 (fun r => (sgF tp 8 = none ∧ r = .inl σ) ∨ ∃ k, k < 8 ∧ sgF tp 8 = some k ∧ r = .inr (0, zuI σ (C 5) 5 (nI k)))
    (fun i x hi hx => by
      obtain ⟨x1, x2⟩ := hx
      subst x1
      obtain ⟨ky, kn⟩ := k_sig1 h hi
      by_cases c : i < tp.length ∧ tp.getD i 0 = sgL.getD i 0
      · refine Or.inl ⟨(nI (i + 1), σ), ky c, rfl, ?_⟩
        rw [sgF, x2]
        dsimp only
        rw [if_pos c]
      · refine Or.inr ⟨_, kn c, Or.inr ⟨i, hi, ?_, rfl⟩⟩
        have h1 : sgF tp (i + 1) = some i := by
          rw [sgF, x2]
          dsimp only
          rw [if_neg c]
        have := sgF_mono h1 (8 - (i + 1))
        rw [show i + 1 + (8 - (i + 1)) = 8 by omega] at this
        exact this)
    (fun x hx => by
      obtain ⟨x1, x2⟩ := hx
      subst x1
      refine ⟨.inl σ, ?_, Or.inl ⟨x2, rfl⟩⟩
      show bX4_startsAsFile_2 (C 5) (nI 8) σ = _
      unfold bX4_startsAsFile_2
      rw [if_pos (by decide)]) zF (0, σ) ⟨rfl, rfl⟩ (by unfold zF; decide)
  rcases hr with ⟨r1, r2⟩ | ⟨k, r0, r1, r2⟩
  · subst r2
    refine Or.inl ⟨r1, ?_⟩
    unfold fX4_startsAsFile
    refine oCw ?_ (Or.inr rfl)
    unfold gX4_startsAsFile
    rw [oB_eq e]
    rfl
  · subst r2
    refine Or.inr ⟨k, r0, r1, ?_⟩
    unfold fX4_startsAsFile
    refine oCw ?_ (Or.inl rfl)
    unfold gX4_startsAsFile
    rw [oB_eq e]
    rfl
/-- the reader runs to the first fault -/
theorem k_run (hb : isR b) (h : KB σ C b tp) : ∃ r s, fX4_run σ (C 5) = some (r, s) ∧ zsq C (PRd b) σ s ∧ ((∃ p, readS tp = .inl (r, p) ∧ r ≠ 0 ∧ p ≤ 8000 ∧ zi s (C 5) 5 = nI p) ∨ ∃ R, readS tp = .inr R ∧ r = 0 ∧ KC s C b tp R ∧ kd R.2.1 = 6 ∧ R.2.2.2.2.1 = 1) := by
  have hlen := h.len
  have z4 : zsq C (PRd b) σ (zuI (zuI (zuI (zuI σ (C 5) 7 0) (C 5) 8 0) (C 5) 9 0) (C 5) 10 0) := (((zsq.rf.uI (by decide) (Or.inl rfl)).uI (by decide) (Or.inl rfl)).uI (by decide) (Or.inl rfl)).uI (by decide) (Or.inl rfl)
  have i7 : zi (zuI (zuI (zuI (zuI σ (C 5) 7 0) (C 5) 8 0) (C 5) 9 0) (C 5) 10 0) (C 5) 7 = 0 := by simp only [zi_uI, true_and, Nat.reduceEqDiff, ↓reduceIte]
  have i8 : zi (zuI (zuI (zuI (zuI σ (C 5) 7 0) (C 5) 8 0) (C 5) 9 0) (C 5) 10 0) (C 5) 8 = 0 := by simp only [zi_uI, true_and, Nat.reduceEqDiff, ↓reduceIte]
  have i9 : zi (zuI (zuI (zuI (zuI σ (C 5) 7 0) (C 5) 8 0) (C 5) 9 0) (C 5) 10 0) (C 5) 9 = 0 := by simp only [zi_uI, true_and, Nat.reduceEqDiff, ↓reduceIte]
  have i10 : zi (zuI (zuI (zuI (zuI σ (C 5) 7 0) (C 5) 8 0) (C 5) 9 0) (C 5) 10 0) (C 5) 10 = 0 := by simp only [zi_uI, true_and, Nat.reduceEqDiff, ↓reduceIte]
  unfold fX4_run
  rw [oPI_eq h.k5.1, oPI_eq (by exact h.k5.1), oPI_eq (by exact h.k5.1), oPZ_eq (by exact h.k5.1) (Or.inl rfl)]
  generalize zuI (zuI (zuI (zuI σ (C 5) 7 0) (C 5) 8 0) (C 5) 9 0) (C 5) 10 0 = s4 at z4 i7 i8 i9 i10
  have h4 := h.of hb z4
  rw [oA_eq h4.k5.1]
  rcases k_sig h4 with ⟨g1, g2⟩ | ⟨k, g0, g1, g2⟩
  rotate_left
  · refine ⟨1, zuI s4 (C 5) 5 (nI k), by rw [oC_eq g2, if_pos rfl], z4.uI (by decide) (Or.inl rfl), Or.inl ⟨k, ?_, by decide, by omega, by rw [zi_uI, if_pos ⟨rfl, rfl⟩]⟩⟩
    unfold readS
    rw [g1]
  have h8 := sgF_len 8 g1
  rw [oC_eq g2, if_neg (by decide), oPI_eq h4.k5.1]
  have z6 : zsq C (PRd b) σ (zuI s4 (C 5) 6 8) := z4.uI (by decide) (Or.inl rfl)
  have hK0 : KC (zuI s4 (C 5) 6 8) C b tp R0 := by
    have hk0 : kd 0 = 0 := rfl
    have j : ∀ k, k ≠ 6 → zi (zuI s4 (C 5) 6 8) (C 5) k = zi s4 (C 5) k := fun k hk => by rw [zi_uI, if_neg (fun z => hk z.2)]
    refine ⟨h.of hb z6, by rw [zi_uI, if_pos ⟨rfl, rfl⟩]; rfl, (j 7 (by decide)).trans i7, ⟨⟨(j 8 (by decide)).trans i8, (j 9 (by decide)).trans i9, (j 10 (by decide)).trans i10⟩, fun z => absurd hk0 z, fun z => by rw [hk0] at z; omega⟩, ?_⟩
    rw [hk0]
    exact ⟨⟨h8, by decide, by decide, by decide, by decide, by decide⟩, fun _ => ⟨rfl, rfl, rfl⟩, fun z => absurd rfl z, fun z => absurd z (by decide), fun _ z => absurd rfl z, fun z => absurd z (by decide), fun z => absurd z (by decide), fun z => absurd z (by decide), fun _ => Nat.zero_le _⟩
  generalize zuI s4 (C 5) 6 8 = s6 at z6 hK0
  obtain ⟨r, e, hr⟩ := zloop_cnt (body := fun x => bX4_run_37 (C 5) x.1 x.2) (fun i x => x.1 = nI i ∧ zsq C (PRd b) σ x.2 ∧ ∃ R, KC x.2 C b tp R ∧ 8 + 12 * i ≤ R.1 ∧ R.1 ≤ tp.length ∧ (kd R.2.1 = 6 → R.2.2.2.2.1 = 1) ∧ runF tp 667 R0 = runF tp (667 - i) R) 667 (fun r => match r with
      | .inl s => zsq C (PRd b) σ s ∧ ∃ R, KC s C b tp R ∧ kd R.2.1 = 6 ∧ R.2.2.2.2.1 = 1 ∧ R.1 ≤ tp.length ∧ runF tp 667 R0 = .inr R
      | .inr (r, s) => zsq C (PRd b) σ s ∧ ∃ p, runF tp 667 R0 = .inl (r, p) ∧ r ≠ 0 ∧ p ≤ 8000 ∧ zi s (C 5) 5 = nI p)
    (fun i x hi hx => by
      obtain ⟨k, t⟩ := x
      obtain ⟨x1, x2, R, x3, x4, x5, x6, x7⟩ := hx
      dsimp only at x1 x2 x3
      subst x1
      obtain ⟨n, hn⟩ : ∃ n, 667 - i = n + 1 := ⟨666 - i, by omega⟩
      rw [hn, runF_s n] at x7
      have hn' : 667 - (i + 1) = n := by omega
      obtain ⟨q, bf, ser, tl, hd, ab, rg, px, pk⟩ := R
      dsimp only at x4 x5 x6 x7
      have c8 : ¬ (8000 : Int32) ≤ nI i := fun z => by
        have := (nI_leI (a := 8000) (b := i) (by decide) (by omega)).mp z
        omega
      have kB := x3.1
      have e0 : bX4_run_37 (C 5) (nI i) t = if bf = (1229278788 : Int32) then some (.inr (.inl t)) else oC (fX4_chunkFault t (C 5)) (fun x3 σ7 => (if x3 = 0 then oL (nI i + 1) (fun v1 => some (.inl (v1, σ7))) else some (.inr (.inr (x3, σ7))))) := by
        unfold bX4_run_37
        rw [if_neg c8, oGI_eq kB.k5.1 x3.2.2.1, oA_eq kB.k5.1]
      by_cases c6 : kd bf = 6
      · rw [if_pos c6] at x7
        exact Or.inr ⟨.inl t, by show bX4_run_37 (C 5) (nI i) t = _; rw [e0, if_pos ((kdv bf).2.2.2.2.2.mp c6)], x2, _, x3, c6, x6 c6, x5, x7⟩
      · rw [if_neg c6] at x7
        rw [if_neg (fun z => c6 ((kdv bf).2.2.2.2.2.mpr z))] at e0
        obtain ⟨r, s, es, zs, hr⟩ := k_chunk hb x3
        rw [oC_eq es] at e0
        rcases hr with ⟨p, y1, y2, y3⟩ | ⟨R', y1, y2, y3⟩
        · rw [y1] at x7
          refine Or.inr ⟨.inr (r, s), by show bX4_run_37 (C 5) (nI i) t = _; rw [e0, if_neg y2], x2.trans zs, p, x7, y2, ?_, y3⟩
          have hp := step_inl y1
          omega
        · rw [y1] at x7
          dsimp only at x7
          subst y2
          obtain ⟨hs1, hs2⟩ := step_inr y1
          dsimp only at hs1
          have hs3 : R'.1 ≤ tp.length := by
            obtain ⟨q', bf', ser', tl', hd', ab', rg', px', pk'⟩ := R'
            exact y3.2.2.2.2.1.1
          refine Or.inl ⟨(nI (i + 1), s), by show bX4_run_37 (C 5) (nI i) t = _; rw [e0, if_pos rfl, oL_eq, nI_1], rfl, x2.trans zs, R', y3, by omega, hs3, hs2, by rw [hn']; exact x7⟩)
    (fun x hx => by
      obtain ⟨k, t⟩ := x
      obtain ⟨x1, x2, R, x3, x4, x5, x6, x7⟩ := hx
      omega) zF (0, s6) ⟨rfl, z6, R0, hK0, by decide, h8, fun z => absurd z (by decide), rfl⟩ (by unfold zF; decide)
  rw [oB_eq e]
  rcases r with s | ⟨r, s⟩
  · obtain ⟨y1, R, y2, y3, y4, y5, y6⟩ := hr
    obtain ⟨q, bf, ser, tl, hd, ab, rg, px, pk⟩ := R
    dsimp only at y3 y4 y5 y6
    have kB := y2.1
    have hx1 : zi s (C 3) 1 = nI tp.length := kB.2.2.1.1.2.2.2.2.1
    have hzz : zsq C (PRd b) σ (zuI s (C 5) 5 (nI q)) := y1.uI (by decide) (Or.inl rfl)
    have kB2 := h.of hb hzz
    have hx2 : zi (zuI s (C 5) 5 (nI q)) (C 3) 1 = nI tp.length := by rw [zi_uI, if_neg (fun z => absurd z.1 (h.1.ne 3 5))]; exact hx1
    have hx6 : zi (zuI s (C 5) 5 (nI q)) (C 5) 6 = nI q := by rw [zi_uI, if_neg (by omega)]; exact y2.2.1
    have hle : nI tp.length ≤ nI q ↔ tp.length ≤ q := nI_leI (by omega) (by omega)
    have e2 : oGI s 5 (C 5) 6 (fun x4 => oPI s 5 (C 5) 5 x4 (fun σ9 => oGI σ9 5 (C 5) 6 (fun x5 => oGR σ9 5 (C 5) 0 (fun a1 => oGI σ9 2 a1 1 (fun x6 => (if x6 ≤ x5 then some ((0 : Int32), σ9) else some (4, σ9))))))) = if nI tp.length ≤ nI q then some (0, zuI s (C 5) 5 (nI q)) else some (4, zuI s (C 5) 5 (nI q)) := by
      rw [oGI_eq kB.k5.1 y2.2.1, oPI_eq kB.k5.1, oGI_eq kB2.k5.1 hx6, oGR_eq kB2.k5.1 kB2.k5.2.1, oGI_eq kB2.k5.2.2 hx2]
    have h48 : kd bf ≠ 0 → ab 4 ≤ 8 := fun k0 => (y2.2.2.2.2.2.2.1 k0).1.b.2.2.2.1
    by_cases c : q < tp.length
    · refine ⟨4, zuI s (C 5) 5 (nI q), ?_, hzz, Or.inl ⟨q, ?_, by decide, by omega, by rw [zi_uI, if_pos ⟨rfl, rfl⟩]⟩⟩
      · refine Eq.trans e2 ?_
        rw [if_neg (fun z => by have := hle.mp z; omega)]
      · unfold readS
        rw [g1, y6]
        dsimp only
        rw [if_pos c]
    · refine ⟨0, zuI s (C 5) 5 (nI q), ?_, hzz, Or.inr ⟨(q, bf, ser, tl, hd, ab, rg, px, pk), ?_, rfl, ?_, y3, y4⟩⟩
      · refine Eq.trans e2 ?_
        rw [if_pos (hle.mpr (by omega))]
      · unfold readS
        rw [g1, y6]
        dsimp only
        rw [if_neg c]
      · exact ⟨kB2, hx6, by rw [zi_uI, if_neg (by omega)]; exact y2.2.2.1, KT.u y2.2.2.2.1 kB.1 hb h48 (by decide), y2.2.2.2.2⟩
  · obtain ⟨y1, p, y2, y3, y4, y5⟩ := hr
    refine ⟨r, s, rfl, y1, Or.inl ⟨p, ?_, y3, y4, y5⟩⟩
    unfold readS
    rw [g1, y2]
end PCREAD4
