/-! Unpacker: coded blocks -/
def lenA (k : Nat) : Nat := ([3, 4, 5, 6, 7, 8, 9, 10, 11, 13, 15, 17, 19, 23, 27, 31, 35, 43, 51, 59, 67, 83, 99, 115, 131, 163, 195, 227, 258] : List Nat).getD k 0
def lenB (k : Nat) : Nat := ([0, 0, 0, 0, 0, 0, 0, 0, 1, 1, 1, 1, 2, 2, 2, 2, 3, 3, 3, 3, 4, 4, 4, 4, 5, 5, 5, 5, 0] : List Nat).getD k 0
def dstA (k : Nat) : Nat := ([1, 2, 3, 4, 5, 7, 9, 13, 17, 25, 33, 49, 65, 97, 129, 193, 257, 385, 513, 769, 1025, 1537, 2049, 3073, 4097, 6145, 8193, 12289, 16385, 24577] : List Nat).getD k 0
def dstB (k : Nat) : Nat := ([0, 0, 0, 0, 1, 1, 2, 2, 3, 3, 4, 4, 5, 5, 6, 6, 7, 7, 8, 8, 9, 9, 10, 10, 11, 11, 12, 12, 13, 13] : List Nat).getD k 0
theorem len_zt : ∀ k, k < 29 → zt3.getD k 0 = nI (lenA k) ∧ zt4.getD k 0 = nI (lenB k) ∧ 3 ≤ lenA k ∧ lenA k ≤ 258 ∧ lenB k ≤ 5 := by decide +kernel
theorem dst_zt : ∀ k, k < 30 → zt5.getD k 0 = nI (dstA k) ∧ zt6.getD k 0 = nI (dstB k) ∧ 1 ≤ dstA k ∧ dstA k ≤ 24577 ∧ dstB k ≤ 13 := by decide +kernel
def copyS (out : List Nat) (far : Nat) : Nat → List Nat
  | 0 => out
  | n + 1 => copyS out far n ++ [(copyS out far n).getD ((copyS out far n).length - far) 0]
theorem copyS_len (out : List Nat) (far : Nat) : ∀ n, (copyS out far n).length = out.length + n
  | 0 => rfl
  | n + 1 => by rw [copyS, List.length_append, copyS_len out far n]; rfl
def matchS (pk : List Nat) (D : Nat → Nat) (Dn k pos : Nat) (out : List Nat) : Option (Nat × List Nat) :=
  match takeS pk pos (lenB k) with
  | none => none
  | some (v1, p1) => match symS (pb pk) pk.length p1 D Dn with
    | none => none
    | some (d, p2) => if d < 30 then (match takeS pk p2 (dstB d) with
      | none => none
      | some (v2, p3) => if dstA d + v2 ≤ out.length ∧ out.length + (lenA k + v1) ≤ 1100 then some (p3, copyS out (dstA d + v2) (lenA k + v1)) else none) else none
/-- one symbol: goes on (inl) or ends (inr) -/
def codedT (pk : List Nat) (L : Nat → Nat) (M : Nat) (D : Nat → Nat) (Dn pos : Nat) (out : List Nat) : Option ((Nat × List Nat) ⊕ (Nat × List Nat)) :=
  match symS (pb pk) pk.length pos L M with
  | none => none
  | some (s, p1) => if s = 256 then some (.inr (p1, out)) else if 1100 ≤ out.length then none else if s < 256 then some (.inl (p1, out ++ [s])) else if s - 257 < 29 then (match matchS pk D Dn (s - 257) p1 out with
      | none => none
      | some x => some (.inl x)) else none
def codedF (pk : List Nat) (L : Nat → Nat) (M : Nat) (D : Nat → Nat) (Dn : Nat) : Nat → Nat → List Nat → Option (Nat × List Nat)
  | 0, _, _ => none
  | k + 1, pos, out => match codedT pk L M D Dn pos out with
    | none => none
    | some (.inl x) => codedF pk L M D Dn k x.1 x.2
    | some (.inr x) => some x
def codedS (pk : List Nat) (L : Nat → Nat) (M : Nat) (D : Nat → Nat) (Dn pos : Nat) (out : List Nat) : Option (Nat × List Nat) := codedF pk L M D Dn 1101 pos out
theorem oGR_eq {ρ : Type} {σ : zS} {c a k b : Nat} {f : Nat → Option ρ} (hk : zk σ a = c) (hr : zr σ a k = some b) : oGR σ c a k f = f b := by unfold oGR; rw [if_pos hk, hr]; rfl
theorem oGI_eq {ρ : Type} {σ : zS} {c a k : Nat} {v : Int32} {f : Int32 → Option ρ} (hk : zk σ a = c) (hv : zi σ a k = v) : oGI σ c a k f = f v := by unfold oGI; rw [if_pos hk, hv]
theorem oA_eq {ρ : Type} {p : Prop} [Decidable p] {f : Option ρ} (h : p) : oA p f = f := by unfold oA; rw [if_pos h]
theorem oB_eq {α ρ : Type} {x : Option α} {a : α} {f : α → Option ρ} (h : x = some a) : oB x f = f a := by rw [h]; rfl
theorem oC_eq {α ρ : Type} {x : Option (α × zS)} {a : α} {s : zS} {f : α → zS → Option ρ} (h : x = some (a, s)) : oC x f = f a s := by rw [h]; rfl
theorem oLt_eq {ρ : Type} {t : List Int32} {i v : Int32} {f : Int32 → Option ρ} (h0 : 0 ≤ i ∧ i.toNatClampNeg < t.length) (hv : t.getD i.toNatClampNeg 0 = v) : oLt t i f = f v := by unfold oLt; rw [if_pos h0, hv]
section PCODED
variable {σ : zS} {A : Nat → Nat} {pk out : List Nat} {pos : Nat}
theorem UX.of5 {a : Nat} (h : a = A 5) : UX A a := Or.inr (Or.inr h)
theorem UL.nUX (h : UL σ A) (i : Nat) (h1 : i < 3 ∨ 5 < i) (h2 : i < 19) : ¬ UX A (A i) := fun z => by
  rcases z with z | z | z
  · have := h.1 i 3 h2 (by decide) z; omega
  · have := h.1 i 4 h2 (by decide) z; omega
  · have := h.1 i 5 h2 (by decide) z; omega
theorem u_copy {far n : Nat} (h : US σ A pk out pos) (h1 : 1 ≤ far) (h2 : far ≤ out.length) (hn : out.length + n ≤ 1100) : ∃ σ', zloop zF (fun x => bX9_copyMatch_120 (A 0) (nI n) (nI far) x.1 x.2) (0, σ) = some σ' ∧ zsm (fun a => a = A 3 ∨ a = A 4) σ σ' ∧ US σ' A pk (copyS out far n) pos := by
  obtain ⟨l1, l2, l3, l4, -⟩ := id h.1
  have tn : (nI n).toInt = (n : Int) := zt_nI (by omega)
  obtain ⟨s, e, p1, p2⟩ := zloop_cnt (body := fun x => bX9_copyMatch_120 (A 0) (nI n) (nI far) x.1 x.2) (fun i x => x.1 = nI i ∧ zsm (fun a => a = A 3 ∨ a = A 4) σ x.2 ∧ US x.2 A pk (copyS out far i) pos) n (fun s => zsm (fun a => a = A 3 ∨ a = A 4) σ s ∧ US s A pk (copyS out far n) pos)
    (fun i x hi hx => by
      obtain ⟨k, s⟩ := x
      obtain ⟨x1, x2, x3⟩ := hx
      dsimp only at x1 x2 x3
      subst x1
      have ti : (nI i).toInt = (i : Int) := zt_nI (by omega)
      have hlen := copyS_len out far i
      have hb := x3.2.2.1
      have hsz : zi s (A 3) 1 = nI (copyS out far i).length := hb.1.2.2.2.2.1
      have sb : nI (copyS out far i).length - nI far = nI ((copyS out far i).length - far) := pk_sub (by omega)
      have hat := s_atN hb.1 (j := (copyS out far i).length - far) (by omega)
      rw [hb.2 _ (by omega)] at hat
      have hlt : (copyS out far i).getD ((copyS out far i).length - far) 0 < 256 := hb.lt (by omega)
      obtain ⟨s', e', m', b'⟩ := s_addL hb (nI ((copyS out far i).getD ((copyS out far i).length - far) 0)) (by omega)
      rw [zbv_nat (by omega), Nat.mod_eq_of_lt hlt] at b'
      have a1 : nI i + 1 = nI (i + 1) := nI_1 i
      refine Or.inl ⟨(nI (i + 1), s'), ?_, rfl, x2.trans m', x3.1.of m', x3.2.1.of m' (fun z => z.elim (h.1.ne 1 3) (h.1.ne 1 4)) (fun z => z.elim (h.1.ne 2 3) (h.1.ne 2 4)), b', by rw [m'.i (fun z => z.elim (h.1.ne 5 3) (h.1.ne 5 4))]; exact x3.2.2.2.1, x3.2.2.2.2⟩
      have k3 : zk s (A 3) = 2 := hb.1.1
      have k30 : zk σ (A 3) = 2 := h.2.2.1.1.1
      unfold bX9_copyMatch_120
      simp only [oGR, oR, oGI, oA, oB, oL, x2.k, x2.r, l2, l4, k30, hsz, sb, hat, e', zle, ti, tn, a1, ↓reduceIte]
      rw [if_neg (by omega)])
    (fun x hx => by
      obtain ⟨k, s⟩ := x
      obtain ⟨x1, x2, x3⟩ := hx
      dsimp only at x1 x2 x3
      subst x1
      refine ⟨s, ?_, x2, x3⟩
      unfold bX9_copyMatch_120
      simp only [zle, Int.le_refl, ↓reduceIte]) zF (0, σ) ⟨nI_0.symm, zsm.rf, h⟩ (by unfold zF; omega)
  exact ⟨s, e, p1, p2⟩
theorem u_match {D : Nat → Nat} {Dn k : Nat} (h : US σ A pk out pos) (hD : CD σ (A 14) (A 15) (A 17) D Dn) (hDn : Dn ≤ 32) (hk : k < 31) :
    ∃ r σ', fX9_copyMatch σ (A 0) (nI k) = some (r, σ') ∧ zsm (UX A) σ σ' ∧ (((k < 29 → matchS pk D Dn k pos out = none) ∧ r = 0) ∨ ∃ p' o', k < 29 ∧ matchS pk D Dn k pos out = some (p', o') ∧ r = 1 ∧ US σ' A pk o' p') := by
  obtain ⟨l1, l2, l3, l4, l5, l6, l7, l8, l9, l10, l11, l12, l13, l14, l15, l16⟩ := id h.1
  have h29 : nI k < 29 ↔ k < 29 := nI_ltI (b := 29) (by omega) (by decide)
  by_cases c0 : k < 29
  · obtain ⟨z3, z4, za, za2, zb⟩ := len_zt k c0
    have tk : (nI k).toInt = (k : Int) := zt_nI (by omega)
    have hz4 : zt4.length = 29 := rfl
    have hz3 : zt3.length = 29 := rfl
    have hz5 : zt5.length = 30 := rfl
    have hz6 : zt6.length = 30 := rfl
    obtain ⟨x2, σ1, e1, m1, c1⟩ := u_take h (m := lenB k) (by omega)
    have m1' : zsm (UX A) σ σ1 := m1.mono (fun a z => UX.of5 z)
    have hU1 : ∃ p1, US σ1 A pk out p1 := by
      rcases c1 with ⟨-, -, q⟩ | ⟨_, -, -, -, q⟩
      · exact ⟨_, q⟩
      · exact ⟨_, q⟩
    obtain ⟨p1, h1⟩ := hU1
    have hD1 : CD σ1 (A 14) (A 15) (A 17) D Dn := hD.of m1 (h.1.ne 14 5) (h.1.ne 15 5) (h.1.ne 17 5)
    -- the head of the function
    have hpre : ∀ x3 σ2, fX0_symbol σ1 (A 5) (A 14) = some (x3, σ2) → gX9_copyMatch σ (A 0) (nI k) = (if x2 < 0 then some (0, σ2) else (if x3 < 0 then some (0, σ2) else (if x3 < (30 : Int32) then oGR σ2 9 (A 0) 2 (fun a4 => oLt zt6 x3 (fun x4 => oA (zk σ2 a4 = 1) (oC (fX0_take σ2 a4 x4) (fun x5 σ3 => oLt zt3 (nI k) (fun x6 => oL (x6 + x2) (fun v1 => oLt zt5 x3 (fun x7 => oL (x7 + x5) (fun v2 => (if x5 < 0 then some (0, σ3) else oGR σ3 9 (A 0) 1 (fun a5 => oGI σ3 2 a5 1 (fun x8 => (if x8 < v2 then some (0, σ3) else oGR σ3 9 (A 0) 1 (fun a6 => oA (zk σ3 a6 = 2) (oB (fX1_fits σ3 a6 v1) (fun x9 => (if x9 = 0 then some (0, σ3) else oB (zloop zF (fun x => bX9_copyMatch_120 (A 0) v1 v2 x.1 x.2) (0, σ3)) (fun b1 => (fun σ5 => some (1, σ5)) b1))))))))))))))))) else some (0, σ2)))) := by
      intro x3 σ2 e2
      have i4 : (0 : Int32) ≤ nI k ∧ (nI k).toNatClampNeg < zt4.length := by rw [zle, zt0', tk, znat, tk, Int.toNat_natCast, hz4]; exact ⟨by omega, c0⟩
      have w4 : zt4.getD (nI k).toNatClampNeg 0 = nI (lenB k) := by rw [znat, tk, Int.toNat_natCast]; exact z4
      unfold gX9_copyMatch
      rw [if_pos (h29.mpr c0), oGR_eq l2 l5, oLt_eq i4 w4, oA_eq l12, oC_eq e1, oGR_eq (by rw [m1.k]; exact l2) (by rw [m1.r]; exact l5), oGR_eq (by rw [m1.k]; exact l2) (by rw [m1.r]; exact l8), oA_eq (by rw [m1.k]; exact l12), oC_eq e2]
    rcases c1 with ⟨t1, rr, -⟩ | ⟨v1, t1, rr, bv1, h1'⟩
    · obtain ⟨x3, σ2, e2, m2, -⟩ := u_symbol h1 h1.1.2.2.2.2.2.2.2.2.2.2.2.2.2.2.2 hD1 (by omega)
      refine ⟨0, σ2, ?_, m1'.trans (m2.mono (fun a z => UX.of5 z)), Or.inl ⟨fun _ => by unfold matchS; rw [t1], rfl⟩⟩
      unfold fX9_copyMatch
      rw [hpre x3 σ2 e2, if_pos (by rw [rr]; decide)]
      simp only [oC, oA, true_or, ↓reduceIte]
    · subst rr
      have hpw1 : 2 ^ lenB k ≤ 2 ^ 5 := Nat.pow_le_pow_right (by decide) zb
      have n2 : ¬ nI v1 < 0 := nI_pos (by omega)
      obtain ⟨x3, σ2, e2, m2, c2⟩ := u_symbol h1' h1'.1.2.2.2.2.2.2.2.2.2.2.2.2.2.2.2 hD1 (by omega)
      have hp := hpre x3 σ2 e2
      rw [if_neg n2] at hp
      have m2' := m1'.trans (m2.mono (fun a z => (UX.of5 z : UX A a)))
      rcases c2 with ⟨t2, rr, -⟩ | ⟨d, p2, t2, rr, hd, h2⟩
      · refine ⟨0, σ2, ?_, m2', Or.inl ⟨fun _ => by unfold matchS; rw [t1]; dsimp only; rw [t2], rfl⟩⟩
        unfold fX9_copyMatch
        rw [hp, if_pos (by rw [rr]; decide)]
        simp only [oC, oA, true_or, ↓reduceIte]
      · subst rr
        have n3 : ¬ nI d < 0 := nI_pos (by omega)
        have h30 : nI d < 30 ↔ d < 30 := nI_ltI (b := 30) (by omega) (by decide)
        rw [if_neg n3] at hp
        by_cases c3 : d < 30
        · rw [if_pos (h30.mpr c3)] at hp
          obtain ⟨z5, z6, zd, zd2, zdb⟩ := dst_zt d c3
          have td : (nI d).toInt = (d : Int) := zt_nI (by omega)
          obtain ⟨x5, σ3, e3, m3, c4⟩ := u_take h2 (m := dstB d) (by omega)
          have m3' := m2'.trans (m3.mono (fun a z => (UX.of5 z : UX A a)))
          have a1 : nI (lenA k) + nI v1 = nI (lenA k + v1) := nI_add _ _
          have hp2 : gX9_copyMatch σ (A 0) (nI k) = (if x5 < 0 then some (0, σ3) else oGR σ3 9 (A 0) 1 (fun a5 => oGI σ3 2 a5 1 (fun x8 => (if x8 < (nI (dstA d) + x5) then some (0, σ3) else oGR σ3 9 (A 0) 1 (fun a6 => oA (zk σ3 a6 = 2) (oB (fX1_fits σ3 a6 (nI (lenA k + v1))) (fun x9 => (if x9 = 0 then some (0, σ3) else oB (zloop zF (fun x => bX9_copyMatch_120 (A 0) (nI (lenA k + v1)) (nI (dstA d) + x5) x.1 x.2) (0, σ3)) (fun b1 => (fun σ5 => some (1, σ5)) b1))))))))) := by
            rw [hp]
            have i6 : (0 : Int32) ≤ nI d ∧ (nI d).toNatClampNeg < 30 := by rw [zle, zt0', td, znat, td, Int.toNat_natCast]; exact ⟨by omega, c3⟩
            have i3 : (0 : Int32) ≤ nI k ∧ (nI k).toNatClampNeg < 29 := by rw [zle, zt0', tk, znat, tk, Int.toNat_natCast]; exact ⟨by omega, c0⟩
            have w6 : zt6.getD (nI d).toNatClampNeg 0 = nI (dstB d) := by rw [znat, td, Int.toNat_natCast]; exact z6
            have w5 : zt5.getD (nI d).toNatClampNeg 0 = nI (dstA d) := by rw [znat, td, Int.toNat_natCast]; exact z5
            have w3 : zt3.getD (nI k).toNatClampNeg 0 = nI (lenA k) := by rw [znat, tk, Int.toNat_natCast]; exact z3
            simp only [oGR, oR, oA, oC, oLt, oL, hz3, hz5, hz6, i6, i3, w6, w5, w3, and_self, m2'.k, m2'.r, l2, l5, l12, e3, a1, ↓reduceIte]
          rcases c4 with ⟨t3, rr, -⟩ | ⟨v2, t3, rr, bv2, h3⟩
          · refine ⟨0, σ3, ?_, m3', Or.inl ⟨fun _ => by unfold matchS; rw [t1]; dsimp only; rw [t2]; dsimp only; rw [if_pos c3, t3], rfl⟩⟩
            unfold fX9_copyMatch
            rw [hp2, if_pos (by rw [rr]; decide)]
            simp only [oC, oA, true_or, ↓reduceIte]
          · subst rr
            have hpw2 : 2 ^ dstB d ≤ 2 ^ 13 := Nat.pow_le_pow_right (by decide) zdb
            have n5 : ¬ nI v2 < 0 := nI_pos (by omega)
            have a2 : nI (dstA d) + nI v2 = nI (dstA d + v2) := nI_add _ _
            have hol := h.plen
            have hsz : zi σ3 (A 3) 1 = nI out.length := h3.2.2.1.1.2.2.2.2.1
            have hlt : nI out.length < nI (dstA d + v2) ↔ out.length < dstA d + v2 := nI_ltI (by omega) (by omega)
            have hfit := s_fits h3.2.2.1.1 (nI (lenA k + v1))
            rw [zt_nI (by omega)] at hfit
            have hms : matchS pk D Dn k pos out = if dstA d + v2 ≤ out.length ∧ out.length + (lenA k + v1) ≤ 1100 then some (p2 + dstB d, copyS out (dstA d + v2) (lenA k + v1)) else none := by
              unfold matchS; rw [t1]; dsimp only; rw [t2]; dsimp only; rw [if_pos c3, t3]
            rw [if_neg n5, a2] at hp2
            simp only [oGR, oR, oGI, oA, m3'.k, m3'.r, l2, l4, h.2.2.1.1.1, hsz, hlt, ↓reduceIte] at hp2
            by_cases c5 : out.length < dstA d + v2
            · refine ⟨0, σ3, ?_, m3', Or.inl ⟨fun _ => by rw [hms, if_neg (by omega)], rfl⟩⟩
              unfold fX9_copyMatch
              rw [hp2, if_pos c5]
              simp only [oC, oA, true_or, ↓reduceIte]
            · rw [if_neg c5] at hp2
              by_cases c6 : out.length + (lenA k + v1) ≤ 1100
              · rw [if_pos (by omega)] at hfit
                obtain ⟨σ4, e4, m4, h4⟩ := u_copy (far := dstA d + v2) (n := lenA k + v1) h3 (by omega) (by omega) c6
                refine ⟨1, σ4, ?_, m3'.trans (m4.mono (fun a z => z.elim Or.inl (fun z => Or.inr (Or.inl z)))), Or.inr ⟨_, _, c0, by rw [hms, if_pos (by omega)], rfl, h4⟩⟩
                unfold fX9_copyMatch
                rw [hp2]
                simp only [oB, oC, oA, hfit, e4, or_true, ↓reduceIte, show ¬ ((1 : Int32) = 0) from by decide]
              · rw [if_neg (by omega)] at hfit
                refine ⟨0, σ3, ?_, m3', Or.inl ⟨fun _ => by rw [hms, if_neg (by omega)], rfl⟩⟩
                unfold fX9_copyMatch
                rw [hp2]
                simp only [oB, oC, oA, hfit, true_or, ↓reduceIte]
        · rw [if_neg (fun z => c3 (h30.mp z))] at hp
          refine ⟨0, σ2, ?_, m2', Or.inl ⟨fun _ => by unfold matchS; rw [t1]; dsimp only; rw [t2]; dsimp only; rw [if_neg c3], rfl⟩⟩
          unfold fX9_copyMatch
          rw [hp]
          simp only [oC, oA, true_or, ↓reduceIte]
  · refine ⟨0, σ, ?_, zsm.rf, Or.inl ⟨fun q => absurd q c0, rfl⟩⟩
    unfold fX9_copyMatch gX9_copyMatch
    rw [if_neg (fun z => c0 (h29.mp z))]
    simp only [oC, oA, true_or, ↓reduceIte]
theorem u_codedN {L D : Nat → Nat} {M Dn N : Nat} (hN : N = 1101) (h : US σ A pk out pos) (hL : CD σ (A 10) (A 11) (A 13) L M) (hD : CD σ (A 14) (A 15) (A 17) D Dn) (hM : M ≤ 288) (hDn : Dn ≤ 32) :
    ∃ r σ', fX9_unpackCoded σ (A 0) = some (r, σ') ∧ zsm (UX A) σ σ' ∧ ((codedF pk L M D Dn N pos out = none ∧ r = 0) ∨ ∃ p' o', codedF pk L M D Dn N pos out = some (p', o') ∧ r = 1 ∧ US σ' A pk o' p') := by
  obtain ⟨l1, l2, l3, l4, l5, l6, l7, l8, l9, l10, l11, l12, l13, l14, l15, l16⟩ := id h.1
  have t1100 : (1100 : Int32).toInt = 1100 := by decide
  obtain ⟨b, e, hb⟩ := zloop_cnt (body := fun x => bX9_unpackCoded_2 (A 0) x.1 x.2)
    (fun i x => ∃ p' o', x.1 = nI i ∧ zsm (UX A) σ x.2 ∧ US x.2 A pk o' p' ∧ codedF pk L M D Dn N pos out = codedF pk L M D Dn (N - i) p' o') N
    (fun b => match b with
      | .inl s => zsm (UX A) σ s ∧ codedF pk L M D Dn N pos out = none
      | .inr r => zsm (UX A) σ r.2 ∧ ((codedF pk L M D Dn N pos out = none ∧ r.1 = 0) ∨ ∃ p' o', codedF pk L M D Dn N pos out = some (p', o') ∧ r.1 = 1 ∧ US r.2 A pk o' p'))
    (fun i x hi hx => by
      obtain ⟨k, s⟩ := x
      obtain ⟨p', o', x1, x2, x3, x4⟩ := hx
      dsimp only at x1 x2 x3
      subst x1
      have ti : (nI i).toInt = (i : Int) := zt_nI (by omega)
      have c0 : ¬ (1100 : Int32) < nI i := by rw [zlt, t1100, ti]; omega
      have es : N - i = (N - (i + 1)) + 1 := by omega
      rw [es, codedF] at x4
      unfold codedT at x4
      have hLs : CD s (A 10) (A 11) (A 13) L M := hL.of x2 (h.1.nUX 10 (by decide) (by decide)) (h.1.nUX 11 (by decide) (by decide)) (h.1.nUX 13 (by decide) (by decide))
      obtain ⟨y1, s1, g1, n1, k1⟩ := u_symbol x3 x3.1.2.2.2.2.2.2.2.2.2.2.2.2.2.2.1 hLs (by omega)
      have n1' := x2.trans (n1.mono (fun a z => (UX.of5 z : UX A a)))
      have a1 : nI i + 1 = nI (i + 1) := nI_1 i
      have hpre : bX9_unpackCoded_2 (A 0) (nI i) s = (if y1 = (256 : Int32) then some (.inr (.inr (1, s1))) else (if y1 < 0 then some (.inr (.inr (0, s1))) else oGR s1 9 (A 0) 1 (fun a3 => oA (zk s1 a3 = 2) (oB (fX1_fits s1 a3 1) (fun x2 => (if x2 = 0 then some (.inr (.inr (0, s1))) else (if (256 : Int32) ≤ y1 then oA (zk s1 (A 0) = 9) (oC (fX9_copyMatch s1 (A 0) ((y1 - (256 : Int32)) - (1 : Int32))) (fun x3 σ2 => (if x3 = 0 then some (.inr (.inr (0, σ2))) else fX9_unpackCoded_81 σ2 (A 0) (nI i)))) else oGR s1 9 (A 0) 1 (fun a4 => oA (zk s1 a4 = 2) (oB (fX1_add s1 a4 y1) (fun σ3 => fX9_unpackCoded_81 σ3 (A 0) (nI i))))))))))) := by
        unfold bX9_unpackCoded_2
        simp only [oGR, oR, oA, oC, x2.k, x2.r, l2, l5, l7, l12, g1, c0, ↓reduceIte]
      rcases k1 with ⟨w1, rr, -⟩ | ⟨sy, p1, w1, rr, hsy, w2⟩
      · rw [w1] at x4
        refine Or.inr ⟨.inr (0, s1), ?_, n1', Or.inl ⟨x4, rfl⟩⟩
        subst rr
        rw [hpre, if_neg (by decide), if_pos (by decide)]
      · subst rr
        rw [w1] at x4
        dsimp only at x4
        have h256 : nI sy = 256 ↔ sy = 256 := nI_eq (b := 256) (by omega) (by decide)
        have h256' : (256 : Int32) ≤ nI sy ↔ 256 ≤ sy := nI_leI (a := 256) (by decide) (by omega)
        by_cases d1 : sy = 256
        · rw [if_pos d1] at x4
          refine Or.inr ⟨.inr (1, s1), ?_, n1', Or.inr ⟨_, _, x4, rfl, w2⟩⟩
          rw [hpre, if_pos (h256.mpr d1)]
        · rw [if_neg d1] at x4
          rw [if_neg (fun z => d1 (h256.mp z)), if_neg (nI_pos (by omega))] at hpre
          have hfit := s_fits w2.2.2.1.1 1
          rw [show (1 : Int32).toInt = 1 from by decide] at hfit
          have hol := w2.plen
          have kk3 : zk σ (A 3) = 2 := h.2.2.1.1.1
          by_cases d2 : 1100 ≤ o'.length
          · rw [if_pos d2] at x4
            rw [if_neg (by omega)] at hfit
            simp only [oGR, oR, oA, oB, n1'.k, n1'.r, l2, l4, kk3, hfit, ↓reduceIte] at hpre
            exact Or.inr ⟨.inr (0, s1), hpre, n1', Or.inl ⟨x4, rfl⟩⟩
          · rw [if_neg d2] at x4
            rw [if_pos (by omega)] at hfit
            simp only [oGR, oR, oA, oB, n1'.k, n1'.r, l2, l4, kk3, hfit, show ¬ ((1 : Int32) = 0) from by decide, h256', ↓reduceIte] at hpre
            by_cases d3 : sy < 256
            · rw [if_pos d3] at x4
              rw [if_neg (by omega)] at hpre
              obtain ⟨s2, e2, m2, b2⟩ := s_addL w2.2.2.1 (nI sy) (by omega)
              rw [zbv_nat (by omega), Nat.mod_eq_of_lt d3] at b2
              have m2' := n1'.trans (m2.mono (fun a z => (z.elim Or.inl (fun z => Or.inr (Or.inl z)) : UX A a)))
              refine Or.inl ⟨(nI (i + 1), s2), ?_, p1, o' ++ [sy], rfl, m2', ⟨w2.1.of m2, w2.2.1.of m2 (fun z => z.elim (h.1.ne 1 3) (h.1.ne 1 4)) (fun z => z.elim (h.1.ne 2 3) (h.1.ne 2 4)), b2, by rw [m2.i (fun z => z.elim (h.1.ne 5 3) (h.1.ne 5 4))]; exact w2.2.2.2.1, w2.2.2.2.2⟩, x4⟩
              rw [hpre, e2]
              unfold fX9_unpackCoded_81
              simp only [oL, a1]
            · rw [if_neg d3] at x4
              rw [if_pos (by omega)] at hpre
              have sb : nI sy - 256 - 1 = nI (sy - 257) := by
                have q1 : nI sy - 256 = nI (sy - 256) := pk_sub (b := 256) (by omega)
                have q2 : nI (sy - 256) - 1 = nI (sy - 256 - 1) := pk_sub (b := 1) (by omega)
                rw [q1, q2, show sy - 256 - 1 = sy - 257 from by omega]
              rw [sb] at hpre
              have hDs : CD s1 (A 14) (A 15) (A 17) D Dn := hD.of n1' (h.1.nUX 14 (by decide) (by decide)) (h.1.nUX 15 (by decide) (by decide)) (h.1.nUX 17 (by decide) (by decide))
              obtain ⟨r3, s3, e3, m3, c3⟩ := u_match (k := sy - 257) w2 hDs hDn (by omega)
              have m3' := n1'.trans m3
              simp only [oC, e3] at hpre
              rcases c3 with ⟨q1, q2⟩ | ⟨p3, o3, q0, q1, q2, q3⟩
              · subst q2
                refine Or.inr ⟨.inr (0, s3), by rw [hpre, if_pos rfl], m3', Or.inl ⟨?_, rfl⟩⟩
                rw [x4]
                by_cases d4 : sy - 257 < 29
                · rw [if_pos d4, q1 d4]
                · rw [if_neg d4]
              · subst q2
                rw [if_pos q0, q1] at x4
                refine Or.inl ⟨(nI (i + 1), s3), ?_, p3, o3, rfl, m3', q3, x4⟩
                rw [hpre, if_neg (by decide)]
                unfold fX9_unpackCoded_81
                simp only [oL, a1])
    (fun x hx => by
      obtain ⟨k, s⟩ := x
      obtain ⟨p', o', x1, x2, x3, x4⟩ := hx
      dsimp only at x1 x2 x3
      subst x1
      refine ⟨.inl s, ?_, x2, by rw [x4, Nat.sub_self, codedF]⟩
      unfold bX9_unpackCoded_2
      have hd : (1100 : Int32) < nI N := by rw [hN]; decide
      exact if_pos hd) zF (0, σ) ⟨pos, out, nI_0.symm, zsm.rf, h, by rw [Nat.sub_zero]⟩ (by unfold zF; omega)
  unfold fX9_unpackCoded gX9_unpackCoded
  simp only [oB, e]
  cases b with
  | inl s =>
    obtain ⟨p1, p2⟩ := hb
    refine ⟨0, s, ?_, p1, Or.inl ⟨p2, rfl⟩⟩
    simp only [oS, oC, oA, true_or, ↓reduceIte]
  | inr r =>
    obtain ⟨r1, r2⟩ := r
    obtain ⟨p1, p2⟩ := hb
    dsimp only at p1 p2
    rcases p2 with ⟨q1, q2⟩ | ⟨p', o', q1, q2, q3⟩
    · subst q2
      refine ⟨0, r2, ?_, p1, Or.inl ⟨q1, rfl⟩⟩
      simp only [oS, oC, oA, true_or, ↓reduceIte]
    · subst q2
      refine ⟨1, r2, ?_, p1, Or.inr ⟨p', o', q1, rfl, q3⟩⟩
      simp only [oS, oC, oA, or_true, ↓reduceIte]
theorem u_coded {L D : Nat → Nat} {M Dn : Nat} (h : US σ A pk out pos) (hL : CD σ (A 10) (A 11) (A 13) L M) (hD : CD σ (A 14) (A 15) (A 17) D Dn) (hM : M ≤ 288) (hDn : Dn ≤ 32) :
    ∃ r σ', fX9_unpackCoded σ (A 0) = some (r, σ') ∧ zsm (UX A) σ σ' ∧ ((codedS pk L M D Dn pos out = none ∧ r = 0) ∨ ∃ p' o', codedS pk L M D Dn pos out = some (p', o') ∧ r = 1 ∧ US σ' A pk o' p') := by
  unfold codedS
  exact u_codedN rfl h hL hD hM hDn
end PCODED
