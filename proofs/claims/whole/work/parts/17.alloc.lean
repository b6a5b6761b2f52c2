/-! NEW CELLS -/
section ZALLOC
variable {Γ : zG} {cc : ByteArray} {own : String} {rm : Room} {nL k n pc : Nat} {σ : zS} {lv : List (Nat × Value)} {st : List Value} {ρ : Type} {R : ρ}
theorem zuN_k {q m a : Nat} : zk (zuN σ q m) a = if a = zx σ then q else zk σ a := rfl
theorem zuN_n {q m a : Nat} : zn (zuN σ q m) a = if a = zx σ then m else zn σ a := rfl
theorem zuN_i {q m a j : Nat} : zi (zuN σ q m) a j = if a = zx σ then 0 else zi σ a j := rfl
theorem zuN_r {q m a j : Nat} : zr (zuN σ q m) a j = if a = zx σ then none else zr σ a j := rfl
theorem zuN_l {q m a j : Nat} : zl (zuN σ q m) a j = if a = zx σ then 0 else zl σ a j := rfl
theorem zuN_x {q m : Nat} : zx (zuN σ q m) = zx σ + 1 := rfl
theorem zrep_new {D : va_G} {cs : zCs} {z0 : Nat} {H H' : Heap} {q m : Nat} (hP : zrep D cs z0 σ H) (z : H'.size = H.size + 1) (o : ∀ x, x < H.size → H'[x]? = H[x]?)
    (g1 : ∀ (ci : Nat) (qc : vw_C), vwCl[ci]? = some qc → q = ci + 1 → t_OB (zx σ) (D.1 ci) qc.2.2 (D.2 ci) H' (zV (zuN σ q m) ci (zx σ)))
    (g2 : q = 20 → H'[zx σ]? = some (arrV cs.1 m (fun _ => .int 0)))
    (g3 : q = 21 → H'[zx σ]? = some (arrV cs.2.1 m (fun _ => .int 0)))
    (g4 : q = 22 → H'[zx σ]? = some (arrV cs.2.2.1 m (fun _ => va_rf none)))
    (g5 : q = 23 → H'[zx σ]? = some (arrV cs.2.2.2 m (fun _ => .long 0))) : zrep D cs z0 (zuN σ q m) H' := by
  obtain ⟨h1, h2, h3, h4, h5, h6, h7, h8⟩ := hP
  have ap : ∀ a, zk σ a ≠ 0 → a ≠ zx σ ∧ a < H.size := fun a ha => by
    have := (h3 a ha).2
    exact ⟨by omega, by omega⟩
  refine ⟨by rw [z, h1]; rfl, by rw [zuN_x]; omega, ?_, ?_, ?_, ?_, ?_, ?_⟩
  · intro a ha
    rw [zuN_k] at ha
    rw [zuN_x]
    by_cases e : a = zx σ
    · exact ⟨by omega, by omega⟩
    · rw [if_neg e] at ha
      have := h3 a ha
      exact ⟨this.1, by omega⟩
  · intro ci qc hq a ha
    rw [zuN_k] at ha
    by_cases e : a = zx σ
    · rw [if_pos e] at ha
      rw [e]
      exact g1 ci qc hq ha
    · rw [if_neg e] at ha
      refine ((h4 ci qc hq a ha).kept (o a (ap a (by omega)).2)).to (fun j _ => ?_)
      unfold zV
      rw [zuN_i, zuN_r, if_neg e, if_neg e]
  · intro a ha
    rw [zuN_k] at ha
    by_cases e : a = zx σ
    · rw [if_pos e] at ha
      subst e
      rw [g2 ha, zuN_n, if_pos rfl]
      congr 2
      funext j
      rw [zuN_i, if_pos rfl]
    · rw [if_neg e] at ha
      rw [o a (ap a (by omega)).2, h5 a ha, zuN_n, if_neg e]
      congr 2
      funext j
      rw [zuN_i, if_neg e]
  · intro a ha
    rw [zuN_k] at ha
    by_cases e : a = zx σ
    · rw [if_pos e] at ha
      subst e
      rw [g3 ha, zuN_n, if_pos rfl]
      congr 2
      funext j
      rw [zuN_i, if_pos rfl]
    · rw [if_neg e] at ha
      rw [o a (ap a (by omega)).2, h6 a ha, zuN_n, if_neg e]
      congr 2
      funext j
      rw [zuN_i, if_neg e]
  · intro a ha
    rw [zuN_k] at ha
    by_cases e : a = zx σ
    · rw [if_pos e] at ha
      subst e
      rw [g4 ha, zuN_n, if_pos rfl]
      congr 2
      funext j
      rw [zuN_r, if_pos rfl]
    · rw [if_neg e] at ha
      rw [o a (ap a (by omega)).2, h7 a ha, zuN_n, if_neg e]
      congr 2
      funext j
      rw [zuN_r, if_neg e]
  · intro a ha
    rw [zuN_k] at ha
    by_cases e : a = zx σ
    · rw [if_pos e] at ha
      subst e
      rw [g5 ha, zuN_n, if_pos rfl]
      congr 2
      funext j
      rw [zuN_l, if_pos rfl]
    · rw [if_neg e] at ha
      rw [o a (ap a (by omega)).2, h8 a ha, zuN_n, if_neg e]
      congr 2
      funext j
      rw [zuN_l, if_neg e]
theorem zS_new {z0 : Nat} {H0 H H' : Heap} {locs : List Loc} (hS : va_S (fun q => z0 ≤ q) H0 H locs) (z : H'.size = H.size + 1) (o : ∀ x, x < H.size → H'[x]? = H[x]?) : va_S (fun q => z0 ≤ q) H0 H' locs := ⟨by rw [z]; exact Nat.le_succ_of_le hS.1, fun q h1 h2 => by rw [o q (Nat.lt_of_lt_of_le h1 hS.1)]; exact hS.2.1 q h1 h2, hS.2.2⟩
theorem zdef {ci j : Nat} {t : FieldType} (h : zty ci j = t) (ht : t = .int ∨ t = .boolean ∨ zref t = true) {q m : Nat} : defaultValue t = zV (zuN σ q m) ci (zx σ) j := by
  unfold zV
  rw [h, zuN_i, zuN_r, if_pos rfl, if_pos rfl]
  rcases ht with rfl | rfl | ht
  · rfl
  · rfl
  · rw [if_pos ht]
    cases t <;> first | (cases ht; done) | rfl
theorem zs_new (E : zE Γ cc own nL rm) {ci : Nat} {C : String} {T : u_T} {N : Nat} (hC : zC ci C T N) {idx : Nat} (hw : Cond.classLink own idx C ∈ wsL_law0) (hi : Cond.instantiable C N ∈ wsL_law0) (hini : Cond.initialized C ∈ wsL_law0) (hty : ∀ j, j < N → zty ci j = .int ∨ zty ci j = .boolean ∨ zref (zty ci j) = true) (hcs : k + 1 ≤ rm.cells ∧ n + N ≤ rm.slots) (hd : decode cc pc = .ok (.new idx, 3)) (kk : zJ Γ nL (k + 1) (n + N) (zuN σ (ci + 1) 0) (pc + 3) lv (.ref (zx σ) :: st)) : zJ Γ nL k n σ pc lv st := by
  intro H locs ls hP hS hl
  obtain ⟨hc, hin, htyp, hnm⟩ := hC
  have hKn := E.hK.1.1 ci _ hc
  refine W.newcK E.hx E.hb E.ho (E.ht _ hw) (E.ht _ hi) (E.ht _ hini) rfl hd (by rw [E.hR]; exact hcs.1) (by rw [E.hR]; exact hcs.2) hKn.2.1 hP.1 fun H1 kC hkC e1 z1 o1 => ?_
  have hz : H1.size = H.size + 1 := by rw [z1, hP.1]
  have ho : ∀ x, x < H.size → H1[x]? = H[x]? := fun x hx => o1 x (by rw [← hP.1]; exact hx)
  refine kk H1 locs ls (zrep_new hP hz ho ?_ (fun h => ?_) (fun h => ?_) (fun h => ?_) (fun h => ?_)) (zS_new hS hz ho) hl
  · intro ci' qc hq e
    have e' : ci' = ci := by omega
    subst e'
    cases hq.symm.trans hc
    exact (u_born (zty ci') E.ht hin hKn hkC e1 htyp).to (fun j hj => zdef rfl (hty j hj))
  all_goals (have := vwCl_lt hc; omega)
theorem zs_newB (E : zE Γ cc own nL rm) {m : Int32} {N : Nat} (hw : Cond.arrayClass .byte ∈ wsL_law0) (hm : 0 ≤ m) (hN : m.toNatClampNeg = N) (hb : N ≤ 100000) (hcs : k + 1 ≤ rm.cells ∧ n + N ≤ rm.slots) (hd : decode cc pc = .ok (.newarray .byte, 2)) (kk : zJ Γ nL (k + 1) (n + N) (zuN σ 20 N) (pc + 2) lv (.ref (zx σ) :: st)) : zJ Γ nL k n σ pc lv (.int m :: st) := by
  intro H locs ls hP hS hl
  refine va_newaK (atype := .byte) E.hx E.hb (E.ht _ hw) rfl hd rfl (znn hm).1 hN (by show N * 1 ≤ _; omega) (by rw [E.hR]; exact hcs.1) (by rw [E.hR]; exact hcs.2) hP.1 fun H1 cA e1 z1 o1 hAr hNm => ?_
  have hz : H1.size = H.size + 1 := by rw [z1, hP.1]
  have ho : ∀ x, x < H.size → H1[x]? = H[x]? := fun x hx => o1 x (by rw [← hP.1]; exact hx)
  have hcA : cA = (zgC Γ).1 := Option.some.inj (hNm.symm.trans (E.hK.1.2 0 _ rfl).2)
  subst hcA
  refine kk H1 locs ls (zrep_new hP hz ho (fun ci qc hq e => ?_) (fun _ => e1) (fun h => by omega) (fun h => by omega) (fun h => by omega)) (zS_new hS hz ho) hl
  have := vwCl_lt hq; omega
theorem zs_newI (E : zE Γ cc own nL rm) {m : Int32} {N : Nat} (hw : Cond.arrayClass .int ∈ wsL_law0) (hm : 0 ≤ m) (hN : m.toNatClampNeg = N) (hb : N ≤ 100000) (hcs : k + 1 ≤ rm.cells ∧ n + N ≤ rm.slots) (hd : decode cc pc = .ok (.newarray .int, 2)) (kk : zJ Γ nL (k + 1) (n + N) (zuN σ 21 N) (pc + 2) lv (.ref (zx σ) :: st)) : zJ Γ nL k n σ pc lv (.int m :: st) := by
  intro H locs ls hP hS hl
  refine va_newaK (atype := .int) E.hx E.hb (E.ht _ hw) rfl hd rfl (znn hm).1 hN (by show N * 4 ≤ _; omega) (by rw [E.hR]; exact hcs.1) (by rw [E.hR]; exact hcs.2) hP.1 fun H1 cA e1 z1 o1 hAr hNm => ?_
  have hz : H1.size = H.size + 1 := by rw [z1, hP.1]
  have ho : ∀ x, x < H.size → H1[x]? = H[x]? := fun x hx => o1 x (by rw [← hP.1]; exact hx)
  have hcA : cA = (zgC Γ).2.1 := Option.some.inj (hNm.symm.trans (E.hK.1.2 1 _ rfl).2)
  subst hcA
  refine kk H1 locs ls (zrep_new hP hz ho (fun ci qc hq e => ?_) (fun h => by omega) (fun _ => e1) (fun h => by omega) (fun h => by omega)) (zS_new hS hz ho) hl
  have := vwCl_lt hq; omega
theorem zs_newL (E : zE Γ cc own nL rm) {m : Int32} {N : Nat} (hw : Cond.arrayClass .long ∈ wsL_law0) (hm : 0 ≤ m) (hN : m.toNatClampNeg = N) (hb : N ≤ 100000) (hcs : k + 1 ≤ rm.cells ∧ n + N ≤ rm.slots) (hd : decode cc pc = .ok (.newarray .long, 2)) (kk : zJ Γ nL (k + 1) (n + N) (zuN σ 23 N) (pc + 2) lv (.ref (zx σ) :: st)) : zJ Γ nL k n σ pc lv (.int m :: st) := by
  intro H locs ls hP hS hl
  refine va_newaK (atype := .long) E.hx E.hb (E.ht _ hw) rfl hd rfl (znn hm).1 hN (by show N * 8 ≤ _; omega) (by rw [E.hR]; exact hcs.1) (by rw [E.hR]; exact hcs.2) hP.1 fun H1 cA e1 z1 o1 hAr hNm => ?_
  have hz : H1.size = H.size + 1 := by rw [z1, hP.1]
  have ho : ∀ x, x < H.size → H1[x]? = H[x]? := fun x hx => o1 x (by rw [← hP.1]; exact hx)
  have hcA : cA = (zgC Γ).2.2.2 := Option.some.inj (hNm.symm.trans (E.hK.1.2 3 _ rfl).2)
  subst hcA
  refine kk H1 locs ls (zrep_new hP hz ho (fun ci qc hq e => ?_) (fun h => by omega) (fun h => by omega) (fun h => by omega) (fun _ => e1)) (zS_new hS hz ho) hl
  have := vwCl_lt hq; omega
theorem zs_newP (E : zE Γ cc own nL rm) {m : Int32} {N idx : Nat} (hw : Cond.classLink own idx "FrameReel$Picture" ∈ wsL_law0) (hm : 0 ≤ m) (hN : m.toNatClampNeg = N) (hb : N ≤ 100000) (hcs : k + 1 ≤ rm.cells ∧ n + N ≤ rm.slots) (hd : decode cc pc = .ok (.anewarray idx, 3)) (kk : zJ Γ nL (k + 1) (n + N) (zuN σ 22 N) (pc + 3) lv (.ref (zx σ) :: st)) : zJ Γ nL k n σ pc lv (.int m :: st) := by
  intro H locs ls hP hS hl
  subst hN
  refine W.anew E.hx E.hb E.ho (E.ht _ hw) (va_AO.use E.hK.2.2.2.2.2) rfl hd rfl (znn hm).1 (by omega) (by rw [E.hR]; exact hcs.1) (by rw [E.hR]; exact hcs.2) fun cA kA comp f1 f2 f3 f4 => ?_
  obtain ⟨kA2, comp2, -, -, -, hNm⟩ := (E.hK.1.2 2 _ rfl).2
  have hcA : cA = (zgC Γ).2.2.1 := Option.some.inj (f1.symm.trans hNm)
  generalize hH1 : H.push ({ cls := cA, slots := Array.replicate m.toNatClampNeg .null, vm := .none } : Cell) = H1
  have hz : H1.size = H.size + 1 := by rw [← hH1, Array.size_push]
  have e1 : H1[H.size]? = some (arrV cA m.toNatClampNeg (fun _ => .null)) := by rw [← hH1, Array.getElem?_push_size, ← arrV_new]
  have ho : ∀ x, x < H.size → H1[x]? = H[x]? := fun x hx => by rw [← hH1, Array.getElem?_push, if_neg (Nat.ne_of_lt hx)]
  have kk' := kk H1 locs ls (zrep_new hP hz ho (fun ci qc hq e => by have := vwCl_lt hq; omega) (fun h => by omega) (fun h => by omega) (fun _ => by rw [← hP.1, ← hcA]; exact e1) (fun h => by omega)) (zS_new hS hz ho) hl
  rw [← hP.1] at kk'
  exact kk'
def oSr {ρ : Type} (σ : zS) (a : Nat) (i : Int32) (v : Nat) (f : zS → Option ρ) : Option ρ := if zk σ a = 22 ∧ zk σ v = 4 ∧ 0 ≤ i ∧ i.toNatClampNeg < zn σ a then f (zuR σ a i.toNatClampNeg (some v)) else none
theorem zs_aast (E : zE Γ cc own nL rm) {a v : Nat} {i : Int32} (hd : decode cc pc = .ok (.aastore, 1)) {f : zS → Option ρ} (h : oSr σ a i v f = some R) (kk : ∀ σ, f σ = some R → zJ Γ nL k n σ (pc + 1) lv st) : zJ Γ nL k n σ pc lv (.ref v :: .int i :: .ref a :: st) := by
  intro H locs ls hP hS hl
  unfold oSr at h
  by_cases hk : zk σ a = 22 ∧ zk σ v = 4 ∧ 0 ≤ i ∧ i.toNatClampNeg < zn σ a
  · rw [if_pos hk] at h
    obtain ⟨cellV, g1, g2, g3, -⟩ := hP.2.2.2.1 3 _ zc3.1 v hk.2.1
    have hcls := (E.hK.1.1 3 _ zc3.1).2
    obtain ⟨kA, comp, k1, k2, k3, -⟩ := (E.hK.1.2 2 _ rfl).2
    have hcomp : comp = (zgD Γ).1 3 := Option.some.inj (k3.symm.trans hcls.1)
    subst hcomp
    obtain ⟨kC, hkC, -⟩ := hcls.2
    refine W.aast E.hx E.hb (hP.2.2.2.2.2.2.1 a hk.1) (fun q h => by cases h) (fun h => by cases h) k1 k2 rfl hkC ⟨(znn hk.2.2.1).1, by rw [arrV_size]; exact hk.2.2.2⟩ g1 (fun q h => by rw [g3] at h; cases h) (by rw [g2]; exact hkC) (by rw [g2]; exact va_assign hcls) rfl rfl hd fun H' e1 e2 e3 => ?_
    rw [zarr_set hk.2.2.2] at e1
    refine kk _ h H' _ ls (zrep_set (a := a) hP rfl rfl rfl zeoR e2 e3 (fun ci q hq hz => ?_) (fun hz => by omega) (fun hz => by omega) (fun _ => ?_) (fun hz => by omega)) (zS_put hS e2 e3 (hP.2.2.1 a (by rw [hk.1]; decide)).1) hl
    · have := vwCl_lt hq; omega
    · rw [e1]
      congr 2
      funext j
      rw [zuR_at]
      unfold updV
      by_cases e : j = i.toNatClampNeg
      · rw [if_pos e, if_pos e]; rfl
      · rw [if_neg e, if_neg e]
  · rw [if_neg hk] at h; cases h
/-- a final field of this class, in its constructor -/
theorem zs_putFR (E : zE Γ cc own nL rm) {ci : Nat} {C : String} {T : u_T} {N : Nat} (hC : zC ci C T N) (hin2 : (zgt Γ).name = "<init>") (j : Nat) (hj : j < N) {idx a b : Nat} (hw : Cond.fieldLink own idx (T j).1 (T j).2.1 (T j).2.2.1 ∈ wsL_law0) (hfin : (T j).2.2.2 = true) (hdecl : (T j).1 = own) (ht : zref (zty ci j) = true) (hd : decode cc pc = .ok (.putfield idx, 3)) {f : zS → Option ρ} (h : oPR σ (ci + 1) a j b f = some R) (kk : ∀ σ, f σ = some R → zJ Γ nL k n σ (pc + 3) lv st) : zJ Γ nL k n σ pc lv (.ref b :: .ref a :: st) := by
  unfold oPR at h
  by_cases ha : zk σ a = ci + 1
  · rw [if_pos ha] at h
    intro H locs ls hP hS hl
    obtain ⟨hc, hin, hty, hnm⟩ := hC
    have hK := E.hK.1
    have hap := va_apart (own := own) E.ht hin (zty ci) hty hnm hK hc
    obtain ⟨cell, q1, q2, q3, q4⟩ := hP.2.2.2.1 ci _ hc a ha
    obtain ⟨hS0, hfc, kC, hkC, hkind⟩ := hK.1 ci _ hc
    obtain ⟨cf, kf, fi, f9, hi, hsl⟩ := hS0 j hj
    have hlay := E.ht _ (hin _ (u_in_lay hj))
    unfold u_lay at hlay
    rw [if_pos hfin] at hlay
    have hst := (u_facts hfc hkC (u_lays E.ht hin hj) hi).1
    have hcf : (zgm Γ).cls = cf := by
      obtain ⟨_, _, c', _, _, _, -, -, hf', -, -, -, hown2, -⟩ := Cond.laysFinal_spec hlay
      have e1 : c' = cf := by have := hi.symm.trans hf'; simp at this; exact this.1.symm
      rw [hdecl] at hown2
      rw [← e1]; exact Option.some.inj (E.ho.symm.trans hown2)
    have h6 := u_fits hfc hkC hkind (Or.inr hlay) hi (hty j hj) (zref_fits ht).1 (zref_fits (b := b) ht).2
    refine W.putFinK E.hx E.hb E.ho (E.ht _ hw) hi hst hcf hin2 (by rw [q2]; exact h6) q1 q3 (by rw [hsl]; exact k2_hasslot (q4 j hj)) rfl rfl hd fun H' e1 e2 e3 => ?_
    rw [hsl] at e1 ⊢
    exact kk _ h H' _ ls (zrep_fld hP hc ha rfl rfl rfl zeoR e2 e3 ⟨_, e1, q2, q3, t_set q4 hap hj _⟩ (zV_uR ht) (fun _ h => zV_uRn h)) (zS_put hS e2 e3 (hP.2.2.1 a (by rw [ha]; omega)).1) hl
  · rw [if_neg ha] at h; cases h
theorem zs_obj (E : zE Γ cc own nL rm) {idx a : Nat} (hw : Cond.methodLink own idx objectInit ∈ wsL_law0) (h1 : Cond.instanceMethod objectInit ∈ wsL_law0) (h2 : Cond.code objectInit ⟨#[0xb1]⟩ 1 none ∈ wsL_law0) (hf : 1 ≤ rm.frames) (hl9 : (st.map fun v => v.category).sum + 12 ≤ rm.locals) (hd : decode cc pc = .ok (.invokespecial idx, 3)) (kk : zJ Γ nL k n σ (pc + 3) lv st) : zJ Γ nL k n σ pc lv (.ref a :: st) := by
  intro H locs ls hP hS hl
  exact W.objInit E.hx E.hb E.ho (E.ht _ hw) (E.ht _ h1) (E.ht _ h2) rfl (by rw [E.hm]; exact hl.1) rfl hd (by rw [E.hR]; exact hf) (by rw [E.hR]; show 2 * 0 + _ + 12 ≤ _; omega) (kk H locs ls hP hS hl)
end ZALLOC
