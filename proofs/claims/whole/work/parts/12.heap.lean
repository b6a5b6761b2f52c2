/-! ROWS THAT READ AND WRITE CELLS -/
theorem zty_ref {ci k : Nat} {t : FieldType} (h : zty ci k = t) (b : Bool) (hb : zref t = b) : zref (zty ci k) = b := by rw [h]; exact hb
section ZHEAP
variable {Γ : zG} {cc : ByteArray} {own : String} {rm : Room} {nL k n pc : Nat} {σ : zS} {lv : List (Nat × Value)} {st : List Value} {ρ : Type} {R : ρ}
theorem zfs_at {V : Nat → Value} {N j : Nat} (h : j < N) : ((List.range N).map V)[j]? = some (V j) := by
  rw [List.getElem?_map, List.getElem?_range h]; rfl
theorem zfs_V {V : Nat → Value} {N j : Nat} (h : j < N) : vp_V ((List.range N).map V) j = V j := by
  unfold vp_V
  rw [List.getD_eq_getElem?_getD, zfs_at h]; rfl
/-- one object as a list's world -/
theorem zone {D : va_G} {cs : zCs} {z0 : Nat} {H : Heap} {ci a : Nat} {C : String} {T : u_T} {N : Nat} (hP : zrep D cs z0 σ H) (hc : vwCl[ci]? = some (C, T, N)) (ha : zk σ a = ci + 1) : va_P D vwCl [(a, .inr (ci, (List.range N).map (zV σ ci a)))] H := by
  intro j q hq
  have hz : j < 1 := (List.getElem?_eq_some_iff.mp hq).1
  have hj : j = 0 := by omega
  subst hj
  cases hq
  exact ⟨_, hc, (hP.2.2.2.1 ci _ hc a ha).to (fun i hi => (zfs_V hi).symm)⟩
theorem zs_getI (E : zE Γ cc own nL rm) {ci : Nat} {C : String} {T : u_T} {N : Nat} (hC : zC ci C T N) (j : Nat) (hj : j < N) {idx a : Nat} (hw : Cond.fieldLink own idx (T j).1 (T j).2.1 (T j).2.2.1 ∈ wsL_law0) (ht : zref (zty ci j) = false) (hd : decode cc pc = .ok (.getfield idx, 3)) {f : Int32 → Option ρ} (h : oGI σ (ci + 1) a j f = some R) (kk : ∀ x, f x = some R → zJ Γ nL k n σ (pc + 3) lv (.int x :: st)) : zJ Γ nL k n σ pc lv (.ref a :: st) := by
  intro H locs ls hP hS hl
  unfold oGI at h
  by_cases hk : zk σ a = ci + 1
  · rw [if_pos hk] at h
    exact va_get E.hx E.hb E.ht hC.2.1 E.ho E.hK.1 (zone hP hC.1 hk) 0 rfl hC.1 j hj (E.ht _ hw) (fun _ h9 => h9) (v := .int (zi σ a j)) (by rw [zfs_at hj]; simp [zV, ht]) hd (kk _ h H locs ls hP hS hl)
  · rw [if_neg hk] at h; cases h
theorem zs_getR (E : zE Γ cc own nL rm) {ci : Nat} {C : String} {T : u_T} {N : Nat} (hC : zC ci C T N) (j : Nat) (hj : j < N) {idx a : Nat} (hw : Cond.fieldLink own idx (T j).1 (T j).2.1 (T j).2.2.1 ∈ wsL_law0) (ht : zref (zty ci j) = true) (hd : decode cc pc = .ok (.getfield idx, 3)) {f : Nat → Option ρ} (h : oGR σ (ci + 1) a j f = some R) (kk : ∀ x, f x = some R → zJ Γ nL k n σ (pc + 3) lv (.ref x :: st)) : zJ Γ nL k n σ pc lv (.ref a :: st) := by
  intro H locs ls hP hS hl
  unfold oGR at h
  by_cases hk : zk σ a = ci + 1
  · rw [if_pos hk] at h
    obtain ⟨b, eb, h⟩ := oR_some h
    exact va_get E.hx E.hb E.ht hC.2.1 E.ho E.hK.1 (zone hP hC.1 hk) 0 rfl hC.1 j hj (E.ht _ hw) (fun _ h9 => h9) (v := .ref b) (by rw [zfs_at hj]; simp [zV, ht, eb, va_rf]) hd (kk _ h H locs ls hP hS hl)
  · rw [if_neg hk] at h; cases h
theorem zs_getIN (E : zE Γ cc own nL rm) {ci : Nat} {C host : String} {T : u_T} {N : Nat} (hC : zC ci C T N) (j : Nat) (hj : j < N) {idx a : Nat} (hw : (own, idx, (T j).1, (T j).2.1, (T j).2.2.1, host) ∈ znf) (ht : zref (zty ci j) = false) (hd : decode cc pc = .ok (.getfield idx, 3)) {f : Int32 → Option ρ} (h : oGI σ (ci + 1) a j f = some R) (kk : ∀ x, f x = some R → zJ Γ nL k n σ (pc + 3) lv (.int x :: st)) : zJ Γ nL k n σ pc lv (.ref a :: st) := by
  intro H locs ls hP hS hl
  unfold oGI at h
  by_cases hk : zk σ a = ci + 1
  · rw [if_pos hk] at h
    exact va_getN E.hx E.hb E.ht hC.2.1 E.ho E.hK.1 (zone hP hC.1 hk) 0 rfl hC.1 j hj (va_Nw.use rfl (E.hK.2.1 _ hw)) (fun _ h9 => h9) (v := .int (zi σ a j)) (by rw [zfs_at hj]; simp [zV, ht]) hd (kk _ h H locs ls hP hS hl)
  · rw [if_neg hk] at h; cases h
theorem zs_getRN (E : zE Γ cc own nL rm) {ci : Nat} {C host : String} {T : u_T} {N : Nat} (hC : zC ci C T N) (j : Nat) (hj : j < N) {idx a : Nat} (hw : (own, idx, (T j).1, (T j).2.1, (T j).2.2.1, host) ∈ znf) (ht : zref (zty ci j) = true) (hd : decode cc pc = .ok (.getfield idx, 3)) {f : Nat → Option ρ} (h : oGR σ (ci + 1) a j f = some R) (kk : ∀ x, f x = some R → zJ Γ nL k n σ (pc + 3) lv (.ref x :: st)) : zJ Γ nL k n σ pc lv (.ref a :: st) := by
  intro H locs ls hP hS hl
  unfold oGR at h
  by_cases hk : zk σ a = ci + 1
  · rw [if_pos hk] at h
    obtain ⟨b, eb, h⟩ := oR_some h
    exact va_getN E.hx E.hb E.ht hC.2.1 E.ho E.hK.1 (zone hP hC.1 hk) 0 rfl hC.1 j hj (va_Nw.use rfl (E.hK.2.1 _ hw)) (fun _ h9 => h9) (v := .ref b) (by rw [zfs_at hj]; simp [zV, ht, eb, va_rf]) hd (kk _ h H locs ls hP hS hl)
  · rw [if_neg hk] at h; cases h
/-- two cells of different kinds lie apart -/
theorem zkne {a b x y : Nat} (ha : zk σ a = x) (hb : zk σ b = y) (h : x ≠ y) : a ≠ b := fun e => h (by rw [← ha, ← hb, e])
/-- a state after one cell has changed: the cell itself anew, all others as they were -/
theorem zrep_set {D : va_G} {cs : zCs} {z0 : Nat} {σ' : zS} {H H' : Heap} {a : Nat} (hP : zrep D cs z0 σ H) (ek : zk σ' = zk σ) (en : zn σ' = zn σ) (ex : zx σ' = zx σ)
    (eo : ∀ b j, b ≠ a → zi σ' b j = zi σ b j ∧ zr σ' b j = zr σ b j ∧ zl σ' b j = zl σ b j) (z : H'.size = H.size) (o : ∀ q, q ≠ a → H'[q]? = H[q]?)
    (g1 : ∀ (ci : Nat) (q : vw_C), vwCl[ci]? = some q → zk σ a = ci + 1 → t_OB a (D.1 ci) q.2.2 (D.2 ci) H' (zV σ' ci a))
    (g2 : zk σ a = 20 → H'[a]? = some (arrV cs.1 (zn σ a) (fun j => .int (zi σ' a j))))
    (g3 : zk σ a = 21 → H'[a]? = some (arrV cs.2.1 (zn σ a) (fun j => .int (zi σ' a j))))
    (g4 : zk σ a = 22 → H'[a]? = some (arrV cs.2.2.1 (zn σ a) (fun j => va_rf (zr σ' a j))))
    (g5 : zk σ a = 23 → H'[a]? = some (arrV cs.2.2.2 (zn σ a) (fun j => .long (zl σ' a j)))) : zrep D cs z0 σ' H' := by
  obtain ⟨h1, h2, h3, h4, h5, h6, h7, h8⟩ := hP
  refine ⟨by rw [z, ex]; exact h1, by rw [ex]; exact h2, by rw [ek, ex]; exact h3, ?_, ?_, ?_, ?_, ?_⟩
  · intro ci q hq b hb
    rw [ek] at hb
    by_cases e : b = a
    · subst e; exact g1 ci q hq hb
    · refine ((h4 ci q hq b hb).kept (o b e)).to (fun j _ => ?_)
      unfold zV
      rw [(eo b j e).1, (eo b j e).2.1]
  · intro b hb
    rw [ek] at hb
    by_cases e : b = a
    · subst e; rw [en]; exact g2 hb
    · rw [o b e, h5 b hb, en, show (fun j => Value.int (zi σ' b j)) = fun j => Value.int (zi σ b j) from funext fun j => by rw [(eo b j e).1]]
  · intro b hb
    rw [ek] at hb
    by_cases e : b = a
    · subst e; rw [en]; exact g3 hb
    · rw [o b e, h6 b hb, en, show (fun j => Value.int (zi σ' b j)) = fun j => Value.int (zi σ b j) from funext fun j => by rw [(eo b j e).1]]
  · intro b hb
    rw [ek] at hb
    by_cases e : b = a
    · subst e; rw [en]; exact g4 hb
    · rw [o b e, h7 b hb, en, show (fun j => va_rf (zr σ' b j)) = fun j => va_rf (zr σ b j) from funext fun j => by rw [(eo b j e).2.1]]
  · intro b hb
    rw [ek] at hb
    by_cases e : b = a
    · subst e; rw [en]; exact g5 hb
    · rw [o b e, h8 b hb, en, show (fun j => Value.long (zl σ' b j)) = fun j => Value.long (zl σ b j) from funext fun j => by rw [(eo b j e).2.2]]
theorem vwCl_lt {ci : Nat} {q : vw_C} (h : vwCl[ci]? = some q) : ci < 12 := (List.getElem?_eq_some_iff.mp h).1
theorem zuI_ne {a b i j : Nat} {v : Int32} (h : b ≠ a) : zi (zuI σ a i v) b j = zi σ b j := by
  show zup _ _ _ _ _ _ = _
  unfold zup
  rw [if_neg (fun q => h q.1)]; rfl
theorem zuR_ne {a b i j : Nat} {v : Option Nat} (h : b ≠ a) : zr (zuR σ a i v) b j = zr σ b j := by
  show zup _ _ _ _ _ _ = _
  unfold zup
  rw [if_neg (fun q => h q.1)]; rfl
theorem zuL_ne {a b i j : Nat} {v : Int64} (h : b ≠ a) : zl (zuL σ a i v) b j = zl σ b j := by
  show zup _ _ _ _ _ _ = _
  unfold zup
  rw [if_neg (fun q => h q.1)]; rfl
theorem zuI_at {a i j : Nat} {v : Int32} : zi (zuI σ a i v) a j = if j = i then v else zi σ a j := by
  show zup _ _ _ _ _ _ = _
  unfold zup
  by_cases e : j = i
  · rw [if_pos ⟨rfl, e⟩, if_pos e]
  · rw [if_neg (fun q => e q.2), if_neg e]; rfl
theorem zuR_at {a i j : Nat} {v : Option Nat} : zr (zuR σ a i v) a j = if j = i then v else zr σ a j := by
  show zup _ _ _ _ _ _ = _
  unfold zup
  by_cases e : j = i
  · rw [if_pos ⟨rfl, e⟩, if_pos e]
  · rw [if_neg (fun q => e q.2), if_neg e]; rfl
theorem zuL_at {a i j : Nat} {v : Int64} : zl (zuL σ a i v) a j = if j = i then v else zl σ a j := by
  show zup _ _ _ _ _ _ = _
  unfold zup
  by_cases e : j = i
  · rw [if_pos ⟨rfl, e⟩, if_pos e]
  · rw [if_neg (fun q => e q.2), if_neg e]; rfl
/-- an object's field set -/
theorem zrep_fld {D : va_G} {cs : zCs} {z0 : Nat} {σ' : zS} {H H' : Heap} {ci a j : Nat} {C : String} {T : u_T} {N : Nat} {v : Value} (hP : zrep D cs z0 σ H) (hc : vwCl[ci]? = some (C, T, N)) (ha : zk σ a = ci + 1) (ek : zk σ' = zk σ) (en : zn σ' = zn σ) (ex : zx σ' = zx σ)
    (eo : ∀ b i, b ≠ a → zi σ' b i = zi σ b i ∧ zr σ' b i = zr σ b i ∧ zl σ' b i = zl σ b i) (z : H'.size = H.size) (o : ∀ q, q ≠ a → H'[q]? = H[q]?)
    (hB : t_OB a (D.1 ci) N (D.2 ci) H' (updV (zV σ ci a) j v)) (hv : zV σ' ci a j = v) (hu : ∀ i, i ≠ j → zV σ' ci a i = zV σ ci a i) : zrep D cs z0 σ' H' := by
  have hlt := vwCl_lt hc
  refine zrep_set hP ek en ex eo z o ?_ (fun h => by omega) (fun h => by omega) (fun h => by omega) (fun h => by omega)
  intro ci' q hq hk
  have e : ci' = ci := by omega
  subst e
  cases hq.symm.trans hc
  refine hB.to (fun i _ => ?_)
  unfold updV
  by_cases e : i = j
  · rw [if_pos e, e, hv]
  · rw [if_neg e, hu i e]
theorem zS_put {z0 a j : Nat} {H0 H H' : Heap} {locs : List Loc} (hS : va_S (fun q => z0 ≤ q) H0 H locs) (z : H'.size = H.size) (o : ∀ q, q ≠ a → H'[q]? = H[q]?) (ha : z0 ≤ a) : va_S (fun q => z0 ≤ q) H0 H' (locs ++ [⟨a, j⟩]) := hS.put z o ha
/-- a field of an object is set: the general row -/
theorem zput {σ' : zS} (E : zE Γ cc own nL rm) {ci : Nat} {C : String} {T : u_T} {N : Nat} (hC : zC ci C T N) (j : Nat) (hj : j < N) {idx a : Nat} {v : Value} (hw : Cond.fieldLink own idx (T j).1 (T j).2.1 (T j).2.2.1 ∈ wsL_law0) (hfin : (T j).2.2.2 = false) (hn : narrow (zty ci j) v = v) (hf : fits (zty ci j) v = true) (ha : zk σ a = ci + 1)
    (ek : zk σ' = zk σ) (en : zn σ' = zn σ) (ex : zx σ' = zx σ) (eo : ∀ b i, b ≠ a → zi σ' b i = zi σ b i ∧ zr σ' b i = zr σ b i ∧ zl σ' b i = zl σ b i) (hv : zV σ' ci a j = v) (hu : ∀ i, i ≠ j → zV σ' ci a i = zV σ ci a i)
    (hd : decode cc pc = .ok (.putfield idx, 3)) (kk : zJ Γ nL k n σ' (pc + 3) lv st) : zJ Γ nL k n σ pc lv (v :: .ref a :: st) := by
  intro H locs ls hP hS hl
  obtain ⟨hc, hin, hty, hnm⟩ := hC
  have hK := E.hK.1
  have hap := va_apart (own := own) E.ht hin (zty ci) hty hnm hK hc
  obtain ⟨cell, q1, q2, q3, q4⟩ := hP.2.2.2.1 ci _ hc a ha
  obtain ⟨hS0, hfc, kC, hkC, hkind⟩ := hK.1 ci _ hc
  obtain ⟨cf, kf, fi, f, hi, hsl⟩ := hS0 j hj
  have hlay := E.ht _ (hin _ (u_in_lay hj))
  unfold u_lay at hlay
  rw [if_neg (by rw [hfin]; decide)] at hlay
  have hst := (u_facts hfc hkC (u_lays E.ht hin hj) hi).1
  have h6 := u_store hfc hkC hkind hlay hi (hty j hj) hn hf
  refine W.putK E.hx E.hb (f := f) ⟨E.ho, E.ht _ hw, ⟨_, _, _, hi⟩, hst⟩ (by rw [q2]; exact h6) q1 q3 (by rw [hsl]; exact k2_hasslot (q4 j hj)) rfl rfl hd fun H' e1 e2 e3 => ?_
  rw [hsl] at e1 ⊢
  exact kk H' _ ls (zrep_fld hP hc ha ek en ex eo e2 e3 ⟨_, e1, q2, q3, t_set q4 hap hj v⟩ hv hu) (zS_put hS e2 e3 (hP.2.2.1 a (by rw [ha]; omega)).1) hl
theorem zputN {σ' : zS} (E : zE Γ cc own nL rm) {ci : Nat} {C host : String} {T : u_T} {N : Nat} (hC : zC ci C T N) (j : Nat) (hj : j < N) {idx a : Nat} {v : Value} (hw : (own, idx, (T j).1, (T j).2.1, (T j).2.2.1, host) ∈ znf) (hfin : (T j).2.2.2 = false) (hn : narrow (zty ci j) v = v) (hf : fits (zty ci j) v = true) (ha : zk σ a = ci + 1)
    (ek : zk σ' = zk σ) (en : zn σ' = zn σ) (ex : zx σ' = zx σ) (eo : ∀ b i, b ≠ a → zi σ' b i = zi σ b i ∧ zr σ' b i = zr σ b i ∧ zl σ' b i = zl σ b i) (hv : zV σ' ci a j = v) (hu : ∀ i, i ≠ j → zV σ' ci a i = zV σ ci a i)
    (hd : decode cc pc = .ok (.putfield idx, 3)) (kk : zJ Γ nL k n σ' (pc + 3) lv st) : zJ Γ nL k n σ pc lv (v :: .ref a :: st) := by
  intro H locs ls hP hS hl
  obtain ⟨hc, hin, hty, hnm⟩ := hC
  have hK := E.hK.1
  have hap := va_apart (own := own) E.ht hin (zty ci) hty hnm hK hc
  obtain ⟨cell, q1, q2, q3, q4⟩ := hP.2.2.2.1 ci _ hc a ha
  obtain ⟨hS0, hfc, kC, hkC, hkind⟩ := hK.1 ci _ hc
  obtain ⟨cf, kf, fi, f, hi, hsl⟩ := hS0 j hj
  have hlay := E.ht _ (hin _ (u_in_lay hj))
  unfold u_lay at hlay
  rw [if_neg (by rw [hfin]; decide)] at hlay
  have hst := (u_facts hfc hkC (u_lays E.ht hin hj) hi).1
  have h6 := u_store hfc hkC hkind hlay hi (hty j hj) hn hf
  refine va_WputK E.hx E.hb (f := f) E.ho (va_Nw.use rfl (E.hK.2.1 _ hw)) hi hst (by rw [q2]; exact h6) q1 q3 (by rw [hsl]; exact k2_hasslot (q4 j hj)) rfl rfl hd fun H' e1 e2 e3 => ?_
  rw [hsl] at e1 ⊢
  exact kk H' _ ls (zrep_fld hP hc ha ek en ex eo e2 e3 ⟨_, e1, q2, q3, t_set q4 hap hj v⟩ hv hu) (zS_put hS e2 e3 (hP.2.2.1 a (by rw [ha]; omega)).1) hl
end ZHEAP
