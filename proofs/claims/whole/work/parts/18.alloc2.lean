/-! NEW CELLS, with the decompiled function's own steps -/
def oNw {ρ : Type} (σ : zS) (c : Nat) (f : Nat → zS → Option ρ) : Option ρ := f (zx σ) (zuN σ c 0)
def oNa {ρ : Type} (σ : zS) (c : Nat) (m : Int32) (f : Nat → zS → Option ρ) : Option ρ := if 0 ≤ m ∧ m.toNatClampNeg ≤ 100000 then f (zx σ) (zuN σ c m.toNatClampNeg) else none
section ZALLOC2
variable {Γ : zG} {cc : ByteArray} {own : String} {rm : Room} {nL k n pc : Nat} {σ : zS} {lv : List (Nat × Value)} {st : List Value} {ρ : Type} {R : ρ}
theorem zt_new (E : zE Γ cc own nL rm) {ci : Nat} {C : String} {T : u_T} {N : Nat} (hC : zC ci C T N) {idx : Nat} (hw : Cond.classLink own idx C ∈ wsL_law0) (hi : Cond.instantiable C N ∈ wsL_law0) (hini : Cond.initialized C ∈ wsL_law0) (hty : ∀ j, j < N → zty ci j = .int ∨ zty ci j = .boolean ∨ zref (zty ci j) = true) (hcs : k + 1 ≤ rm.cells ∧ n + N ≤ rm.slots) (hd : decode cc pc = .ok (.new idx, 3)) {f : Nat → zS → Option ρ} (h : oNw σ (ci + 1) f = some R) (kk : ∀ a σ, f a σ = some R → zJ Γ nL (k + 1) (n + N) σ (pc + 3) lv (.ref a :: st)) : zJ Γ nL k n σ pc lv st := zs_new E hC hw hi hini hty hcs hd (kk _ _ h)
theorem zt_newB (E : zE Γ cc own nL rm) {m : Int32} {N : Nat} (hw : Cond.arrayClass .byte ∈ wsL_law0) (hN : m.toNatClampNeg = N) (hcs : k + 1 ≤ rm.cells ∧ n + N ≤ rm.slots) (hd : decode cc pc = .ok (.newarray .byte, 2)) {f : Nat → zS → Option ρ} (h : oNa σ 20 m f = some R) (kk : ∀ a σ, f a σ = some R → zJ Γ nL (k + 1) (n + N) σ (pc + 2) lv (.ref a :: st)) : zJ Γ nL k n σ pc lv (.int m :: st) := by
  unfold oNa at h
  by_cases hm : 0 ≤ m ∧ m.toNatClampNeg ≤ 100000
  · rw [if_pos hm] at h
    rw [hN] at h hm
    exact zs_newB E hw hm.1 hN hm.2 hcs hd (kk _ _ h)
  · rw [if_neg hm] at h; cases h
theorem zt_newI (E : zE Γ cc own nL rm) {m : Int32} {N : Nat} (hw : Cond.arrayClass .int ∈ wsL_law0) (hN : m.toNatClampNeg = N) (hcs : k + 1 ≤ rm.cells ∧ n + N ≤ rm.slots) (hd : decode cc pc = .ok (.newarray .int, 2)) {f : Nat → zS → Option ρ} (h : oNa σ 21 m f = some R) (kk : ∀ a σ, f a σ = some R → zJ Γ nL (k + 1) (n + N) σ (pc + 2) lv (.ref a :: st)) : zJ Γ nL k n σ pc lv (.int m :: st) := by
  unfold oNa at h
  by_cases hm : 0 ≤ m ∧ m.toNatClampNeg ≤ 100000
  · rw [if_pos hm] at h
    rw [hN] at h hm
    exact zs_newI E hw hm.1 hN hm.2 hcs hd (kk _ _ h)
  · rw [if_neg hm] at h; cases h
theorem zt_newL (E : zE Γ cc own nL rm) {m : Int32} {N : Nat} (hw : Cond.arrayClass .long ∈ wsL_law0) (hN : m.toNatClampNeg = N) (hcs : k + 1 ≤ rm.cells ∧ n + N ≤ rm.slots) (hd : decode cc pc = .ok (.newarray .long, 2)) {f : Nat → zS → Option ρ} (h : oNa σ 23 m f = some R) (kk : ∀ a σ, f a σ = some R → zJ Γ nL (k + 1) (n + N) σ (pc + 2) lv (.ref a :: st)) : zJ Γ nL k n σ pc lv (.int m :: st) := by
  unfold oNa at h
  by_cases hm : 0 ≤ m ∧ m.toNatClampNeg ≤ 100000
  · rw [if_pos hm] at h
    rw [hN] at h hm
    exact zs_newL E hw hm.1 hN hm.2 hcs hd (kk _ _ h)
  · rw [if_neg hm] at h; cases h
theorem zt_newP (E : zE Γ cc own nL rm) {m : Int32} {N idx : Nat} (hw : Cond.classLink own idx "FrameReel$Picture" ∈ wsL_law0) (hN : m.toNatClampNeg = N) (hcs : k + 1 ≤ rm.cells ∧ n + N ≤ rm.slots) (hd : decode cc pc = .ok (.anewarray idx, 3)) {f : Nat → zS → Option ρ} (h : oNa σ 22 m f = some R) (kk : ∀ a σ, f a σ = some R → zJ Γ nL (k + 1) (n + N) σ (pc + 3) lv (.ref a :: st)) : zJ Γ nL k n σ pc lv (.int m :: st) := by
  unfold oNa at h
  by_cases hm : 0 ≤ m ∧ m.toNatClampNeg ≤ 100000
  · rw [if_pos hm] at h
    rw [hN] at h hm
    exact zs_newP E hw hm.1 hN hm.2 hcs hd (kk _ _ h)
  · rw [if_neg hm] at h; cases h
theorem zj_icmp_geF (E : zE Γ cc own nL rm) {x y : Int32} {off : Int} {tgt : Nat} (hd : decode cc pc = .ok (.if_icmp .ge off, 3)) (ht : (pc : Int) + off = (tgt : Int)) (hc : ¬ y ≤ x) (kk : zJ Γ nL k n σ (pc + 3) lv st) : zJ Γ nL k n σ pc lv (.int y :: .int x :: st) := fun H locs ls hP hS hl => lv_icmp_ge E.hx E.hb hd ht (fun c => absurd c hc) (fun _ => kk H locs ls hP hS hl)
theorem zj_icmp_geT (E : zE Γ cc own nL rm) {x y : Int32} {off : Int} {tgt : Nat} (hd : decode cc pc = .ok (.if_icmp .ge off, 3)) (ht : (pc : Int) + off = (tgt : Int)) (hc : y ≤ x) (kk : zJ Γ nL k n σ tgt lv st) : zJ Γ nL k n σ pc lv (.int y :: .int x :: st) := fun H locs ls hP hS hl => lv_icmp_ge E.hx E.hb hd ht (fun _ => kk H locs ls hP hS hl) (fun c => absurd hc c)
theorem zj_iincC (E : zE Γ cc own nL rm) {lv2 : List (Nat × Value)} {i : Nat} {c : Int} {x v : Int32} (hd : decode cc pc = .ok (.iinc i c, 3)) (q : Nat) (hq : lv[q]? = some (i, .int x)) (hv : v = x + Int32.ofInt c) (hn : i < nL) (hl2 : (i, Value.int v) :: lv.filter (fun q => !(q.1 == i) && !(q.1 + 1 == i && q.2.category == 2)) = lv2) (kk : zJ Γ nL k n σ (pc + 3) lv2 st) : zJ Γ nL k n σ pc lv st := zj_iinc E hd q hq v hv hn hl2 kk
end ZALLOC2
