/-! MORE ROWS: names for stored values, switches, null, arraycopy, abs -/
def oC {α ρ : Type} (x : Option (α × zS)) (f : α → zS → Option ρ) : Option ρ := match x with
  | none => none
  | some a => f a.1 a.2
theorem oC_some {α ρ : Type} {x : Option (α × zS)} {f : α → zS → Option ρ} {R : ρ} (h : oC x f = some R) : ∃ a s, x = some (a, s) ∧ f a s = some R := by
  cases x with
  | none => cases h
  | some a => exact ⟨a.1, a.2, rfl, h⟩
def oS {α β ρ : Type} (x : α ⊕ β) (f : α → Option ρ) (g : β → Option ρ) : Option ρ := match x with
  | .inl a => f a
  | .inr b => g b
def oN {ρ : Type} (x : Option Nat) (f : Option ρ) (g : Nat → Option ρ) : Option ρ := match x with
  | none => f
  | some a => g a
def zcp (f : Nat → Nat → Int32) (s sp d dp n : Nat) : Nat → Nat → Int32 := fun b j => if b = d ∧ dp ≤ j ∧ j < dp + n then f s (sp + (j - dp)) else f b j
def zuC (σ : zS) (s sp d dp n : Nat) : zS := (σ.1, σ.2.1, zcp σ.2.2.1 s sp d dp n, σ.2.2.2)
def oCp {ρ : Type} (σ : zS) (s : Nat) (sp : Int32) (d : Nat) (dp n : Int32) (f : zS → Option ρ) : Option ρ := if zk σ s = 21 ∧ zk σ d = 21 ∧ 0 ≤ sp ∧ 0 ≤ dp ∧ 0 ≤ n ∧ sp.toNatClampNeg + n.toNatClampNeg ≤ zn σ s ∧ dp.toNatClampNeg + n.toNatClampNeg ≤ zn σ d then f (zuC σ s sp.toNatClampNeg d dp.toNatClampNeg n.toNatClampNeg) else none
def zabs (x : Int32) : Int32 := if 0 ≤ x then x else 0 - x
section ZMORE
variable {Γ : zG} {cc : ByteArray} {own : String} {rm : Room} {nL k n pc : Nat} {σ : zS} {lv : List (Nat × Value)} {st : List Value} {ρ : Type} {R : ρ}
theorem zs_istore_n (E : zE Γ cc own nL rm) {i : Nat} {x : Int32} {fi : Fin 4} {lv2 : Int32 → List (Nat × Value)} (hd : decode cc pc = .ok (.istore_n fi, 1)) (hi : (fi : Nat) = i) (hn : i < nL) (hl2 : ∀ v, (i, Value.int v) :: lv.filter (fun q => !(q.1 == i) && !(q.1 + 1 == i && q.2.category == 2)) = lv2 v) {f : Int32 → Option ρ} (h : oL x f = some R) (kk : ∀ v, f v = some R → zJ Γ nL k n σ (pc + 1) (lv2 v) st) : zJ Γ nL k n σ pc lv (.int x :: st) := zj_istore_n E hd hi hn (hl2 x) (kk x h)
theorem zs_istore (E : zE Γ cc own nL rm) {i : Nat} {x : Int32} {lv2 : Int32 → List (Nat × Value)} (hd : decode cc pc = .ok (.istore i, 2)) (hn : i < nL) (hl2 : ∀ v, (i, Value.int v) :: lv.filter (fun q => !(q.1 == i) && !(q.1 + 1 == i && q.2.category == 2)) = lv2 v) {f : Int32 → Option ρ} (h : oL x f = some R) (kk : ∀ v, f v = some R → zJ Γ nL k n σ (pc + 2) (lv2 v) st) : zJ Γ nL k n σ pc lv (.int x :: st) := zj_istore E hd hn (hl2 x) (kk x h)
theorem zs_iinc (E : zE Γ cc own nL rm) {i : Nat} {c : Int} {x c' : Int32} {lv2 : Int32 → List (Nat × Value)} (hd : decode cc pc = .ok (.iinc i c, 3)) (q : Nat) (hq : lv[q]? = some (i, .int x)) (hc : c' = Int32.ofInt c) (hn : i < nL) (hl2 : ∀ v, (i, Value.int v) :: lv.filter (fun q => !(q.1 == i) && !(q.1 + 1 == i && q.2.category == 2)) = lv2 v) {f : Int32 → Option ρ} (h : oL (x + c') f = some R) (kk : ∀ v, f v = some R → zJ Γ nL k n σ (pc + 3) (lv2 v) st) : zJ Γ nL k n σ pc lv st := zj_iinc E hd q hq (x + c') (by rw [hc]) hn (hl2 _) (kk _ h)
theorem zj_tIn (E : zE Γ cc own nL rm) {x a : Int32} {dflt lo hi : Int} {offs : Array Int} {len : Nat} {off : Int} {tgt : Nat} (e : x = a) (hd : decode cc pc = .ok (.tableswitch dflt lo hi offs, len)) (h1 : ¬ a.toInt < lo) (h2 : ¬ hi < a.toInt) (ho : offs[(a.toInt - lo).toNat]? = some off) (ht : (pc : Int) + off = (tgt : Int)) (kk : zJ Γ nL k n σ tgt lv st) : zJ Γ nL k n σ pc lv (.int x :: st) := by
  subst e
  exact fun H locs ls hP hS hl => lv_tableIn E.hx E.hb hd h1 h2 ho ht (kk H locs ls hP hS hl)
theorem zj_tOut (E : zE Γ cc own nL rm) {x : Int32} {dflt lo hi : Int} {offs : Array Int} {len : Nat} {tgt : Nat} (hd : decode cc pc = .ok (.tableswitch dflt lo hi offs, len)) (h : x.toInt < lo ∨ hi < x.toInt) (ht : (pc : Int) + dflt = (tgt : Int)) (kk : zJ Γ nL k n σ tgt lv st) : zJ Γ nL k n σ pc lv (.int x :: st) :=
  fun H locs ls hP hS hl => lv_tableOut E.hx E.hb hd h ht (kk H locs ls hP hS hl)
theorem zj_lIn (E : zE Γ cc own nL rm) {x a : Int32} {dflt : Int} {ps : Array (Int × Int)} {len : Nat} {off : Int} {tgt : Nat} (e : x = a) (hd : decode cc pc = .ok (.lookupswitch dflt ps, len)) (hp : (ps.toList.zip (ps.toList.drop 1)).all (fun (a, next) => a.1 < next.1) = true) (ho : Op.lookupswitch.offset ps.toList dflt a.toInt = off) (ht : (pc : Int) + off = (tgt : Int)) (kk : zJ Γ nL k n σ tgt lv st) : zJ Γ nL k n σ pc lv (.int x :: st) := by
  subst e
  exact fun H locs ls hP hS hl => lv_lookup E.hx E.hb hd hp ho ht (kk H locs ls hP hS hl)
theorem zj_lOut (E : zE Γ cc own nL rm) {x : Int32} {dflt : Int} {ps : Array (Int × Int)} {len : Nat} {tgt : Nat} (hd : decode cc pc = .ok (.lookupswitch dflt ps, len)) (hp : (ps.toList.zip (ps.toList.drop 1)).all (fun (a, next) => a.1 < next.1) = true) (ho : Op.lookupswitch.offset ps.toList dflt x.toInt = dflt) (ht : (pc : Int) + dflt = (tgt : Int)) (kk : zJ Γ nL k n σ tgt lv st) : zJ Γ nL k n σ pc lv (.int x :: st) :=
  fun H locs ls hP hS hl => lv_lookup E.hx E.hb hd hp ho ht (kk H locs ls hP hS hl)
theorem zs_abs (E : zE Γ cc own nL rm) {idx : Nat} {x : Int32} (hw : Cond.methodLink own idx Lib.Math.abs.name ∈ wsL_law0) (hs : Cond.static Lib.Math.abs.name ∈ wsL_law0) (hi : Cond.initialized "java/lang/Math" ∈ wsL_law0) (hc : Cond.code Lib.Math.abs.name Lib.Math.abs.code 1 (some .int) ∈ wsL_law0) (h1 : 1 ≤ rm.frames) (h2 : (st.map fun v => v.category).sum + 13 ≤ rm.locals) (hd : decode cc pc = .ok (.invokestatic idx, 3)) (hcs : k ≤ rm.cells ∧ n ≤ rm.slots) {f : Int32 → Option ρ} (h : oL (zabs x) f = some R) (kk : ∀ v, f v = some R → zJ Γ nL k n σ (pc + 3) lv (.int v :: st)) : zJ Γ nL k n σ pc lv (.int x :: st) := by
  intro H locs ls hP hS hl
  refine va_mabs E.hx E.hb (by rw [E.hm, hl.1]) E.ho (E.ht _ hw) (E.ht _ hs) (E.ht _ hi) (E.ht _ hc) (by rw [E.hR]; exact h1) (by rw [E.hR]; exact h2) (by rw [E.hR]; exact hcs.1) (by rw [E.hR]; exact hcs.2) hd ?_
  exact kk _ h H locs ls hP hS hl
theorem zuC_ne {s sp d dp m b j : Nat} (h : b ≠ d) : zi (zuC σ s sp d dp m) b j = zi σ b j := by
  show zcp _ _ _ _ _ _ _ _ = _
  unfold zcp
  rw [if_neg (fun q => h q.1)]; rfl
theorem zuC_at {s sp d dp m j : Nat} : zi (zuC σ s sp d dp m) d j = va_cpy (zi σ s) (zi σ d) sp dp m j := by
  show zcp _ _ _ _ _ _ _ _ = _
  unfold zcp va_cpy
  by_cases e : dp ≤ j ∧ j < dp + m
  · rw [if_pos ⟨rfl, e⟩, if_pos e]; rfl
  · rw [if_neg (fun q => e q.2), if_neg e]; rfl
theorem znn {z : Int32} (h : 0 ≤ z) : ¬ z < 0 ∧ z.toInt = (z.toNatClampNeg : Int) := by
  have hz : ¬ z < 0 := Int32.not_lt.mpr h
  refine ⟨hz, ?_⟩
  have hz0 : (0 : Int) ≤ z.toInt := by simpa using Int32.le_iff_toInt_le.mp h
  show z.toInt = ((z.toInt.toNat : Nat) : Int)
  omega
theorem zs_copy (E : zE Γ cc own nL rm) {idx s d : Nat} {sp dp m : Int32} (hw : Cond.methodLink own idx arraycopyName ∈ wsL_law0) (hnat : Cond.native arraycopyName ∈ wsL_law0) (hs : Cond.static arraycopyName ∈ wsL_law0) (hi : Cond.initialized "java/lang/System" ∈ wsL_law0) (h1 : 1 ≤ rm.frames) (h2 : (st.map fun v => v.category).sum + (nativeFrameWords "java/lang/System" "arraycopy" 5 + 11) ≤ rm.locals) (hd : decode cc pc = .ok (.invokestatic idx, 3)) {f : zS → Option ρ} (h : oCp σ s sp d dp m f = some R) (kk : ∀ σ, f σ = some R → zJ Γ nL k n σ (pc + 3) lv st) : zJ Γ nL k n σ pc lv (.int m :: .int dp :: .ref d :: .int sp :: .ref s :: st) := by
  intro H locs ls hP hS hl T hT X
  unfold oCp at h
  by_cases hk : zk σ s = 21 ∧ zk σ d = 21 ∧ 0 ≤ sp ∧ 0 ≤ dp ∧ 0 ≤ m ∧ sp.toNatClampNeg + m.toNatClampNeg ≤ zn σ s ∧ dp.toNatClampNeg + m.toNatClampNeg ≤ zn σ d
  · rw [if_pos hk] at h
    obtain ⟨k1, k2, k3, k4, k5, k6, k7⟩ := hk
    have hc0 : H[s]? = some (arrV (zgC Γ).2.1 (zn σ s) (fun j => .int (zi σ s j))) := hP.2.2.2.2.2.1 s k1
    have hc1 : H[d]? = some (arrV (zgC Γ).2.1 (zn σ d) (fun j => .int (zi σ d j))) := hP.2.2.2.2.2.1 d k2
    obtain ⟨-, q0, hk0, cm0, hkk0⟩ := zarr_of E (t0 := 1) rfl (zn σ s) (fun j => .int (zi σ s j))
    obtain ⟨-, q1, hk1, cm1, hkk1⟩ := zarr_of E (t0 := 1) rfl (zn σ d) (fun j => .int (zi σ d j))
    obtain ⟨vm', X', step⟩ := X.arraycopy E.hx E.ho (E.ht _ hw) (E.ht _ hnat) (E.ht _ hs) (E.ht _ hi) (src := s) (dst := d) (cs := arrV (zgC Γ).2.1 (zn σ s) (fun j => .int (zi σ s j))) (cd := arrV (zgC Γ).2.1 (zn σ d) (fun j => .int (zi σ d j))) (srcPos := sp) (destPos := dp) (n := m) (by rw [hT]; exact hc0) (by rw [hT]; exact hc1)
      (fun _ h => by cases h) (fun _ h => by cases h) (fun h => by cases h) (fun h => by cases h) hk0 hk1 hkk0 hkk1 (by simp [refKind]) (znn k3).1 (znn k4).1 (znn k5).1
      (by rw [(znn k3).2, (znn k5).2, arrV_size]; omega)
      (by rw [(znn k4).2, (znn k5).2, arrV_size]; omega)
      (fun vm₁ _ i hi => by
        have e : (arrV (zgC Γ).2.1 (zn σ s) (fun j => .int (zi σ s j))).slots.getD (sp.toNatClampNeg + i) .null = .int (zi σ s (sp.toNatClampNeg + i)) := by
          rw [Array.getD_eq_getD_getElem?, arrV_read _ _ (by omega)]
          rfl
        refine ⟨?_, ?_⟩
        · rw [e]; rfl
        · rw [e]; exact trivial)
      (g := F0 (zgm Γ) pc ls (.int m :: .int dp :: .ref d :: .int sp :: .ref s :: st)) rfl (by rw [E.hm]; exact hl.1) (rest := st) rfl (by rw [E.hb]; exact hd) (by rw [E.hR]; exact h1) (by rw [E.hR]; show 2 * 0 + _ + _ ≤ _; omega)
    have e1 : copied (arrV (zgC Γ).2.1 (zn σ s) (fun j => .int (zi σ s j))) (arrV (zgC Γ).2.1 (zn σ d) (fun j => .int (zi σ d j))) sp dp m = arrV (zgC Γ).2.1 (zn σ d) (fun j => .int (va_cpy (zi σ s) (zi σ d) sp.toNatClampNeg dp.toNatClampNeg m.toNatClampNeg j)) := va_copied (fun z => .int z) (zgC Γ).2.1 (zgC Γ).2.1 (zi σ s) (zi σ d) k6
    rw [e1] at X' step
    have hlt : d < H.size := (Array.getElem?_eq_some_iff.mp hc1).1
    have hheap : ((T.setVm vm').setCell d (arrV (zgC Γ).2.1 (zn σ d) (fun j => .int (va_cpy (zi σ s) (zi σ d) sp.toNatClampNeg dp.toNatClampNeg m.toNatClampNeg j)))).heap = H.setIfInBounds d (arrV (zgC Γ).2.1 (zn σ d) (fun j => .int (va_cpy (zi σ s) (zi σ d) sp.toNatClampNeg dp.toNatClampNeg m.toNatClampNeg j))) := by rw [← hT]; rfl
    generalize eC : arrV (zgC Γ).2.1 (zn σ d) (fun j => .int (va_cpy (zi σ s) (zi σ d) sp.toNatClampNeg dp.toNatClampNeg m.toNatClampNeg j)) = cN at X' step hheap
    have oq : ∀ q : Nat, q ≠ d → (H.setIfInBounds d cN)[q]? = H[q]? := fun q hq => by simp [Array.getElem?_setIfInBounds, Ne.symm hq]
    have oz : (H.setIfInBounds d cN).size = H.size := by simp
    have od : (H.setIfInBounds d cN)[d]? = some cN := by simp [Array.getElem?_setIfInBounds, hlt]
    have hd0 : zgz Γ ≤ d := (hP.2.2.1 d (by rw [k2]; decide)).1
    have hrep : zrep (zgD Γ) (zgC Γ) (zgz Γ) (zuC σ s sp.toNatClampNeg d dp.toNatClampNeg m.toNatClampNeg) (H.setIfInBounds d cN) := by
      refine zrep_set (a := d) hP rfl rfl rfl (fun b j hb => ⟨zuC_ne hb, rfl, rfl⟩) oz oq (fun ci q hq hz => ?_) (fun hz => by omega) (fun _ => ?_) (fun hz => by omega) (fun hz => by omega)
      · have := vwCl_lt hq; omega
      · rw [od, ← eC]
        congr 2
        funext j
        rw [zuC_at]
    obtain ⟨t, a1, b1⟩ := kk _ h _ _ ls hrep ⟨by rw [oz]; exact hS.1, fun q g1 g2 => by
        rw [oq q (fun e => g2 (by rw [e]; exact hd0))]
        exact hS.2.1 q g1 g2, fun q hq => by
        rcases List.mem_append.mp hq with h | h
        · exact hS.2.2 q h
        · obtain ⟨z, -, hz⟩ := List.mem_map.mp h
          rw [← hz]
          exact hd0⟩ hl _ hheap X'
    exact ⟨t, step t a1, b1⟩
  · rw [if_neg hk] at h; cases h
/-! null -/
theorem zj_null (E : zE Γ cc own nL rm) (hd : decode cc pc = .ok (.aconst_null, 1)) (kk : zJ Γ nL k n σ (pc + 1) lv (va_rf none :: st)) : zJ Γ nL k n σ pc lv st := fun H locs ls hP hS hl => lv_null E.hx E.hb hd (kk H locs ls hP hS hl)
theorem zj_astore_nQ {lv2 : List (Nat × Value)} (E : zE Γ cc own nL rm) {i : Nat} {x : Option Nat} {f : Fin 4} (hd : decode cc pc = .ok (.astore_n f, 1)) (hi : (f : Nat) = i) (hn : i < nL) (hl2 : (i, va_rf x) :: lv.filter (fun q => !(q.1 == i) && !(q.1 + 1 == i && q.2.category == 2)) = lv2) (kk : zJ Γ nL k n σ (pc + 1) lv2 st) : zJ Γ nL k n σ pc lv (va_rf x :: st) := by
  cases x with
  | none => exact fun H locs ls hP hS hl => lv_astore_nN E.hx E.hb hd hi hl hn hl2 (fun ls' h' => kk H locs ls' hP hS h')
  | some a => exact zj_astore_n E hd hi hn hl2 kk
theorem zj_astoreQ {lv2 : List (Nat × Value)} (E : zE Γ cc own nL rm) {i : Nat} {x : Option Nat} (hd : decode cc pc = .ok (.astore i, 2)) (hn : i < nL) (hl2 : (i, va_rf x) :: lv.filter (fun q => !(q.1 == i) && !(q.1 + 1 == i && q.2.category == 2)) = lv2) (kk : zJ Γ nL k n σ (pc + 2) lv2 st) : zJ Γ nL k n σ pc lv (va_rf x :: st) := by
  cases x with
  | none => exact fun H locs ls hP hS hl => lv_astoreN E.hx E.hb hd hl hn hl2 (fun ls' h' => kk H locs ls' hP hS h')
  | some a => exact zj_astore E hd hn hl2 kk
theorem zj_aload_nQ (E : zE Γ cc own nL rm) {f : Fin 4} {i : Nat} {x : Option Nat} (hd : decode cc pc = .ok (.aload_n f, 1)) (hi : (f : Nat) = i) (q : Nat) (hq : lv[q]? = some (i, va_rf x)) (kk : zJ Γ nL k n σ (pc + 1) lv (va_rf x :: st)) : zJ Γ nL k n σ pc lv st := by
  cases x with
  | none => exact fun H locs ls hP hS hl => lv_aload_nN E.hx E.hb hd hi (lv_at hl q hq) (kk H locs ls hP hS hl)
  | some a => exact zj_aload_n E hd hi q hq kk
theorem zj_aloadQ (E : zE Γ cc own nL rm) {i : Nat} {x : Option Nat} (hd : decode cc pc = .ok (.aload i, 2)) (q : Nat) (hq : lv[q]? = some (i, va_rf x)) (kk : zJ Γ nL k n σ (pc + 2) lv (va_rf x :: st)) : zJ Γ nL k n σ pc lv st := by
  cases x with
  | none => exact fun H locs ls hP hS hl => lv_aloadN E.hx E.hb hd (lv_at hl q hq) (kk H locs ls hP hS hl)
  | some a => exact zj_aload E hd q hq kk
theorem zs_nonnull (E : zE Γ cc own nL rm) {x : Option Nat} {off : Int} {tgt : Nat} (hd : decode cc pc = .ok (.ifnonnull off, 3)) (ht : (pc : Int) + off = (tgt : Int)) {f : Option ρ} {g : Nat → Option ρ} (h : oN x f g = some R) (kn : x = none → f = some R → zJ Γ nL k n σ (pc + 3) lv st) (ks : ∀ a, x = some a → g a = some R → zJ Γ nL k n σ tgt lv st) : zJ Γ nL k n σ pc lv (va_rf x :: st) := by
  cases x with
  | none => exact fun H locs ls hP hS hl => lv_ifnonnullN E.hx E.hb hd (kn rfl h H locs ls hP hS hl)
  | some a => exact fun H locs ls hP hS hl => lv_ifnonnull E.hx E.hb hd ht (ks a rfl h H locs ls hP hS hl)
theorem zretq {bytes : ByteArray} (x : Option Nat) (h : decode bytes pc = .ok (.areturn, 1)) : zretd bytes pc (some (va_rf x)) := by cases x <;> exact h
theorem zvtq (C : String) (x : Option Nat) : zvt (some (.object C)) (some (va_rf x)) := by cases x <;> exact ⟨C, rfl⟩
end ZMORE
