section ZHEAP2
variable {Γ : zG} {cc : ByteArray} {own : String} {rm : Room} {nL k n pc : Nat} {σ : zS} {lv : List (Nat × Value)} {st : List Value} {ρ : Type} {R : ρ}
theorem zV_I {ci a j : Nat} (h : zref (zty ci j) = false) : zV σ ci a j = .int (zi σ a j) := by simp [zV, h]
theorem zV_R {ci a j : Nat} (h : zref (zty ci j) = true) : zV σ ci a j = va_rf (zr σ a j) := by simp [zV, h]
theorem zV_uI {ci a j : Nat} {v : Int32} (h : zref (zty ci j) = false) : zV (zuI σ a j v) ci a j = .int v := by rw [zV_I h, zuI_at, if_pos rfl]
theorem zV_uR {ci a j b : Nat} (h : zref (zty ci j) = true) : zV (zuR σ a j (some b)) ci a j = .ref b := by rw [zV_R h, zuR_at, if_pos rfl]; rfl
theorem zV_uIn {ci a i j : Nat} {v : Int32} (h : i ≠ j) : zV (zuI σ a j v) ci a i = zV σ ci a i := by
  unfold zV
  rw [zuI_at, if_neg h]; rfl
theorem zV_uRn {ci a i j : Nat} {v : Option Nat} (h : i ≠ j) : zV (zuR σ a j v) ci a i = zV σ ci a i := by
  unfold zV
  rw [zuR_at, if_neg h]; rfl
theorem zeoI {a j : Nat} {v : Int32} : ∀ b i, b ≠ a → zi (zuI σ a j v) b i = zi σ b i ∧ zr (zuI σ a j v) b i = zr σ b i ∧ zl (zuI σ a j v) b i = zl σ b i := fun _ _ h => ⟨zuI_ne h, rfl, rfl⟩
theorem zeoR {a j : Nat} {v : Option Nat} : ∀ b i, b ≠ a → zi (zuR σ a j v) b i = zi σ b i ∧ zr (zuR σ a j v) b i = zr σ b i ∧ zl (zuR σ a j v) b i = zl σ b i := fun _ _ h => ⟨rfl, zuR_ne h, rfl⟩
theorem zeoL {a j : Nat} {v : Int64} : ∀ b i, b ≠ a → zi (zuL σ a j v) b i = zi σ b i ∧ zr (zuL σ a j v) b i = zr σ b i ∧ zl (zuL σ a j v) b i = zl σ b i := fun _ _ h => ⟨rfl, rfl, zuL_ne h⟩
theorem zs_putI (E : zE Γ cc own nL rm) {ci : Nat} {C : String} {T : u_T} {N : Nat} (hC : zC ci C T N) (j : Nat) (hj : j < N) {idx a : Nat} {v : Int32} (hw : Cond.fieldLink own idx (T j).1 (T j).2.1 (T j).2.2.1 ∈ wsL_law0) (hfin : (T j).2.2.2 = false) (ht : zty ci j = .int) (hd : decode cc pc = .ok (.putfield idx, 3)) {f : zS → Option ρ} (h : oPI σ (ci + 1) a j v f = some R) (kk : ∀ σ, f σ = some R → zJ Γ nL k n σ (pc + 3) lv st) : zJ Γ nL k n σ pc lv (.int v :: .ref a :: st) := by
  unfold oPI at h
  by_cases hk : zk σ a = ci + 1
  · rw [if_pos hk] at h
    exact zput (σ' := zuI σ a j v) E hC j hj hw hfin (by rw [ht]; rfl) (by rw [ht]; rfl) hk rfl rfl rfl zeoI (zV_uI (by rw [ht]; rfl)) (fun _ h => zV_uIn h) hd (kk _ h)
  · rw [if_neg hk] at h; cases h
theorem zs_putIN (E : zE Γ cc own nL rm) {ci : Nat} {C host : String} {T : u_T} {N : Nat} (hC : zC ci C T N) (j : Nat) (hj : j < N) {idx a : Nat} {v : Int32} (hw : (own, idx, (T j).1, (T j).2.1, (T j).2.2.1, host) ∈ znf) (hfin : (T j).2.2.2 = false) (ht : zty ci j = .int) (hd : decode cc pc = .ok (.putfield idx, 3)) {f : zS → Option ρ} (h : oPI σ (ci + 1) a j v f = some R) (kk : ∀ σ, f σ = some R → zJ Γ nL k n σ (pc + 3) lv st) : zJ Γ nL k n σ pc lv (.int v :: .ref a :: st) := by
  unfold oPI at h
  by_cases hk : zk σ a = ci + 1
  · rw [if_pos hk] at h
    exact zputN (σ' := zuI σ a j v) E hC j hj hw hfin (by rw [ht]; rfl) (by rw [ht]; rfl) hk rfl rfl rfl zeoI (zV_uI (by rw [ht]; rfl)) (fun _ h => zV_uIn h) hd (kk _ h)
  · rw [if_neg hk] at h; cases h
theorem zbool {v : Int32} (h : v = 0 ∨ v = 1) : narrow .boolean (.int v) = .int v ∧ fits .boolean (.int v) = true := by
  rcases h with rfl | rfl <;> exact ⟨by decide +kernel, by decide +kernel⟩
theorem zs_putZ (E : zE Γ cc own nL rm) {ci : Nat} {C : String} {T : u_T} {N : Nat} (hC : zC ci C T N) (j : Nat) (hj : j < N) {idx a : Nat} {v : Int32} (hw : Cond.fieldLink own idx (T j).1 (T j).2.1 (T j).2.2.1 ∈ wsL_law0) (hfin : (T j).2.2.2 = false) (ht : zty ci j = .boolean) (hd : decode cc pc = .ok (.putfield idx, 3)) {f : zS → Option ρ} (h : oPZ σ (ci + 1) a j v f = some R) (kk : ∀ σ, f σ = some R → zJ Γ nL k n σ (pc + 3) lv st) : zJ Γ nL k n σ pc lv (.int v :: .ref a :: st) := by
  unfold oPZ at h
  by_cases hk : zk σ a = ci + 1 ∧ (v = 0 ∨ v = 1)
  · rw [if_pos hk] at h
    exact zput (σ' := zuI σ a j v) E hC j hj hw hfin (by rw [ht]; exact (zbool hk.2).1) (by rw [ht]; exact (zbool hk.2).2) hk.1 rfl rfl rfl zeoI (zV_uI (by rw [ht]; rfl)) (fun _ h => zV_uIn h) hd (kk _ h)
  · rw [if_neg hk] at h; cases h
theorem zs_putZN (E : zE Γ cc own nL rm) {ci : Nat} {C host : String} {T : u_T} {N : Nat} (hC : zC ci C T N) (j : Nat) (hj : j < N) {idx a : Nat} {v : Int32} (hw : (own, idx, (T j).1, (T j).2.1, (T j).2.2.1, host) ∈ znf) (hfin : (T j).2.2.2 = false) (ht : zty ci j = .boolean) (hd : decode cc pc = .ok (.putfield idx, 3)) {f : zS → Option ρ} (h : oPZ σ (ci + 1) a j v f = some R) (kk : ∀ σ, f σ = some R → zJ Γ nL k n σ (pc + 3) lv st) : zJ Γ nL k n σ pc lv (.int v :: .ref a :: st) := by
  unfold oPZ at h
  by_cases hk : zk σ a = ci + 1 ∧ (v = 0 ∨ v = 1)
  · rw [if_pos hk] at h
    exact zputN (σ' := zuI σ a j v) E hC j hj hw hfin (by rw [ht]; exact (zbool hk.2).1) (by rw [ht]; exact (zbool hk.2).2) hk.1 rfl rfl rfl zeoI (zV_uI (by rw [ht]; rfl)) (fun _ h => zV_uIn h) hd (kk _ h)
  · rw [if_neg hk] at h; cases h
theorem zref_fits {t : FieldType} {b : Nat} (h : zref t = true) : narrow t (.ref b) = .ref b ∧ fits t (.ref b) = true := by
  cases t <;> first | (cases h; done) | exact ⟨rfl, rfl⟩
theorem zs_putR (E : zE Γ cc own nL rm) {ci : Nat} {C : String} {T : u_T} {N : Nat} (hC : zC ci C T N) (j : Nat) (hj : j < N) {idx a b : Nat} (hw : Cond.fieldLink own idx (T j).1 (T j).2.1 (T j).2.2.1 ∈ wsL_law0) (hfin : (T j).2.2.2 = false) (ht : zref (zty ci j) = true) (hd : decode cc pc = .ok (.putfield idx, 3)) {f : zS → Option ρ} (h : oPR σ (ci + 1) a j b f = some R) (kk : ∀ σ, f σ = some R → zJ Γ nL k n σ (pc + 3) lv st) : zJ Γ nL k n σ pc lv (.ref b :: .ref a :: st) := by
  unfold oPR at h
  by_cases hk : zk σ a = ci + 1
  · rw [if_pos hk] at h
    exact zput (σ' := zuR σ a j (some b)) E hC j hj hw hfin (zref_fits ht).1 (zref_fits ht).2 hk rfl rfl rfl zeoR (zV_uR ht) (fun _ h => zV_uRn h) hd (kk _ h)
  · rw [if_neg hk] at h; cases h
/-! arrays -/
theorem zarr_of (E : zE Γ cc own nL rm) {t0 : Nat} {cA : ClassId} {ty : FieldType} (h : ([((zgC Γ).1, .byte), ((zgC Γ).2.1, .int), ((zgC Γ).2.2.1, .object "FrameReel$Picture"), ((zgC Γ).2.2.2, .long)] : List (ClassId × FieldType))[t0]? = some (cA, ty)) (N : Nat) (V : Nat → Value) : (zgs Γ).isArrayOf (arrV cA N V) ty := (E.hK.1.2 t0 _ h).1 N V
theorem zs_iald (E : zE Γ cc own nL rm) {a : Nat} {i : Int32} (hd : decode cc pc = .ok (.iaload, 1)) {f : Int32 → Option ρ} (h : oLd σ 21 a i f = some R) (kk : ∀ x, f x = some R → zJ Γ nL k n σ (pc + 1) lv (.int x :: st)) : zJ Γ nL k n σ pc lv (.int i :: .ref a :: st) := by
  intro H locs ls hP hS hl
  unfold oLd at h
  by_cases hk : zk σ a = 21 ∧ 0 ≤ i ∧ i.toNatClampNeg < zn σ a
  · rw [if_pos hk] at h
    refine W.iald E.hx E.hb (hP.2.2.2.2.2.1 a hk.1) (zarr_of E (t0 := 1) rfl _ _) (by intro q; cases q) (by rw [arrV_size]; exact zin_vp hk.2) (arrV_read _ _ hk.2.2) rfl rfl hd (kk _ h H locs ls hP hS hl)
  · rw [if_neg hk] at h; cases h
theorem zs_bald (E : zE Γ cc own nL rm) {a : Nat} {i : Int32} (hd : decode cc pc = .ok (.baload, 1)) {f : Int32 → Option ρ} (h : oLd σ 20 a i f = some R) (kk : ∀ x, f x = some R → zJ Γ nL k n σ (pc + 1) lv (.int x :: st)) : zJ Γ nL k n σ pc lv (.int i :: .ref a :: st) := by
  intro H locs ls hP hS hl
  unfold oLd at h
  by_cases hk : zk σ a = 20 ∧ 0 ≤ i ∧ i.toNatClampNeg < zn σ a
  · rw [if_pos hk] at h
    refine W.bald E.hx E.hb (hP.2.2.2.2.1 a hk.1) (zarr_of E (t0 := 0) rfl _ _) (by intro q; cases q) (by rw [arrV_size]; exact zin_vp hk.2) (arrV_read _ _ hk.2.2) rfl rfl hd (kk _ h H locs ls hP hS hl)
  · rw [if_neg hk] at h; cases h
theorem zs_aald (E : zE Γ cc own nL rm) {a : Nat} {i : Int32} (hd : decode cc pc = .ok (.aaload, 1)) {f : Nat → Option ρ} (h : oLr σ a i f = some R) (kk : ∀ x, f x = some R → zJ Γ nL k n σ (pc + 1) lv (.ref x :: st)) : zJ Γ nL k n σ pc lv (.int i :: .ref a :: st) := by
  intro H locs ls hP hS hl
  unfold oLr at h
  by_cases hk : zk σ a = 22 ∧ 0 ≤ i ∧ i.toNatClampNeg < zn σ a
  · rw [if_pos hk] at h
    obtain ⟨b, eb, h⟩ := oR_some h
    refine W.aald E.hx E.hb (v := .ref b) (hP.2.2.2.2.2.2.1 a hk.1) (zarr_of E (t0 := 2) rfl _ _) rfl (by intro q; cases q) (by rw [arrV_size]; exact zin_vp hk.2) (by rw [arrV_read _ _ hk.2.2, eb]; rfl) rfl rfl hd (kk _ h H locs ls hP hS hl)
  · rw [if_neg hk] at h; cases h
theorem zarr_set {cI : ClassId} {N j : Nat} {f : Nat → Value} {v : Value} (hj : j < N) : (arrV cI N f).setSlot j v = arrV cI N (updV f j v) := by
  unfold arrV Cell.setSlot
  congr 1
  apply Array.ext_getElem?
  intro i
  rw [Array.getElem?_setIfInBounds]
  by_cases e : j = i
  · subst e; simp [updV, hj]
  · rw [if_neg e]
    by_cases hi : i < N
    · simp [updV, hi, Ne.symm e]
    · simp [hi]
theorem zs_iast (E : zE Γ cc own nL rm) {a : Nat} {i v : Int32} (hd : decode cc pc = .ok (.iastore, 1)) {f : zS → Option ρ} (h : oSt σ 21 a i v f = some R) (kk : ∀ σ, f σ = some R → zJ Γ nL k n σ (pc + 1) lv st) : zJ Γ nL k n σ pc lv (.int v :: .int i :: .ref a :: st) := by
  intro H locs ls hP hS hl
  unfold oSt at h
  by_cases hk : zk σ a = 21 ∧ 0 ≤ i ∧ i.toNatClampNeg < zn σ a
  · rw [if_pos hk] at h
    refine W.iast E.hx E.hb (hP.2.2.2.2.2.1 a hk.1) (zarr_of E (t0 := 1) rfl _ _) (by intro q; cases q) (by rw [arrV_size]; exact zin_vp hk.2) rfl rfl hd fun H' e1 e2 e3 => ?_
    rw [zarr_set hk.2.2] at e1
    refine kk _ h H' _ ls (zrep_set (a := a) hP rfl rfl rfl zeoI e2 e3 (fun ci q hq hz => ?_) (fun hz => by omega) (fun _ => ?_) (fun hz => by omega) (fun hz => by omega)) (zS_put hS e2 e3 (hP.2.2.1 a (by rw [hk.1]; decide)).1) hl
    · have := vwCl_lt hq; omega
    · rw [e1]
      congr 2
      funext j
      rw [zuI_at]
      unfold updV
      by_cases e : j = i.toNatClampNeg
      · rw [if_pos e, if_pos e]
      · rw [if_neg e, if_neg e]
  · rw [if_neg hk] at h; cases h
theorem zs_bast (E : zE Γ cc own nL rm) {a : Nat} {i v : Int32} (hd : decode cc pc = .ok (.bastore, 1)) {f : zS → Option ρ} (h : oSt σ 20 a i v.toInt8.toInt32 f = some R) (kk : ∀ σ, f σ = some R → zJ Γ nL k n σ (pc + 1) lv st) : zJ Γ nL k n σ pc lv (.int v :: .int i :: .ref a :: st) := by
  intro H locs ls hP hS hl
  unfold oSt at h
  by_cases hk : zk σ a = 20 ∧ 0 ≤ i ∧ i.toNatClampNeg < zn σ a
  · rw [if_pos hk] at h
    refine W.bast E.hx E.hb (hP.2.2.2.2.1 a hk.1) (zarr_of E (t0 := 0) rfl _ _) (by intro q; cases q) (by rw [arrV_size]; exact zin_vp hk.2) rfl rfl hd fun H' e1 e2 e3 => ?_
    rw [zarr_set hk.2.2, narrow_byte] at e1
    refine kk _ h H' _ ls (zrep_set (a := a) hP rfl rfl rfl zeoI e2 e3 (fun ci q hq hz => ?_) (fun _ => ?_) (fun hz => by omega) (fun hz => by omega) (fun hz => by omega)) (zS_put hS e2 e3 (hP.2.2.1 a (by rw [hk.1]; decide)).1) hl
    · have := vwCl_lt hq; omega
    · rw [e1]
      congr 2
      funext j
      rw [zuI_at]
      unfold updV
      by_cases e : j = i.toNatClampNeg
      · rw [if_pos e, if_pos e]
      · rw [if_neg e, if_neg e]
  · rw [if_neg hk] at h; cases h
theorem zs_lenB (E : zE Γ cc own nL rm) {a : Nat} (hd : decode cc pc = .ok (.arraylength, 1)) {f : Int32 → Option ρ} (h : oLn σ 20 a f = some R) (kk : ∀ x, f x = some R → zJ Γ nL k n σ (pc + 1) lv (.int x :: st)) : zJ Γ nL k n σ pc lv (.ref a :: st) := by
  intro H locs ls hP hS hl
  unfold oLn at h
  by_cases hk : zk σ a = 20
  · rw [if_pos hk] at h
    exact W.alen E.hx E.hb (hP.2.2.2.2.1 a hk) (zarr_of E (t0 := 0) rfl _ _) (by rw [arrV_size]; rfl) rfl rfl hd (kk _ h H locs ls hP hS hl)
  · rw [if_neg hk] at h; cases h
theorem zs_lenI (E : zE Γ cc own nL rm) {a : Nat} (hd : decode cc pc = .ok (.arraylength, 1)) {f : Int32 → Option ρ} (h : oLn σ 21 a f = some R) (kk : ∀ x, f x = some R → zJ Γ nL k n σ (pc + 1) lv (.int x :: st)) : zJ Γ nL k n σ pc lv (.ref a :: st) := by
  intro H locs ls hP hS hl
  unfold oLn at h
  by_cases hk : zk σ a = 21
  · rw [if_pos hk] at h
    exact W.alen E.hx E.hb (hP.2.2.2.2.2.1 a hk) (zarr_of E (t0 := 1) rfl _ _) (by rw [arrV_size]; rfl) rfl rfl hd (kk _ h H locs ls hP hS hl)
  · rw [if_neg hk] at h; cases h
/-! the static tables: the reference t comes with what it holds -/
def ztb (Γ : zG) (t : Nat) (l : List Int32) : Prop := va_T .int t l.length (fun j => .int (l.getD j 0)) (fun q => zgz Γ ≤ q) (zgs Γ) (zgs Γ).heap
theorem zs_tab (E : zE Γ cc own nL rm) {nm : String} {l : List Int32} (hm : (nm, l) ∈ ztabs) {idx : Nat} (hw : Cond.fieldLink own idx "FrameReel$Unpacker" nm "[I" ∈ wsL_law0) (hd : decode cc pc = .ok (.getstatic idx, 3)) (kk : ∀ t, ztb Γ t l → zJ Γ nL k n σ (pc + 3) lv (.ref t :: st)) : zJ Γ nL k n σ pc lv st := by
  intro H locs ls hP hS hl
  obtain ⟨t, h1, h2⟩ := E.hK.2.2.2.1 _ hm
  exact va_gets E.hx E.hb h1 hS E.ho (E.ht _ hw) (fun _ h => h) hd (kk t h2 H locs ls hP hS hl)
theorem zs_tld (E : zE Γ cc own nL rm) {t : Nat} {l : List Int32} (hT : ztb Γ t l) {i : Int32} (hd : decode cc pc = .ok (.iaload, 1)) {f : Int32 → Option ρ} (h : oLt l i f = some R) (kk : ∀ x, f x = some R → zJ Γ nL k n σ (pc + 1) lv (.int x :: st)) : zJ Γ nL k n σ pc lv (.int i :: .ref t :: st) := by
  intro H locs ls hP hS hl
  unfold oLt at h
  by_cases hk : 0 ≤ i ∧ i.toNatClampNeg < l.length
  · rw [if_pos hk] at h
    exact va_ti E.hx E.hb hT hS (zin_vp hk) rfl hd (kk _ h H locs ls hP hS hl)
  · rw [if_neg hk] at h; cases h
theorem zs_tln (E : zE Γ cc own nL rm) {t : Nat} {l : List Int32} (hT : ztb Γ t l) {v : Int32} (hv : Int32.ofNat l.length = v) (hd : decode cc pc = .ok (.arraylength, 1)) (kk : zJ Γ nL k n σ (pc + 1) lv (.int v :: st)) : zJ Γ nL k n σ pc lv (.ref t :: st) := fun H locs ls hP hS hl => va_tlen E.hx E.hb hT hS hv hd (kk H locs ls hP hS hl)
end ZHEAP2
