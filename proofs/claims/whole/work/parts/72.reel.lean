/-! a reel: ab 0 there, 1 width, 2 height, 3 plays, 4 count, 5 first; rg f: width, height, x, y, dispose, blend; px f: its pixels, 8 the own picture's -/
def RC (σ : zS) (Q : Nat → Nat) (ab : Nat → Nat) (rg px : Nat → Nat → Nat) : Prop :=
  (zi σ (Q 0) 2 = nI (ab 0) ∧ zi σ (Q 0) 3 = nI (ab 5) ∧ zi σ (Q 0) 4 = nI (ab 1) ∧ zi σ (Q 0) 5 = nI (ab 2) ∧ zi σ (Q 0) 6 = nI (ab 3) ∧ zi σ (Q 0) 7 = nI (ab 4)) ∧ (zi σ (Q 18) 1 = nI (ab 1) ∧ zi σ (Q 18) 2 = nI (ab 2)) ∧
  (∀ f, f < ab 4 → ∀ k, k < 6 → zi σ (Q (2 + 2 * f)) (1 + k) = nI (rg f k)) ∧ (∀ f, f < ab 4 → ∀ i, i < rg f 0 * rg f 1 → zi σ (Q (3 + 2 * f)) i = nI (px f i)) ∧ (ab 5 = 0 → ∀ i, i < ab 1 * ab 2 → zi σ (Q 19) i = nI (px 8 i))
def MR (σ : zS) (B : Nat → Nat) (ab : Nat → Nat) (rg px : Nat → Nat → Nat) : Prop :=
  (∀ k, k < 6 → zi σ (B 2) k = nI (ab k)) ∧ (∀ f, f < ab 4 → ∀ k, k < 6 → zi σ (B 3) (6 * f + k) = nI (rg f k)) ∧ (∀ f, f < ab 4 → ∀ i, i < rg f 0 * rg f 1 → zi σ (B 4) (256 * f + i) = nI (px f i)) ∧ (ab 5 = 0 → ∀ i, i < ab 1 * ab 2 → zi σ (B 4) (2048 + i) = nI (px 8 i))
def RGN (ab : Nat → Nat) (r : Nat → Nat) : Prop := 1 ≤ r 0 ∧ 1 ≤ r 1 ∧ r 2 + r 0 ≤ ab 1 ∧ r 3 + r 1 ≤ ab 2 ∧ r 4 ≤ 2 ∧ r 5 ≤ 1
def WFr (ab : Nat → Nat) (rg : Nat → Nat → Nat) : Prop := (ab 0 = 0 ∧ ab 1 = 0 ∧ ab 2 = 0 ∧ ab 4 = 0 ∧ ab 5 = 0) ∨ (ab 0 = 1 ∧ (1 ≤ ab 1 ∧ ab 1 ≤ 16) ∧ (1 ≤ ab 2 ∧ ab 2 ≤ 16) ∧ ab 4 ≤ 8 ∧ ab 5 ≤ 1 ∧ (∀ f, f < ab 4 → RGN ab (rg f)) ∧ (ab 5 = 1 → 0 < ab 4 ∧ rg 0 0 = ab 1 ∧ rg 0 1 = ab 2))
theorem WFr.b {ab : Nat → Nat} {rg : Nat → Nat → Nat} (h : WFr ab rg) : ab 0 ≤ 1 ∧ ab 1 ≤ 16 ∧ ab 2 ≤ 16 ∧ ab 4 ≤ 8 ∧ ab 5 ≤ 1 ∧ (ab 0 = 0 → ab 4 = 0) := by
  rcases h with ⟨h0, h1, h2, h4, h5⟩ | ⟨h0, h1, h2, h4, h5, -⟩ <;> omega
theorem WFr.rgn {ab : Nat → Nat} {rg : Nat → Nat → Nat} (h : WFr ab rg) {f : Nat} (hf : f < ab 4) : RGN ab (rg f) := by
  rcases h with ⟨-, -, -, h4, -⟩ | ⟨-, -, -, -, -, h6, -⟩
  · omega
  · exact h6 f hf
theorem RGN.b {ab r : Nat → Nat} (h : RGN ab r) (h1 : ab 1 ≤ 16) (h2 : ab 2 ≤ 16) : r 0 ≤ 16 ∧ r 1 ≤ 16 ∧ r 2 ≤ 16 ∧ r 3 ≤ 16 ∧ r 4 ≤ 2 ∧ r 5 ≤ 1 ∧ r 0 * r 1 ≤ 256 := by
  obtain ⟨a, b, c, d, e, f⟩ := h
  have : r 0 * r 1 ≤ 16 * 16 := Nat.mul_le_mul (by omega) (by omega)
  omega
/-! what a call may change -/
def zsC (C : Nat → Nat) (P : Nat → Prop) (σ s : zS) : Prop := zsm (fun a => ∃ i, i < 71 ∧ P i ∧ a = C i) σ s
def zsB (B : Nat → Nat) (P F : Nat → Prop) (σ s : zS) : Prop := zsm (fun a => ∃ i, i < 12 ∧ P i ∧ a = B i) σ s ∧ ∀ j, ¬ F j → zi s (B 0) j = zi σ (B 0) j
section PREEL
variable {σ s t : zS} {C B : Nat → Nat} {P F : Nat → Prop}
theorem zsC.i (h : zsC C P σ s) (hc : CLL σ C) {j : Nat} (hj : j < 71) (hp : ¬ P j) (k : Nat) : zi s (C j) k = zi σ (C j) k := zsm.i h (fun ⟨i, h1, h2, e⟩ => hp (by rw [hc.1 j i hj h1 e]; exact h2)) k
theorem zsC.n (h : zsC C P σ s) (hc : CLL σ C) {j : Nat} (hj : j < 71) (hp : ¬ P j) : ¬ (∃ i, i < 71 ∧ P i ∧ C j = C i) := fun ⟨i, h1, h2, e⟩ => hp (by rw [hc.1 j i hj h1 e]; exact h2)
theorem zsC.trans (h : zsC C P σ s) (h2 : zsC C P s t) : zsC C P σ t := zsm.trans h h2
theorem zsC.rf : zsC C P σ σ := zsm.rf
theorem zsC.uI (h : zsC C P σ s) {i k : Nat} {v : Int32} (hi : i < 71) (hp : P i) : zsC C P σ (zuI s (C i) k v) := zsm.uI (S := fun a => ∃ i, i < 71 ∧ P i ∧ a = C i) h ⟨i, hi, hp, rfl⟩
theorem zsC.mono {P' : Nat → Prop} (h : zsC C P σ s) (hp : ∀ i, P i → P' i) : zsC C P' σ s := zsm.mono h (fun _ ⟨i, h1, h2, e⟩ => ⟨i, h1, hp i h2, e⟩)
theorem zsC.of1 {i : Nat} (hi : i < 71) (hp : P i) (h : zsm (fun a => a = C i) σ s) : zsC C P σ s := h.mono (fun _ z => ⟨i, hi, hp, z⟩)
theorem zsC.of2 {i j : Nat} (hi : i < 71) (hp : P i) (hj : j < 71) (hq : P j) (h : zsm (fun a => a = C i ∨ a = C j) σ s) : zsC C P σ s := h.mono (fun _ z => z.elim (fun z => ⟨i, hi, hp, z⟩) (fun z => ⟨j, hj, hq, z⟩))
theorem zsB.trans (h : zsB B P F σ s) (h2 : zsB B P F s t) : zsB B P F σ t := ⟨zsm.trans h.1 h2.1, fun j hj => (h2.2 j hj).trans (h.2 j hj)⟩
theorem zsB.rf : zsB B P F σ σ := ⟨zsm.rf, fun _ _ => rfl⟩
theorem zsB.i (h : zsB B P F σ s) (hb : zML σ B) {j : Nat} (hj : j < 12) (hp : ¬ P j) (k : Nat) : zi s (B j) k = zi σ (B j) k := zsm.i h.1 (fun ⟨i, h1, h2, e⟩ => hp (by rw [hb.1 j i hj h1 e]; exact h2)) k
theorem zsB.u0 (h : zsB B P F σ s) {k : Nat} {v : Int32} (hp : P 0) (hf : F k) : zsB B P F σ (zuI s (B 0) k v) := ⟨zsm.uI (S := fun a => ∃ i, i < 12 ∧ P i ∧ a = B i) h.1 ⟨0, by decide, hp, rfl⟩, fun j hj => by rw [zi_uI, if_neg (fun z => hj (by rw [z.2]; exact hf))]; exact h.2 j hj⟩
theorem zsB.uI (h : zsB B P F σ s) (hb : zML σ B) {i k : Nat} {v : Int32} (hi : i < 12) (hp : P i) (h0 : i ≠ 0) : zsB B P F σ (zuI s (B i) k v) := ⟨zsm.uI (S := fun a => ∃ i, i < 12 ∧ P i ∧ a = B i) h.1 ⟨i, hi, hp, rfl⟩, fun j hj => by rw [zi_uI, if_neg (fun z => h0 (hb.1 i 0 hi (by decide) z.1.symm))]; exact h.2 j hj⟩
theorem zsB.mono {P' F' : Nat → Prop} (h : zsB B P F σ s) (hp : ∀ i, P i → P' i) (hf : ∀ j, F j → F' j) : zsB B P' F' σ s := ⟨zsm.mono h.1 (fun _ ⟨i, h1, h2, e⟩ => ⟨i, h1, hp i h2, e⟩), fun j hj => h.2 j (fun z => hj (hf j z))⟩
theorem zsB.of1 {i : Nat} (hb : zML σ B) (hi : i < 12) (hp : P i) (h0 : i ≠ 0) (h : zsm (fun a => a = B i) σ s) : zsB B P F σ s := ⟨h.mono (fun _ z => ⟨i, hi, hp, z⟩), fun j _ => h.i (fun z => h0 (hb.1 0 i (by decide) hi z).symm) j⟩
/-- the screen -/
def SCc (σ : zS) (C : Nat → Nat) (sw sh : Nat) (cv : Nat → Nat) : Prop := zi σ (C 68) 2 = nI sw ∧ zi σ (C 68) 3 = nI sh ∧ ∀ i, i < sw * sh → zi σ (C 69) i = nI (cv i)
def SCm (σ : zS) (B : Nat → Nat) (sw sh : Nat) (cv : Nat → Nat) : Prop := (zi σ (B 0) 7 = 0 ∧ sw = 0 ∧ sh = 0) ∨ (zi σ (B 0) 7 = 1 ∧ (1 ≤ sw ∧ sw ≤ 16 ∧ 1 ≤ sh ∧ sh ≤ 16) ∧ zi σ (B 0) 8 = nI sw ∧ zi σ (B 0) 9 = nI sh ∧ ∀ i, i < sw * sh → zi σ (B 5) i = nI (cv i))
theorem s_forget (h : CLL σ C) : fX7_forget σ (C 68) = some (zuI (zuI σ (C 68) 2 0) (C 68) 3 0) := by
  unfold fX7_forget
  rw [oPI_eq h.scl.1, oPI_eq (by rw [zk_uI]; exact h.scl.1)]
theorem SCc.forget : SCc (zuI (zuI σ (C 68) 2 0) (C 68) 3 0) C 0 0 (fun _ => 0) := ⟨by rw [zi_uI, if_neg (by omega), zi_uI, if_pos ⟨rfl, rfl⟩]; rfl, by rw [zi_uI, if_pos ⟨rfl, rfl⟩]; rfl, fun i hi => absurd hi (by rw [Nat.zero_mul]; exact Nat.not_lt_zero i)⟩
/-- one of the two reels, at b -/
def isR (b : Nat) : Prop := b = 25 ∨ b = 45
def PR (b : Nat) : Nat → Prop := fun i => (b ≤ i ∧ i < b + 20) ∨ i = 68
theorem isR.lt {b : Nat} (h : isR b) : b + 20 ≤ 65 := by
  rcases h with h | h <;> omega
theorem s_clearP {p pa : Nat} (hp : PCL σ p pa) : ∃ s, fX3_clear σ p = some s ∧ zsm (fun a => a = pa) σ s ∧ ∀ i, i < 256 → zi s pa i = 0 := by
  obtain ⟨s, e, m, f⟩ := s_fill hp.2.2.1 (by rw [hp.2.2.2]; decide) 0
  refine ⟨s, ?_, m, fun i hi => f i (by rw [hp.2.2.2]; exact hi)⟩
  unfold fX3_clear
  rw [oGR_eq hp.1 hp.2.1, oB_eq e]
/-! begin -/
def abB (W H pl : Nat) : Nat → Nat
  | 0 => 1
  | 1 => W
  | 2 => H
  | 3 => pl
  | _ => 0
def badB (w h p : Int32) : Prop := w.toInt < 1 ∨ 16 < w.toInt ∨ h.toInt < 1 ∨ 16 < h.toInt ∨ p.toInt < 0
def pxW (px : Nat → Nat → Nat) (g : Nat) : Nat → Nat → Nat := fun f i => if f = g then 0 else px f i
theorem s_start {Q : Nat → Nat} (h : RLL σ Q) (hj : ∀ i j, i < 20 → j < 20 → Q i = Q j → i = j) (W H : Int32) : fX5_start σ (Q 0) W H = some (zuI (zuI (zuI (zuI (zuI (zuI (zuI σ (Q 0) 2 1) (Q 0) 3 0) (Q 0) 4 W) (Q 0) 5 H) (Q 18) 1 W) (Q 18) 2 H) (Q 0) 7 0) := by
  obtain ⟨h1, h2, h3, -, -, -, h7⟩ := h
  have hp := h7 8 (by decide)
  have kp : zk σ (Q 18) = 4 := hp.1
  unfold fX5_start
  rw [oPZ_eq h1 (Or.inr rfl), oPZ_eq (by exact h1) (Or.inl rfl), oPI_eq (by exact h1), oPI_eq (by exact h1), oGR_eq (by exact h1) (by exact h3), oPI_eq (by exact kp), oGR_eq (by exact h1) (by exact h3), oPI_eq (by exact kp), oPI_eq (by exact h1)]
theorem c_begin {b : Nat} (h : CLL σ C) (hb : isR b) (hr : zr σ (C 0) 4 = some (C b)) (rg px : Nat → Nat → Nat) (w hh p : Int32) :
    ∃ s, ((badB w hh p ∧ fX11_begin σ (C 0) w hh p = some (-12, s) ∧ s = σ) ∨ (¬ badB w hh p ∧ fX11_begin σ (C 0) w hh p = some (1, s) ∧ zsC C (PR b) σ s ∧ RC s (fun i => C (b + i)) (abB w.toInt.toNat hh.toInt.toNat p.toInt.toNat) rg (pxW px 8) ∧ SCc s C 0 0 (fun _ => 0))) := by
  have t1 : (1 : Int32).toInt = 1 := by decide
  have t16 : (16 : Int32).toInt = 16 := by decide
  unfold badB fX11_begin
  by_cases d1 : w < 1
  · rw [if_pos d1]
    rw [zlt, t1] at d1
    exact ⟨σ, Or.inl ⟨Or.inl d1, rfl, rfl⟩⟩
  · rw [if_neg d1]
    rw [zlt, t1] at d1
    by_cases d2 : 16 < w
    · rw [if_pos d2]
      rw [zlt, t16] at d2
      exact ⟨σ, Or.inl ⟨Or.inr (Or.inl d2), rfl, rfl⟩⟩
    · rw [if_neg d2]
      rw [zlt, t16] at d2
      by_cases d3 : hh < 1
      · rw [if_pos d3]
        rw [zlt, t1] at d3
        exact ⟨σ, Or.inl ⟨Or.inr (Or.inr (Or.inl d3)), rfl, rfl⟩⟩
      · rw [if_neg d3]
        rw [zlt, t1] at d3
        by_cases d4 : 16 < hh
        · rw [if_pos d4]
          rw [zlt, t16] at d4
          exact ⟨σ, Or.inl ⟨Or.inr (Or.inr (Or.inr (Or.inl d4))), rfl, rfl⟩⟩
        · rw [if_neg d4]
          rw [zlt, t16] at d4
          by_cases d5 : 0 ≤ p
          · rw [if_pos d5]
            rw [zle, zt0'] at d5
            have hL := h.rl hb
            have hlt := hb.lt
            have hQ : ∀ i j, i < 20 → j < 20 → (fun i => C (b + i)) i = (fun i => C (b + i)) j → i = j := fun i j hi hj e => by
              have := h.1 (b + i) (b + j) (by omega) (by omega) e
              omega
            have hst := s_start hL hQ w hh
            simp only [Nat.add_zero] at hst
            have z1 : zsC C (PR b) σ (zuI (zuI (zuI (zuI (zuI (zuI (zuI (zuI σ (C b) 2 1) (C b) 3 0) (C b) 4 w) (C b) 5 hh) (C (b + 18)) 1 w) (C (b + 18)) 2 hh) (C b) 7 0) (C b) 6 p) := by
              have pb : PR b b := Or.inl (by omega)
              have p18 : PR b (b + 18) := Or.inl (by omega)
              exact (((((((zsC.rf.uI (by omega) pb).uI (by omega) pb).uI (by omega) pb).uI (by omega) pb).uI (by omega) p18).uI (by omega) p18).uI (by omega) pb).uI (by omega) pb
            have nb : C b ≠ C (b + 18) := fun e => by have := h.1 b (b + 18) (by omega) (by omega) e; omega
            have kb : zk σ (C b) = 6 := hL.1
            have hrc : ∀ s2 : zS, zsC C (PR b) σ s2 → CLL s2 C ∧ zr s2 (C 0) 4 = some (C b) ∧ zk s2 (C b) = 6 ∧ zr s2 (C b) 1 = some (C (b + 18)) := fun s2 hs => ⟨h.of hs, by rw [zsm.r hs]; exact hr, by rw [zsm.k hs]; exact kb, by rw [zsm.r hs]; exact hL.2.2.1⟩
            have hfld : ∀ s2 : zS, (∀ k, zi s2 (C b) k = zi (zuI (zuI (zuI (zuI (zuI (zuI (zuI (zuI σ (C b) 2 1) (C b) 3 0) (C b) 4 w) (C b) 5 hh) (C (b + 18)) 1 w) (C (b + 18)) 2 hh) (C b) 7 0) (C b) 6 p) (C b) k) → (zi s2 (C b) 2 = nI 1 ∧ zi s2 (C b) 3 = nI 0 ∧ zi s2 (C b) 4 = w ∧ zi s2 (C b) 5 = hh ∧ zi s2 (C b) 6 = p ∧ zi s2 (C b) 7 = nI 0) := fun s2 hs => by
              refine ⟨?_, ?_, ?_, ?_, ?_, ?_⟩ <;> (rw [hs]; simp only [zi_uI, nb, true_and, false_and, ↓reduceIte, Nat.reduceEqDiff]) <;> rfl
            have hfld2 : ∀ s2 : zS, (∀ k, zi s2 (C (b + 18)) k = zi (zuI (zuI (zuI (zuI (zuI (zuI (zuI (zuI σ (C b) 2 1) (C b) 3 0) (C b) 4 w) (C b) 5 hh) (C (b + 18)) 1 w) (C (b + 18)) 2 hh) (C b) 7 0) (C b) 6 p) (C (b + 18)) k) → (zi s2 (C (b + 18)) 1 = w ∧ zi s2 (C (b + 18)) 2 = hh) := fun s2 hs => by
              have nb' : ¬ C (b + 18) = C b := fun e => nb e.symm
              refine ⟨?_, ?_⟩ <;> (rw [hs]; simp only [zi_uI, nb', true_and, false_and, ↓reduceIte, Nat.reduceEqDiff])
            rw [oGR_eq h.k0 hr, oA_eq kb, oB_eq hst, oGR_eq (by exact h.k0) (by exact hr), oPI_eq (by exact kb)]
            generalize zuI (zuI (zuI (zuI (zuI (zuI (zuI (zuI σ (C b) 2 1) (C b) 3 0) (C b) 4 w) (C b) 5 hh) (C (b + 18)) 1 w) (C (b + 18)) 2 hh) (C b) 7 0) (C b) 6 p = s2 at z1 hfld hfld2
            obtain ⟨h2, hr2, kb2, hr18⟩ := hrc s2 z1
            have hp2 : PCL s2 (C (b + 18)) (C (b + 19)) := (h2.rl hb).2.2.2.2.2.2 8 (by decide)
            obtain ⟨s3, e3, m3, f3⟩ := s_clearP hp2
            have z3 : zsC C (PR b) s2 s3 := zsC.of1 (by omega) (Or.inl (by omega)) m3
            have z13 := z1.trans z3
            have h3 := h2.of m3
            rw [oGR_eq h2.k0 hr2, oGR_eq kb2 hr18, oA_eq hp2.1, oB_eq e3, oGR_eq h3.k0 h3.sc, oA_eq h3.scl.1, oB_eq (s_forget h3)]
            refine ⟨_, Or.inr ⟨by omega, rfl, (z13.uI (by decide) (Or.inr rfl)).uI (by decide) (Or.inr rfl), ?_, SCc.forget⟩⟩
            have ns : ∀ j, j < 65 → ∀ k, zi (zuI (zuI s3 (C 68) 2 0) (C 68) 3 0) (C j) k = zi s3 (C j) k := fun j hj k => by
              have : C j ≠ C 68 := fun e => by have := h.1 j 68 (by omega) (by decide) e; omega
              rw [zi_uI, if_neg (fun z => this z.1), zi_uI, if_neg (fun z => this z.1)]
            have n19 : ∀ j, j < 65 → j ≠ b + 19 → ∀ k, zi (zuI (zuI s3 (C 68) 2 0) (C 68) 3 0) (C j) k = zi s2 (C j) k := fun j hj hn k => by
              rw [ns j hj, m3.i (fun z => hn (h.1 j (b + 19) (by omega) (by omega) z))]
            obtain ⟨g1, g2, g3, g4, g5, g6⟩ := hfld s2 (fun _ => rfl)
            obtain ⟨g7, g8⟩ := hfld2 s2 (fun _ => rfl)
            have ew : w = nI w.toInt.toNat := znI (by omega)
            have eh : hh = nI hh.toInt.toNat := znI (by omega)
            have ep : p = nI p.toInt.toNat := znI (by omega)
            have qb : ∀ k, zi (zuI (zuI s3 (C 68) 2 0) (C 68) 3 0) (C b) k = zi s2 (C b) k := n19 b (by omega) (by omega)
            have q18 : ∀ k, zi (zuI (zuI s3 (C 68) 2 0) (C 68) 3 0) (C (b + 18)) k = zi s2 (C (b + 18)) k := n19 (b + 18) (by omega) (by omega)
            refine ⟨⟨?_, ?_, ?_, ?_, ?_, ?_⟩, ⟨?_, ?_⟩, fun f hf => absurd hf (Nat.not_lt_zero f), fun f hf => absurd hf (Nat.not_lt_zero f), fun _ i hi => ?_⟩
            · exact (qb 2).trans g1
            · exact (qb 3).trans g2
            · exact (qb 4).trans (g3.trans ew)
            · exact (qb 5).trans (g4.trans eh)
            · exact (qb 6).trans (g5.trans ep)
            · exact (qb 7).trans g6
            · exact (q18 1).trans (g7.trans ew)
            · exact (q18 2).trans (g8.trans eh)
            · have hi' : i < w.toInt.toNat * hh.toInt.toNat := hi
              have : w.toInt.toNat * hh.toInt.toNat ≤ 16 * 16 := Nat.mul_le_mul (by omega) (by omega)
              show zi (zuI (zuI s3 (C 68) 2 0) (C 68) 3 0) (C (b + 19)) i = _
              rw [ns (b + 19) (by omega), f3 i (by omega)]
              unfold pxW
              rw [if_pos rfl]
              rfl
          · rw [if_neg d5]
            rw [zle, zt0'] at d5
            exact ⟨σ, Or.inl ⟨Or.inr (Or.inr (Or.inr (Or.inr (by omega)))), rfl, rfl⟩⟩
end PREEL
