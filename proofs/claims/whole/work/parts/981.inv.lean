/-! class and reference together: the invariant, and a theorem a call -/
def CS (σ : zS) (C : Nat → Nat) (b b' : Nat) (tp : List Nat) (ab : Nat → Nat) (rg px : Nat → Nat → Nat) (sw sh : Nat) (cv : Nat → Nat) (o : List Nat) (pl : Int32) : Prop :=
  CLL σ C ∧ zr σ (C 0) 4 = some (C b) ∧ zr σ (C 5) 3 = some (C b') ∧ SMT σ (C 2) ∧ BL σ (C 3) (C 4) 8000 tp ∧ RC σ (fun i => C (b + i)) ab rg px ∧ SCc σ C sw sh cv ∧ BL σ (C 66) (C 67) 9968 o ∧ zi σ (C 0) 5 = pl
def BS (σ : zS) (B : Nat → Nat) (tp : List Nat) (ab : Nat → Nat) (rg px : Nat → Nat → Nat) (sw sh : Nat) (cv : Nat → Nat) (o : List Nat) (pl : Int32) : Prop :=
  zML σ B ∧ TPm σ B tp ∧ MR σ B ab rg px ∧ SCm σ B sw sh cv ∧ OUm σ B o ∧ zi σ (B 0) 3 = pl
def dsj (C B : Nat → Nat) : Prop := ∀ i j, i < 71 → j < 12 → C i ≠ B j
def INV (σ : zS) (C B : Nat → Nat) : Prop := dsj C B ∧ ∃ (b b' : Nat) (tp : List Nat) (ab : Nat → Nat) (rg px : Nat → Nat → Nat) (sw sh : Nat) (cv : Nat → Nat) (o : List Nat) (pl : Int32), isR b ∧ isR b' ∧ b ≠ b' ∧ WFr ab rg ∧ CS σ C b b' tp ab rg px sw sh cv o pl ∧ BS σ B tp ab rg px sw sh cv o pl
def FR (C B : Nat → Nat) (σ s : zS) : Prop := zk s = zk σ ∧ zn s = zn σ ∧ zl s = zl σ ∧ zx s = zx σ ∧ ∀ a, (∀ i, i < 71 → a ≠ C i) → (∀ j, j < 12 → a ≠ B j) → ∀ k, zr s a k = zr σ a k ∧ zi s a k = zi σ a k
section PINV
variable {σ s t : zS} {C B : Nat → Nat} {b b' : Nat} {tp : List Nat} {ab : Nat → Nat} {rg px : Nat → Nat → Nat} {sw sh : Nat} {cv : Nat → Nat} {o : List Nat} {pl : Int32} {P F : Nat → Prop}
theorem zsO.ofC (h : zsC C P σ s) : zsO C σ s := zsO.ofq (zsq.ofC h)
theorem zsO.rf : zsO C σ σ := ⟨rfl, rfl, rfl, rfl, fun _ _ _ => ⟨rfl, rfl⟩⟩
theorem FR.mk (h1 : zsO C σ s) (h2 : zsm (fun a => ∃ i, i < 12 ∧ a = B i) s t) : FR C B σ t := ⟨h2.k.trans h1.1, h2.n.trans h1.2.1, h2.l.trans h1.2.2.1, h2.x.trans h1.2.2.2.1, fun a hc hb k => ⟨by rw [h2.r]; exact (h1.2.2.2.2 a hc k).1, (h2.i (fun ⟨i, hi, e⟩ => hb i hi e) k).trans (h1.2.2.2.2 a hc k).2⟩⟩
theorem BS.of (h : BS σ B tp ab rg px sw sh cv o pl) (hd : dsj C B) (hs : zsO C σ s) : BS s B tp ab rg px sw sh cv o pl := by
  have q : ∀ j, j < 12 → ∀ k, zi s (B j) k = zi σ (B j) k := fun j hj k => (hs.2.2.2.2 (B j) (fun i hi e => hd i j hi hj e.symm) k).2
  have qr : ∀ k, zr s (B 0) k = zr σ (B 0) k := fun k => (hs.2.2.2.2 (B 0) (fun i hi e => hd i 0 hi (by decide) e.symm) k).1
  obtain ⟨h1, h2, h3, h4, h5, h6⟩ := h
  refine ⟨?_, ⟨(q 0 (by decide) 1).trans h2.1, h2.2.1, fun j hj => ⟨(q 1 (by decide) j).trans (h2.2.2 j hj).1, (h2.2.2 j hj).2⟩⟩, h3.of (q 2 (by decide)) (q 3 (by decide)) (q 4 (by decide)), ?_, ⟨(q 0 (by decide) 12).trans h5.1, h5.2.1, fun j hj => ?_⟩, (q 0 (by decide) 3).trans h6⟩
  · unfold zML
    rw [hs.1, hs.2.1]
    simp only [qr]
    exact h1
  · rcases h4 with ⟨y1, y2⟩ | ⟨y1, y2, y3, y4, y5⟩
    · exact Or.inl ⟨(q 0 (by decide) 7).trans y1, y2⟩
    · exact Or.inr ⟨(q 0 (by decide) 7).trans y1, y2, (q 0 (by decide) 8).trans y3, (q 0 (by decide) 9).trans y4, fun i hi => (q 5 (by decide) i).trans (y5 i hi)⟩
  · unfold zby
    rw [q 7 (by decide)]
    exact h5.2.2 j hj
theorem CS.of (h : CS σ C b b' tp ab rg px sw sh cv o pl) (hb : isR b) (h4 : ab 4 ≤ 8) (hd : dsj C B) (hs : zsm (fun a => ∃ i, i < 12 ∧ a = B i) σ s) : CS s C b b' tp ab rg px sw sh cv o pl := by
  have n : ∀ i, i < 71 → ¬ (∃ j, j < 12 ∧ C i = B j) := fun i hi ⟨j, hj, e⟩ => hd i j hi hj e
  have q : ∀ i, i < 71 → ∀ k, zi s (C i) k = zi σ (C i) k := fun i hi k => hs.i (n i hi) k
  have hlt := hb.lt
  obtain ⟨h1, h2, h3, h5, h6, h7, h8, h9, h10⟩ := h
  refine ⟨h1.of hs, by rw [hs.r]; exact h2, by rw [hs.r]; exact h3, fun k hk => (q 2 (by decide) k).trans (h5 k hk), h6.of hs (n 3 (by decide)) (n 4 (by decide)), ?_, ⟨(q 68 (by decide) 2).trans h8.1, (q 68 (by decide) 3).trans h8.2.1, fun i hi => (q 69 (by decide) i).trans (h8.2.2 i hi)⟩, h9.of hs (n 66 (by decide)) (n 67 (by decide)), (q 0 (by decide) 5).trans h10⟩
  obtain ⟨⟨g1, g2, g3, g4, g5, g6⟩, ⟨g7, g8⟩, g9, g10, g11⟩ := h7
  have qq : ∀ j, j < 20 → ∀ k, zi s (C (b + j)) k = zi σ (C (b + j)) k := fun j hj k => q (b + j) (by omega) k
  exact ⟨⟨(qq 0 (by decide) 2).trans g1, (qq 0 (by decide) 3).trans g2, (qq 0 (by decide) 4).trans g3, (qq 0 (by decide) 5).trans g4, (qq 0 (by decide) 6).trans g5, (qq 0 (by decide) 7).trans g6⟩, ⟨(qq 18 (by decide) 1).trans g7, (qq 18 (by decide) 2).trans g8⟩, fun f hf k hk => (qq (2 + 2 * f) (by omega) _).trans (g9 f hf k hk), fun f hf i hi => (qq (3 + 2 * f) (by omega) _).trans (g10 f hf i hi), fun h5 i hi => (qq 19 (by decide) _).trans (g11 h5 i hi)⟩
theorem CS.upd {tp' : List Nat} {ab' : Nat → Nat} {rg' px' : Nat → Nat → Nat} {sw' sh' : Nat} {cv' : Nat → Nat} {o' : List Nat} (h : CS σ C b b' tp ab rg px sw sh cv o pl) (hs : zsC C P σ s) (p0 : ¬ P 0) (p2 : ¬ P 2) (ht : BL s (C 3) (C 4) 8000 tp') (hR : RC s (fun i => C (b + i)) ab' rg' px') (hS : SCc s C sw' sh' cv') (ho : BL s (C 66) (C 67) 9968 o') : CS s C b b' tp' ab' rg' px' sw' sh' cv' o' pl :=
  ⟨h.1.of hs, by rw [zsm.r hs]; exact h.2.1, by rw [zsm.r hs]; exact h.2.2.1, fun k hk => (hs.i h.1 (by decide) p2 k).trans (h.2.2.2.1 k hk), ht, hR, hS, ho, (hs.i h.1 (by decide) p0 5).trans h.2.2.2.2.2.2.2.2⟩
theorem CS.tap (h : CS σ C b b' tp ab rg px sw sh cv o pl) (hs : zsC C P σ s) (p3 : ¬ P 3) (p4 : ¬ P 4) : BL s (C 3) (C 4) 8000 tp := h.2.2.2.2.1.of hs (hs.n h.1 (by decide) p3) (hs.n h.1 (by decide) p4)
theorem CS.ou (h : CS σ C b b' tp ab rg px sw sh cv o pl) (hs : zsC C P σ s) (p3 : ¬ P 66) (p4 : ¬ P 67) : BL s (C 66) (C 67) 9968 o := h.2.2.2.2.2.2.2.1.of hs (hs.n h.1 (by decide) p3) (hs.n h.1 (by decide) p4)
theorem CS.sc (h : CS σ C b b' tp ab rg px sw sh cv o pl) (hs : zsC C P σ s) (p3 : ¬ P 68) (p4 : ¬ P 69) : SCc s C sw sh cv := by
  have h8 := h.2.2.2.2.2.2.1
  exact ⟨(hs.i h.1 (by decide) p3 2).trans h8.1, (hs.i h.1 (by decide) p3 3).trans h8.2.1, fun i hi => (hs.i h.1 (by decide) p4 i).trans (h8.2.2 i hi)⟩
theorem CS.rc (h : CS σ C b b' tp ab rg px sw sh cv o pl) (hb : isR b) (h4 : ab 4 ≤ 8) (hs : zsC C P σ s) (hp : ∀ j, b ≤ j → j < b + 20 → ¬ P j) : RC s (fun i => C (b + i)) ab rg px := h.2.2.2.2.2.1.of h.1 hb hs hp h4
theorem BS.upd {tp' : List Nat} {ab' : Nat → Nat} {rg' px' : Nat → Nat → Nat} {sw' sh' : Nat} {cv' : Nat → Nat} {o' : List Nat} (h : BS σ B tp ab rg px sw sh cv o pl) (hs : zsB B P F σ s) (f3 : ¬ F 3) (ht : TPm s B tp') (hR : MR s B ab' rg' px') (hS : SCm s B sw' sh' cv') (ho : OUm s B o') : BS s B tp' ab' rg' px' sw' sh' cv' o' pl := ⟨h.1.of hs.1, ht, hR, hS, ho, (hs.2 3 f3).trans h.2.2.2.2.2⟩
theorem BS.tap (h : BS σ B tp ab rg px sw sh cv o pl) (hs : zsB B P F σ s) (f1 : ¬ F 1) (p1 : ¬ P 1) : TPm s B tp := ⟨(hs.2 1 f1).trans h.2.1.1, h.2.1.2.1, fun j hj => ⟨(hs.i h.1 (by decide) p1 j).trans (h.2.1.2.2 j hj).1, (h.2.1.2.2 j hj).2⟩⟩
theorem BS.mr (h : BS σ B tp ab rg px sw sh cv o pl) (hs : zsB B P F σ s) (p2 : ¬ P 2) (p3 : ¬ P 3) (p4 : ¬ P 4) : MR s B ab rg px := h.2.2.1.of (hs.i h.1 (by decide) p2) (hs.i h.1 (by decide) p3) (hs.i h.1 (by decide) p4)
theorem BS.sc (h : BS σ B tp ab rg px sw sh cv o pl) (hs : zsB B P F σ s) (f7 : ¬ F 7) (f8 : ¬ F 8) (f9 : ¬ F 9) (p5 : ¬ P 5) : SCm s B sw sh cv := by
  rcases h.2.2.2.1 with ⟨y1, y2⟩ | ⟨y1, y2, y3, y4, y5⟩
  · exact Or.inl ⟨(hs.2 7 f7).trans y1, y2⟩
  · exact Or.inr ⟨(hs.2 7 f7).trans y1, y2, (hs.2 8 f8).trans y3, (hs.2 9 f9).trans y4, fun i hi => (hs.i h.1 (by decide) p5 i).trans (y5 i hi)⟩
theorem BS.ou (h : BS σ B tp ab rg px sw sh cv o pl) (hs : zsB B P F σ s) (f12 : ¬ F 12) (p7 : ¬ P 7) : OUm s B o := ⟨(hs.2 12 f12).trans h.2.2.2.2.1.1, h.2.2.2.2.1.2.1, fun j hj => by
  unfold zby
  rw [hs.i h.1 (by decide) p7]
  exact h.2.2.2.2.1.2.2 j hj⟩
def Fz : Nat → Prop := fun j => j = 0
def Pz : Nat → Prop := fun i => i = 0
theorem zsB.z (σ : zS) {v : Int32} : zsB B Pz Fz σ (zuI σ (B 0) 0 v) := zsB.rf.u0 rfl rfl
/-- the reference's flag alone -/
theorem BS.z (h : BS σ B tp ab rg px sw sh cv o pl) {v : Int32} : BS (zuI σ (B 0) 0 v) B tp ab rg px sw sh cv o pl :=
  h.upd (zsB.z σ) (by unfold Fz; decide) (h.tap (zsB.z σ) (by unfold Fz; decide) (by unfold Pz; decide)) (h.mr (zsB.z σ) (by unfold Pz; decide) (by unfold Pz; decide) (by unfold Pz; decide)) (h.sc (zsB.z σ) (by unfold Fz; decide) (by unfold Fz; decide) (by unfold Fz; decide) (by unfold Pz; decide)) (h.ou (zsB.z σ) (by unfold Fz; decide) (by unfold Pz; decide))
theorem zsB.all (h : zsB B P F σ s) : zsm (fun a => ∃ i, i < 12 ∧ a = B i) σ s := zsm.mono h.1 (fun a ⟨i, hi, _, e⟩ => ⟨i, hi, e⟩)
/-- both sides, one after the other -/
theorem INV.mk {s1 s2 : zS} {b2 b2' : Nat} {tp' : List Nat} {ab' : Nat → Nat} {rg' px' : Nat → Nat → Nat} {sw' sh' : Nat} {cv' : Nat → Nat} {o' : List Nat} {pl' : Int32} (hd : dsj C B) (o1 : zsO C σ s1) (hb : isR b2) (hb' : isR b2') (hn : b2 ≠ b2') (hw : WFr ab' rg') (hC : CS s1 C b2 b2' tp' ab' rg' px' sw' sh' cv' o' pl') (m2 : zsm (fun a => ∃ i, i < 12 ∧ a = B i) s1 s2) (hB : BS s2 B tp' ab' rg' px' sw' sh' cv' o' pl') : INV s2 C B ∧ FR C B σ s2 := ⟨⟨hd, b2, b2', tp', ab', rg', px', sw', sh', cv', o', pl', hb, hb', hn, hw, hC.of hb hw.b.2.2.2.1 hd m2, hB⟩, FR.mk o1 m2⟩
def CALL (C B : Nat → Nat) (σ : zS) (f g : zS → Option (Int32 × zS)) : Prop := ∃ r s1 s2, f σ = some (r, s1) ∧ g s1 = some (r, s2) ∧ INV s2 C B ∧ FR C B σ s2
theorem v_same (h : INV σ C B) {f g : zS → Option (Int32 × zS)} {r : Int32} (e1 : f σ = some (r, σ)) (e2 : g σ = some (r, zuI σ (B 0) 0 0)) : CALL C B σ f g := by
  obtain ⟨hd, b, b', tp, ab, rg, px, sw, sh, cv, o, pl, hb, hb', hn, hw, hC, hB⟩ := h
  exact ⟨r, σ, _, e1, e2, INV.mk hd zsO.rf hb hb' hn hw hC (zsB.z σ).all hB.z⟩
theorem zf01.zb (h : zf01 B σ s) : zsB B (fun i => i = 0 ∨ i = 1) (fun j => j = 0 ∨ j = 1) σ s := ⟨h.1.mono (fun a z => z.elim (fun z => ⟨0, by decide, Or.inl rfl, z⟩) (fun z => ⟨1, by decide, Or.inr rfl, z⟩)), fun j hj => h.2 j (fun z => hj (Or.inl z)) (fun z => hj (Or.inr z))⟩
theorem v_tape (h : INV σ C B) {f g : zS → Option (Int32 × zS)} {r : List Nat → Int32} {tn : List Nat → List Nat} (hf : ∀ tp, BL σ (C 3) (C 4) 8000 tp → CLL σ C → ∃ s, f σ = some (r tp, s) ∧ zsm (fun a => a = C 3 ∨ a = C 4) σ s ∧ BL s (C 3) (C 4) 8000 (tn tp)) (hg : ∀ (t : zS) tp, zML t B → TPm t B tp → ∃ s, g t = some (r tp, s) ∧ zf01 B t s ∧ TPm s B (tn tp)) : CALL C B σ f g := by
  obtain ⟨hd, b, b', tp, ab, rg, px, sw, sh, cv, o, pl, hb, hb', hn, hw, hC, hB⟩ := h
  have hlt := hb.lt
  have h25 : 25 ≤ b := by rcases hb with z | z <;> omega
  obtain ⟨s1, e1, m1, t1⟩ := hf tp hC.2.2.2.2.1 hC.1
  have z1 : zsC C (fun i => i = 3 ∨ i = 4) σ s1 := zsC.of2 (by decide) (Or.inl rfl) (by decide) (Or.inr rfl) m1
  have hC1 := hC.upd z1 (by decide) (by decide) t1 (hC.rc hb hw.b.2.2.2.1 z1 (fun j y1 y2 z => by omega)) (hC.sc z1 (by decide) (by decide)) (hC.ou z1 (by decide) (by decide))
  have hB1 := hB.of hd (zsO.ofC z1)
  obtain ⟨s2, e2, m2, t2⟩ := hg s1 tp hB1.1 hB1.2.1
  have hB2 := hB1.upd m2.zb (by decide) t2 (hB1.mr m2.zb (by decide) (by decide) (by decide)) (hB1.sc m2.zb (by decide) (by decide) (by decide) (by decide)) (hB1.ou m2.zb (by decide) (by decide))
  exact ⟨_, s1, s2, e1, e2, INV.mk hd (zsO.ofC z1) hb hb' hn hw hC1 m2.zb.all hB2⟩
theorem v_type (h : INV σ C B) (w n : Int32) : CALL C B σ (fun t => fX11_type t (C 0) w n) (fun t => fX12_type t (B 0) w n) := v_tape (r := fun tp => (typeS tp w n).1) (tn := fun tp => (typeS tp w n).2) h (fun _ ht hC => c_type hC ht w n) (fun _ _ hB ht => m_type hB ht w n)
theorem v_words (h : INV σ C B) (w x y z : Int32) : CALL C B σ (fun t => fX11_words t (C 0) w x y z) (fun t => fX12_words t (B 0) w x y z) := v_tape (r := fun tp => (wordsS tp w x y z).1) (tn := fun tp => (wordsS tp w x y z).2) h (fun _ ht hC => c_words hC ht w x y z) (fun _ _ hB ht => m_words hB ht w x y z)
/-- a call that alters the reel in use -/
theorem v_reel {f g : zS → Option (Int32 × zS)} {r : Int32} {s1 : zS} {ab' : Nat → Nat} {rg' px' : Nat → Nat → Nat} (hd : dsj C B) (hb : isR b) (hb' : isR b') (hn : b ≠ b') (hC : CS σ C b b' tp ab rg px sw sh cv o pl) (hB : BS σ B tp ab rg px sw sh cv o pl) (hw' : WFr ab' rg') (e1 : f σ = some (r, s1)) (z1 : zsC C (PR b) σ s1) (hR : RC s1 (fun i => C (b + i)) ab' rg' px') (hS : SCc s1 C 0 0 (fun _ => 0)) (hg : BS s1 B tp ab rg px sw sh cv o pl → ∃ s2, g s1 = some (r, s2) ∧ zsB B PM FM s1 s2 ∧ MR s2 B ab' rg' px' ∧ SCm s2 B 0 0 (fun _ => 0)) : CALL C B σ f g := by
  have hlt := hb.lt
  have h25 : 25 ≤ b := by rcases hb with z | z <;> omega
  have np : ∀ j, j < 25 ∨ (65 ≤ j ∧ j ≠ 68) → ¬ PR b j := fun j hj z => by
    unfold PR at z
    omega
  have hC1 := hC.upd z1 (np 0 (by decide)) (np 2 (by decide)) (hC.tap z1 (np 3 (by decide)) (np 4 (by decide))) hR hS (hC.ou z1 (np 66 (by decide)) (np 67 (by decide)))
  have hB1 := hB.of hd (zsO.ofC z1)
  obtain ⟨s2, e2, m2, hR2, hS2⟩ := hg hB1
  have hB2 := hB1.upd m2 (by unfold FM; decide) (hB1.tap m2 (by unfold FM; decide) (by unfold PM; decide)) hR2 hS2 (hB1.ou m2 (by unfold FM; decide) (by unfold PM; decide))
  exact ⟨r, s1, s2, e1, e2, INV.mk hd (zsO.ofC z1) hb hb' hn hw' hC1 m2.all hB2⟩
theorem v_begin (h : INV σ C B) (w hh p : Int32) : CALL C B σ (fun t => fX11_begin t (C 0) w hh p) (fun t => fX12_begin t (B 0) w hh p) := by
  obtain ⟨hd, b, b', tp, ab, rg, px, sw, sh, cv, o, pl, hb, hb', hn, hw, hC, hB⟩ := id h
  obtain ⟨s1, hs⟩ := c_begin hC.1 hb hC.2.1 rg px w hh p
  rcases hs with ⟨y1, e1, rfl⟩ | ⟨y1, e1, z1, hR, hS⟩
  · obtain ⟨s2, hs2⟩ := m_begin hB.1 rg px w hh p
    rcases hs2 with ⟨x1, e2, rfl⟩ | ⟨x1, -⟩
    · exact v_same h e1 e2
    · exact absurd y1 x1
  · refine v_reel (f := fun t => fX11_begin t (C 0) w hh p) (g := fun t => fX12_begin t (B 0) w hh p) hd hb hb' hn hC hB ?_ e1 z1 hR hS (fun hB1 => ?_)
    · unfold badB at y1
      exact WFr_B ⟨by omega, by omega⟩ ⟨by omega, by omega⟩
    · obtain ⟨s2, hs2⟩ := m_begin hB1.1 rg px w hh p
      rcases hs2 with ⟨x1, -⟩ | ⟨-, e2, m2, hR2, hS2⟩
      · exact absurd x1 y1
      · exact ⟨s2, e2, m2, hR2, hS2⟩
theorem WFr_F {r : Nat → Nat} (h : WFr ab rg) (h0 : ab 0 ≠ 0) (h8 : ab 4 < 8) (hr : RGN ab r) : WFr (abF ab) (rgF rg (ab 4) r) := by
  have hb := h.b
  have h5 : ab 5 ≤ ab 4 := by
    rcases h with ⟨z, -⟩ | ⟨-, -, -, -, z5, -, z7⟩
    · omega
    · by_cases y : ab 5 = 1
      · have := (z7 y).1; omega
      · omega
  have e : abF ab = abC ab 1 := by
    funext k
    unfold abF abC
    by_cases y : k = 4
    · rw [if_pos y, if_pos y]
    · rw [if_neg y, if_neg y]
      by_cases y5 : k = 5
      · rw [if_pos y5, if_neg (by decide), y5]
      · rw [if_neg y5]
  rw [e]
  exact WFr_C h (by omega) h8 hr h5 (fun z => absurd z (by decide))
theorem v_frame (h : INV σ C B) (w hh x y d bl : Int32) : CALL C B σ (fun t => fX11_frame t (C 0) w hh x y d bl) (fun t => fX12_frame t (B 0) w hh x y d bl) := by
  obtain ⟨hd, b, b', tp, ab, rg, px, sw, sh, cv, o, pl, hb, hb', hn, hw, hC, hB⟩ := id h
  obtain ⟨s1, hs⟩ := c_frame hC.1 hb hC.2.1 hC.2.2.2.2.2.1 hw w hh x y d bl
  rcases hs with ⟨y1, e1, rfl⟩ | ⟨y1, y2, e1, rfl⟩ | ⟨y1, y2, y3, e1, rfl⟩ | ⟨y1, y2, y3, e1, z1, hR, hS⟩
  · obtain ⟨s2, hs2⟩ := m_frame hB.1 hB.2.2.1 hw w hh x y d bl
    rcases hs2 with ⟨x1, e2, rfl⟩ | ⟨x1, -⟩ | ⟨x1, -⟩ | ⟨x1, -⟩
    · exact v_same h e1 e2
    all_goals exact absurd y1 x1
  · obtain ⟨s2, hs2⟩ := m_frame hB.1 hB.2.2.1 hw w hh x y d bl
    rcases hs2 with ⟨x1, -⟩ | ⟨x1, x2, e2, rfl⟩ | ⟨x1, x2, -⟩ | ⟨x1, x2, -⟩
    · exact absurd x1 y1
    · exact v_same h e1 e2
    all_goals exact absurd x2 y2
  · obtain ⟨s2, hs2⟩ := m_frame hB.1 hB.2.2.1 hw w hh x y d bl
    rcases hs2 with ⟨x1, -⟩ | ⟨x1, x2, -⟩ | ⟨x1, x2, x3, e2, rfl⟩ | ⟨x1, x2, x3, -⟩
    · exact absurd x1 y1
    · exact absurd y2 x2
    · exact v_same h e1 e2
    · omega
  · refine v_reel (f := fun t => fX11_frame t (C 0) w hh x y d bl) (g := fun t => fX12_frame t (B 0) w hh x y d bl) hd hb hb' hn hC hB (WFr_F hw y1 y3 (alw_rgn y2)) e1 z1 hR hS (fun hB1 => ?_)
    obtain ⟨s2, hs2⟩ := m_frame hB1.1 hB1.2.2.1 hw w hh x y d bl
    rcases hs2 with ⟨x1, -⟩ | ⟨x1, x2, -⟩ | ⟨x1, x2, x3, -⟩ | ⟨x1, x2, x3, e2, m2, hR2, hS2⟩
    · exact absurd x1 y1
    · exact absurd y2 x2
    · omega
    · exact ⟨s2, e2, m2, hR2, hS2⟩
theorem v_paint (h : INV σ C B) (f x y c : Int32) : CALL C B σ (fun t => fX11_paint t (C 0) f x y c) (fun t => fX12_paint t (B 0) f x y c) := by
  obtain ⟨hd, b, b', tp, ab, rg, px, sw, sh, cv, o, pl, hb, hb', hn, hw, hC, hB⟩ := id h
  obtain ⟨s1, hs⟩ := c_paint hC.1 hb hC.2.1 hC.2.2.2.2.2.1 hw f x y c
  rcases hs with ⟨y1, e1, rfl⟩ | ⟨g, y1, ⟨y2, e1, rfl⟩ | ⟨y2, e1, z1, hR, hS⟩⟩
  · obtain ⟨s2, hs2⟩ := m_paint hB.1 hB.2.2.1 hw f x y c
    rcases hs2 with ⟨x1, e2, rfl⟩ | ⟨g, x1, -⟩
    · exact v_same h e1 e2
    · rw [y1] at x1; exact absurd x1 (by simp)
  · obtain ⟨s2, hs2⟩ := m_paint hB.1 hB.2.2.1 hw f x y c
    rcases hs2 with ⟨x1, -⟩ | ⟨g', x1, ⟨x2, e2, rfl⟩ | ⟨x2, -⟩⟩
    · rw [y1] at x1; exact absurd x1 (by simp)
    · exact v_same h e1 e2
    · rw [y1] at x1
      have := Option.some.inj x1
      subst this
      exact absurd x2 y2
  · refine v_reel (f := fun t => fX11_paint t (C 0) f x y c) (g := fun t => fX12_paint t (B 0) f x y c) hd hb hb' hn hC hB hw e1 z1 hR hS (fun hB1 => ?_)
    obtain ⟨s2, hs2⟩ := m_paint hB1.1 hB1.2.2.1 hw f x y c
    rcases hs2 with ⟨x1, -⟩ | ⟨g', x1, ⟨x2, -⟩ | ⟨x2, e2, m2, hR2, hS2⟩⟩
    · rw [y1] at x1; exact absurd x1 (by simp)
    · rw [y1] at x1
      have := Option.some.inj x1
      subst this
      exact absurd y2 x2
    · rw [y1] at x1
      have := Option.some.inj x1
      subst this
      exact ⟨s2, e2, m2, hR2, hS2⟩
theorem WFr_U {v : Nat} (h : WFr ab rg) (hv : v ≤ 1) (hc : ¬ (ab 0 = 0 ∨ (v = 1 ∧ ¬ fcan ab rg))) : WFr (abU ab v) rg := by
  rcases h with ⟨z, -⟩ | ⟨q0, q1, q2, q4, q5, q6, q7⟩
  · exact absurd (Or.inl z) hc
  · refine Or.inr ⟨q0, q1, q2, q4, hv, q6, fun z => ?_⟩
    have z' : v = 1 := z
    by_cases y : fcan ab rg
    · exact y
    · exact absurd (Or.inr ⟨z', y⟩) hc
theorem v_first (h : INV σ C B) {v : Nat} (hv : v ≤ 1) : CALL C B σ (fun t => fX11_first t (C 0) (nI v)) (fun t => fX12_first t (B 0) (nI v)) := by
  obtain ⟨hd, b, b', tp, ab, rg, px, sw, sh, cv, o, pl, hb, hb', hn, hw, hC, hB⟩ := id h
  obtain ⟨s1, hs⟩ := c_first hC.1 hb hC.2.1 hC.2.2.2.2.2.1 hw hv
  rcases hs with ⟨y1, e1, rfl⟩ | ⟨y1, y2, e1, rfl⟩ | ⟨y1, y2, e1, z1, hR, hS⟩
  · obtain ⟨s2, hs2⟩ := m_first hB.1 hB.2.2.1 hw hv
    rcases hs2 with ⟨x1, e2, rfl⟩ | ⟨x1, -⟩ | ⟨x1, -⟩
    · exact v_same h e1 e2
    all_goals exact absurd y1 x1
  · obtain ⟨s2, hs2⟩ := m_first hB.1 hB.2.2.1 hw hv
    rcases hs2 with ⟨x1, -⟩ | ⟨x1, x2, e2, rfl⟩ | ⟨x1, x2, -⟩
    · exact absurd x1 y1
    · exact v_same h e1 e2
    · exact absurd y2 x2
  · refine v_reel (f := fun t => fX11_first t (C 0) (nI v)) (g := fun t => fX12_first t (B 0) (nI v)) hd hb hb' hn hC hB (WFr_U hw hv y1) e1 z1 hR hS (fun hB1 => ?_)
    obtain ⟨s2, hs2⟩ := m_first hB1.1 hB1.2.2.1 hw hv
    rcases hs2 with ⟨x1, -⟩ | ⟨x1, x2, -⟩ | ⟨x1, x2, e2, m2, hR2, hS2⟩
    · exact absurd x1 y1
    · exact absurd x2 y2
    · exact ⟨s2, e2, m2, hR2, hS2⟩
theorem v_show (h : INV σ C B) (f : Int32) : CALL C B σ (fun t => fX11_show t (C 0) f) (fun t => fX12_show t (B 0) f) := by
  obtain ⟨hd, b, b', tp, ab, rg, px, sw, sh, cv, o, pl, hb, hb', hn, hw, hC, hB⟩ := id h
  have hlt := hb.lt
  obtain ⟨s1, hs⟩ := c_show hC.1 hb hC.2.1 hC.2.2.2.2.2.1 hw f
  rcases hs with ⟨y1, e1, rfl⟩ | ⟨cv', y1, y2, e1, z1, hS⟩
  · obtain ⟨s2, hs2⟩ := m_show hB.1 hB.2.2.1 hw f
    rcases hs2 with ⟨x1, e2, rfl⟩ | ⟨cv', x1, -⟩
    · exact v_same h e1 e2
    · rw [y1] at x1; exact absurd x1 (by simp)
  · have np : ∀ j, j < 68 → ¬ PS j := fun j hj z => by
      unfold PS at z
      omega
    have hC1 := hC.upd z1 (np 0 (by decide)) (np 2 (by decide)) (hC.tap z1 (np 3 (by decide)) (np 4 (by decide))) (hC.rc hb hw.b.2.2.2.1 z1 (fun j _ hj => np j (by omega))) hS (hC.ou z1 (np 66 (by decide)) (np 67 (by decide)))
    have hB1 := hB.of hd (zsO.ofC z1)
    obtain ⟨s2, hs2⟩ := m_show hB1.1 hB1.2.2.1 hw f
    rcases hs2 with ⟨x1, -⟩ | ⟨cv2, x1, -, e2, m2, hS2⟩
    · rw [y1] at x1; exact absurd x1 (by simp)
    · rw [y1] at x1
      have := Option.some.inj x1
      subst this
      have hB2 := hB1.upd m2 (by unfold FMs; decide) (hB1.tap m2 (by unfold FMs; decide) (by unfold PMs; decide)) (hB1.mr m2 (by unfold PMs; decide) (by unfold PMs; decide) (by unfold PMs; decide)) hS2 (hB1.ou m2 (by unfold FMs; decide) (by unfold PMs; decide))
      exact ⟨1, s1, s2, e1, e2, INV.mk hd (zsO.ofC z1) hb hb' hn hw hC1 m2.all hB2⟩
theorem v_write (h : INV σ C B) : CALL C B σ (fun t => fX11_write t (C 0)) (fun t => fX12_write t (B 0)) := by
  obtain ⟨hd, b, b', tp, ab, rg, px, sw, sh, cv, o, pl, hb, hb', hn, hw, hC, hB⟩ := id h
  have hlt := hb.lt
  obtain ⟨s1, hs⟩ := c_write hC.1 hb hC.2.1 hC.2.2.2.2.2.1 hw hC.2.2.2.1 hC.2.2.2.2.2.2.2.1
  rcases hs with ⟨y1, e1, rfl⟩ | ⟨y1, e1, z1, ho⟩
  · obtain ⟨s2, hs2⟩ := m_write hB.1 hB.2.2.1 hw
    rcases hs2 with ⟨x1, e2, rfl⟩ | ⟨x1, -⟩
    · exact v_same h e1 e2
    · omega
  · have np : ∀ j, j < 65 ∨ 68 ≤ j → ¬ PWr j := fun j hj z => by
      unfold PWr at z
      omega
    have hC1 := hC.upd z1 (np 0 (by decide)) (np 2 (by decide)) (hC.tap z1 (np 3 (by decide)) (np 4 (by decide))) (hC.rc hb hw.b.2.2.2.1 z1 (fun j _ hj => np j (by omega))) (hC.sc z1 (np 68 (by decide)) (np 69 (by decide))) ho
    have hB1 := hB.of hd (zsO.ofC z1)
    obtain ⟨s2, hs2⟩ := m_write hB1.1 hB1.2.2.1 hw
    rcases hs2 with ⟨x1, -⟩ | ⟨-, e2, m2, ho2⟩
    · omega
    · have hB2 := hB1.upd m2 (by unfold FMw; decide) (hB1.tap m2 (by unfold FMw; decide) (by unfold PMw; decide)) (hB1.mr m2 (by unfold PMw; decide) (by unfold PMw; decide) (by unfold PMw; decide)) (hB1.sc m2 (by unfold FMw; decide) (by unfold FMw; decide) (by unfold FMw; decide) (by unfold PMw; decide)) ho2
      exact ⟨_, s1, s2, e1, e2, INV.mk hd (zsO.ofC z1) hb hb' hn hw hC1 m2.all hB2⟩
theorem v_about (h : INV σ C B) (p i : Int32) : ∃ r s2, fX11_about σ (C 0) p i = some r ∧ fX12_about σ (B 0) p i = some (r, s2) ∧ INV s2 C B ∧ FR C B σ s2 := by
  obtain ⟨hd, b, b', tp, ab, rg, px, sw, sh, cv, o, pl, hb, hb', hn, hw, hC, hB⟩ := id h
  exact ⟨_, _, c_about hC.1 hb hC.2.1 hC.2.2.2.2.2.1 hw p i, m_about hB.1 hB.2.2.1 hw p i, INV.mk hd zsO.rf hb hb' hn hw hC (zsB.z σ).all hB.z⟩
theorem v_out (h : INV σ C B) (i : Int32) : ∃ r s2, fX11_out σ (C 0) i = some r ∧ fX12_out σ (B 0) i = some (r, s2) ∧ INV s2 C B ∧ FR C B σ s2 := by
  obtain ⟨hd, b, b', tp, ab, rg, px, sw, sh, cv, o, pl, hb, hb', hn, hw, hC, hB⟩ := id h
  exact ⟨_, _, c_out hC.1 hC.2.2.2.2.2.2.2.1 i, m_out hB.1 hB.2.2.2.2.1 i, INV.mk hd zsO.rf hb hb' hn hw hC (zsB.z σ).all hB.z⟩
theorem v_place (h : INV σ C B) : ∃ r s2, fX11_place σ (C 0) = some r ∧ fX12_place σ (B 0) = some (r, s2) ∧ INV s2 C B ∧ FR C B σ s2 := by
  obtain ⟨hd, b, b', tp, ab, rg, px, sw, sh, cv, o, pl, hb, hb', hn, hw, hC, hB⟩ := id h
  refine ⟨pl, zuI σ (B 0) 0 0, ?_, ?_, INV.mk hd zsO.rf hb hb' hn hw hC (zsB.z σ).all hB.z⟩
  · unfold fX11_place
    rw [oGI_eq hC.1.k0 hC.2.2.2.2.2.2.2.2]
  · unfold fX12_place
    have hB' : BS (zuI σ (B 0) 0 0) B tp ab rg px sw sh cv o pl := hB.z
    rw [oPI_eq hB.1.2.1, oGI_eq hB'.1.2.1 hB'.2.2.2.2.2]
theorem v_read (h : INV σ C B) : CALL C B σ (fun t => fX11_read t (C 0)) (fun t => fX12_read t (B 0)) := by
  obtain ⟨hd, b, b', tp, ab, rg, px, sw, sh, cv, o, pl, hb, hb', hn, hw, hC, hB⟩ := id h
  have hlt := hb.lt
  have hlt' := hb'.lt
  have h25 : 25 ≤ b := by rcases hb with z | z <;> omega
  have h25' : 25 ≤ b' := by rcases hb' with z | z <;> omega
  have hbb : b + 20 ≤ b' ∨ b' + 20 ≤ b := by rcases hb with z | z <;> rcases hb' with y | y <;> omega
  obtain ⟨s1, o1, c1, t1, i1, hs⟩ := c_read hC.1 hb hb' hC.2.1 hC.2.2.1 hC.2.2.2.2.1 hC.2.2.2.1
  have hB1 := hB.of hd o1
  obtain ⟨s2, m2, t2, k7, k5, f12, hs2⟩ := m_read (tp := tp) (σ := s1) (B := B) ⟨hB1.1, hB1.2.1⟩
  have npr : ∀ j, j < 5 ∨ 65 ≤ j ∨ (b ≤ j ∧ j < b + 20) → ¬ PRd b' j := fun j hj z => by
    unfold PRd at z
    omega
  have smt1 : SMT s1 (C 2) := fun k hk => (i1 2 (by decide) (by decide) (by decide) (by decide) (npr 2 (by omega)) k).trans (hC.2.2.2.1 k hk)
  have ou1 : BL s1 (C 66) (C 67) 9968 o := by
    obtain ⟨⟨x1, x2, x3, x4, x5, x6⟩, x7⟩ := hC.2.2.2.2.2.2.2.1
    have hl := c1.2.2.2.2.2.2.2.2.2.2.2.1
    refine ⟨⟨hl.1, hl.2.1, hl.2.2.1, hl.2.2.2, (i1 66 (by decide) (by decide) (by decide) (by decide) (npr 66 (by omega)) 1).trans x5, x6⟩, fun j hj => ?_⟩
    unfold zby
    rw [i1 67 (by decide) (by decide) (by decide) (by decide) (npr 67 (by omega))]
    exact x7 j hj
  have ou2 : OUm s2 B o := ⟨f12.trans hB1.2.2.2.2.1.1, hB1.2.2.2.2.1.2.1, fun j hj => by
    unfold zby
    rw [k7]
    exact hB1.2.2.2.2.1.2.2 j hj⟩
  have ml2 := hB1.1.of m2
  rcases hs with ⟨r, p, y1, y2, e1, g1, g2, g3, g4⟩ | ⟨q, bf, ser, tl, hd', ab', rg', px', pk, y1, e1, g1, g2, g3, hR, hw', hS⟩
  · rcases hs2 with ⟨r2, p2, x1, e2, x3, x7, l2, l3, l4⟩ | ⟨q, bf, ser, tl, hd', ab', rg', px', pk, x1, -⟩
    · rw [y1] at x1
      obtain ⟨er, ep⟩ := Prod.mk.inj (Sum.inl.inj x1)
      subst er
      subst ep
      have hRC : RC s1 (fun i => C (b + i)) ab rg px := by
        obtain ⟨z1, z2, z3, z4, z5⟩ := hC.2.2.2.2.2.1
        obtain ⟨⟨g1, g2, g3, g4, g5, g6⟩, ⟨g7, g8⟩, g9, g10, g11⟩ := hC.2.2.2.2.2.1
        have h4 := hw.b.2.2.2.1
        have qq : ∀ j, j < 20 → ∀ k, zi s1 (C (b + j)) k = zi σ (C (b + j)) k := fun j hj k => i1 (b + j) (by omega) (by omega) (by omega) (by omega) (npr (b + j) (by omega)) k
        exact ⟨⟨(qq 0 (by decide) 2).trans g1, (qq 0 (by decide) 3).trans g2, (qq 0 (by decide) 4).trans g3, (qq 0 (by decide) 5).trans g4, (qq 0 (by decide) 6).trans g5, (qq 0 (by decide) 7).trans g6⟩, ⟨(qq 18 (by decide) 1).trans g7, (qq 18 (by decide) 2).trans g8⟩, fun f hf k hk => (qq (2 + 2 * f) (by omega) _).trans (g9 f hf k hk), fun f hf i hi => (qq (3 + 2 * f) (by omega) _).trans (g10 f hf i hi), fun h5 i hi => (qq 19 (by decide) _).trans (g11 h5 i hi)⟩
      have hSC : SCc s1 C sw sh cv := by
        have h8 := hC.2.2.2.2.2.2.1
        exact ⟨(g4 2).trans h8.1, (g4 3).trans h8.2.1, fun i hi => (i1 69 (by decide) (by decide) (by decide) (by decide) (npr 69 (by omega)) i).trans (h8.2.2 i hi)⟩
      have hCS : CS s1 C b b' [] ab rg px sw sh cv o (nI p) := ⟨c1, g1, g2, smt1, t1, hRC, hSC, ou1, g3⟩
      have hMR : MR s2 B ab rg px := by
        obtain ⟨u1, u2, u3, u4⟩ := hB1.2.2.1
        have h4 := hw.b
        have hpd : ab 1 * ab 2 ≤ 16 * 16 := Nat.mul_le_mul h4.2.1 h4.2.2.1
        refine ⟨fun k hk => (l2 k hk).trans (u1 k hk), fun f hf k hk => (l3 _ (by omega)).trans (u2 f hf k hk), fun f hf i hi => ?_, fun h5 i hi => (l4 _ (by omega)).trans (u4 h5 i hi)⟩
        have := ((hw.rgn hf).b h4.2.1 h4.2.2.1).2.2.2.2.2.2
        exact (l4 _ (by omega)).trans (u3 f hf i hi)
      have hSM : SCm s2 B sw sh cv := by
        rcases hB1.2.2.2.1 with ⟨z1, z2⟩ | ⟨z1, z2, z3, z4, z5⟩
        · exact Or.inl ⟨x7.1.trans z1, z2⟩
        · exact Or.inr ⟨x7.1.trans z1, z2, x7.2.1.trans z3, x7.2.2.trans z4, fun i hi => (k5 i).trans (z5 i hi)⟩
      have hBS : BS s2 B [] ab rg px sw sh cv o (nI p) := ⟨ml2, t2, hMR, hSM, ou2, x3⟩
      exact ⟨-r, s1, s2, e1, e2, INV.mk hd o1 hb hb' hn hw hCS m2 hBS⟩
    · rw [y1] at x1
      exact absurd x1 (by simp)
  · rcases hs2 with ⟨r2, p2, x1, -⟩ | ⟨q2, bf2, ser2, tl2, hd2, ab2, rg2, px2, pk2, x1, e2, x3, x7, hMR⟩
    · rw [y1] at x1
      exact absurd x1 (by simp)
    · rw [y1] at x1
      have x1' := Sum.inr.inj x1
      simp only [Prod.mk.injEq] at x1'
      obtain ⟨-, -, -, -, -, ea, eg, ex, -⟩ := x1'
      subst ea
      subst eg
      subst ex
      have hCS : CS s1 C b' b [] ab' rg' px' 0 0 (fun _ => 0) o (-1) := ⟨c1, g1, g2, smt1, t1, hR, hS, ou1, g3⟩
      have hBS : BS s2 B [] ab' rg' px' 0 0 (fun _ => 0) o (-1) := ⟨ml2, t2, hMR, Or.inl ⟨x7, rfl, rfl⟩, ou2, x3⟩
      exact ⟨nI (ab' 4), s1, s2, e1, e2, INV.mk hd o1 hb' hb (fun z => hn z.symm) hw' hCS m2 hBS⟩
end PINV
