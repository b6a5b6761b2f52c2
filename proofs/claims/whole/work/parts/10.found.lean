/-! THE STATE: what the cells hold, as functions of the address. Kinds: 0 nothing of ours; 1 + ci an object of class ci of vwCl; 20 bytes, 21 ints, 22 references to pictures, 23 longs. -/
abbrev zS : Type := (Nat → Nat) × (Nat → Nat) × (Nat → Nat → Int32) × (Nat → Nat → Option Nat) × (Nat → Nat → Int64) × Nat
def zk (σ : zS) : Nat → Nat := σ.1
def zn (σ : zS) : Nat → Nat := σ.2.1
def zi (σ : zS) : Nat → Nat → Int32 := σ.2.2.1
def zr (σ : zS) : Nat → Nat → Option Nat := σ.2.2.2.1
def zl (σ : zS) : Nat → Nat → Int64 := σ.2.2.2.2.1
def zx (σ : zS) : Nat := σ.2.2.2.2.2
def zup {α : Type} (f : Nat → Nat → α) (a k : Nat) (v : α) : Nat → Nat → α := fun b j => if b = a ∧ j = k then v else f b j
def zuI (σ : zS) (a k : Nat) (v : Int32) : zS := (σ.1, σ.2.1, zup σ.2.2.1 a k v, σ.2.2.2)
def zuR (σ : zS) (a k : Nat) (v : Option Nat) : zS := (σ.1, σ.2.1, σ.2.2.1, zup σ.2.2.2.1 a k v, σ.2.2.2.2)
def zuL (σ : zS) (a k : Nat) (v : Int64) : zS := (σ.1, σ.2.1, σ.2.2.1, σ.2.2.2.1, zup σ.2.2.2.2.1 a k v, σ.2.2.2.2.2)
/-- a new cell of kind q with n places -/
def zuN (σ : zS) (q n : Nat) : zS := (va_up σ.1 σ.2.2.2.2.2 q, va_up σ.2.1 σ.2.2.2.2.2 n, (fun b j => if b = σ.2.2.2.2.2 then 0 else σ.2.2.1 b j), (fun b j => if b = σ.2.2.2.2.2 then none else σ.2.2.2.1 b j), (fun b j => if b = σ.2.2.2.2.2 then 0 else σ.2.2.2.2.1 b j), σ.2.2.2.2.2 + 1)
def zref (t : FieldType) : Bool := match t with
  | .object _ => true
  | .array _ => true
  | _ => false
def zty (ci : Nat) : Nat → FieldType := match ci with
  | 0 => tyX0
  | 1 => tyX1
  | 2 => tyX2
  | 3 => tyX3
  | 4 => tyX4
  | 5 => tyX5
  | 6 => tyX7
  | 7 => tyX8
  | 8 => tyX9
  | 9 => tyX10
  | 10 => tyX11
  | _ => tyX12
def zV (σ : zS) (ci a k : Nat) : Value := if zref (zty ci k) = true then va_rf (zr σ a k) else .int (zi σ a k)
abbrev zCs : Type := ClassId × ClassId × ClassId × ClassId
def zrep (D : va_G) (cs : zCs) (z0 : Nat) (σ : zS) (H : Heap) : Prop :=
  H.size = zx σ ∧ z0 ≤ zx σ ∧ (∀ a, zk σ a ≠ 0 → z0 ≤ a ∧ a < zx σ) ∧
  (∀ (ci : Nat) (q : vw_C), vwCl[ci]? = some q → ∀ a, zk σ a = ci + 1 → t_OB a (D.1 ci) q.2.2 (D.2 ci) H (zV σ ci a)) ∧
  (∀ a, zk σ a = 20 → H[a]? = some (arrV cs.1 (zn σ a) (fun j => .int (zi σ a j)))) ∧
  (∀ a, zk σ a = 21 → H[a]? = some (arrV cs.2.1 (zn σ a) (fun j => .int (zi σ a j)))) ∧
  (∀ a, zk σ a = 22 → H[a]? = some (arrV cs.2.2.1 (zn σ a) (fun j => va_rf (zr σ a j)))) ∧
  (∀ a, zk σ a = 23 → H[a]? = some (arrV cs.2.2.2 (zn σ a) (fun j => .long (zl σ a j))))
/-- the tables of Unpacker -/
def zt0 : List Int32 := [16, 17, 18, 0, 8, 7, 9, 6, 10, 5, 11, 4, 12, 3, 13, 2, 14, 1, 15]
def zt1 : List Int32 := [1, 3, 3, 11]
def zt2 : List Int32 := [0, 2, 3, 7]
def zt3 : List Int32 := [3, 4, 5, 6, 7, 8, 9, 10, 11, 13, 15, 17, 19, 23, 27, 31, 35, 43, 51, 59, 67, 83, 99, 115, 131, 163, 195, 227, 258]
def zt4 : List Int32 := [0, 0, 0, 0, 0, 0, 0, 0, 1, 1, 1, 1, 2, 2, 2, 2, 3, 3, 3, 3, 4, 4, 4, 4, 5, 5, 5, 5, 0]
def zt5 : List Int32 := [1, 2, 3, 4, 5, 7, 9, 13, 17, 25, 33, 49, 65, 97, 129, 193, 257, 385, 513, 769, 1025, 1537, 2049, 3073, 4097, 6145, 8193, 12289, 16385, 24577]
def zt6 : List Int32 := [0, 0, 0, 0, 1, 1, 2, 2, 3, 3, 4, 4, 5, 5, 6, 6, 7, 7, 8, 8, 9, 9, 10, 10, 11, 11, 12, 12, 13, 13]
def ztabs : List (String × List Int32) := [("TELLER_ORDER", zt0), ("REPEAT_BASES", zt1), ("REPEAT_BITS", zt2), ("LENGTH_BASES", zt3), ("LENGTH_BITS", zt4), ("DISTANCE_BASES", zt5), ("DISTANCE_BITS", zt6)]
def zst (A : Nat → Prop) (U : State) (H : Heap) : Prop := ∀ q ∈ ztabs, ∃ t : Nat, va_Z "FrameReel$Unpacker" q.1 "[I" (.ref t) A U H ∧ va_T .int t q.2.length (fun j => .int (q.2.getD j 0)) A U H
/-- what the tables say: classes, array classes, nest mates, static tables -/
def zK (D : va_G) (cs : zCs) (z0 : Nat) (U : State) : Prop :=
  va_K D vwCl [(cs.1, .byte), (cs.2.1, .int), (cs.2.2.1, .object "FrameReel$Picture"), (cs.2.2.2, .long)] U ∧
  (∀ f ∈ znf, va_Nw (.fieldLinkNest f.1 f.2.1 f.2.2.1 f.2.2.2.1 f.2.2.2.2.1 f.2.2.2.2.2) U) ∧ (∀ f ∈ znm, va_Nw (.methodLinkNest f.1 f.2.1 f.2.2.1 f.2.2.2) U) ∧ zst (fun q => z0 ≤ q) U U.heap ∧ z0 ≤ U.heap.size ∧ va_AO "FrameReel$Picture" U
theorem zK_moved {D : va_G} {cs : zCs} {z0 : Nat} {s U : State} (h : zK D cs z0 s) (hW : s.WarmedH U.vm) (hsz : s.heap.size ≤ U.heap.size) (hq : ∀ q : Nat, q < s.heap.size → ¬ z0 ≤ q → U.heap[q]? = s.heap[q]?) : zK D cs z0 U := by
  obtain ⟨h1, h2, h3, h4, h5, h6⟩ := h
  refine ⟨va_K.moved hW.alike h1, fun f hf => va_Nw.warmF hW (h2 f hf), fun f hf => va_Nw.warmM hW (h3 f hf), fun q hm => ?_, Nat.le_trans h5 hsz, va_AO.moved hW.alike h6⟩
  obtain ⟨t, a, b⟩ := h4 q hm
  exact ⟨t, (a.moved hW.alike).kept hq, (b.moved hW.alike).kept hq⟩
/-- the walk's surroundings -/
abbrev zG : Type := Program × Launch × Env × Room × State × MethodId × Array Value × List Frame × Method × Code × (State → Prop) × va_G × zCs × Nat
abbrev zgp (Γ : zG) : Program := Γ.1
abbrev zgl (Γ : zG) : Launch := Γ.2.1
abbrev zge (Γ : zG) : Env := Γ.2.2.1
abbrev zgR (Γ : zG) : Room := Γ.2.2.2.1
abbrev zgs (Γ : zG) : State := Γ.2.2.2.2.1
abbrev zgm (Γ : zG) : MethodId := Γ.2.2.2.2.2.1
abbrev zga (Γ : zG) : Array Value := Γ.2.2.2.2.2.2.1
abbrev zgb (Γ : zG) : List Frame := Γ.2.2.2.2.2.2.2.1
abbrev zgt (Γ : zG) : Method := Γ.2.2.2.2.2.2.2.2.1
abbrev zgc (Γ : zG) : Code := Γ.2.2.2.2.2.2.2.2.2.1
abbrev zgQ (Γ : zG) : State → Prop := Γ.2.2.2.2.2.2.2.2.2.2.1
abbrev zgD (Γ : zG) : va_G := Γ.2.2.2.2.2.2.2.2.2.2.2.1
abbrev zgC (Γ : zG) : zCs := Γ.2.2.2.2.2.2.2.2.2.2.2.2.1
abbrev zgz (Γ : zG) : Nat := Γ.2.2.2.2.2.2.2.2.2.2.2.2.2
abbrev zW (Γ : zG) (H : Heap) (locs : List Loc) (k n : Nat) (g : JFrame) : Prop := W (zgp Γ) (zgl Γ) (zge Γ) (zgR Γ) (zgs Γ) (zgm Γ) (zga Γ) (zgb Γ) (zgt Γ) (zgc Γ) H locs k n (zgQ Γ) g
/-- at pc, with this state, these locals and this stack, the machine comes to its end -/
def zJ (Γ : zG) (nL k n : Nat) (σ : zS) (pc : Nat) (lv : List (Nat × Value)) (st : List Value) : Prop :=
  ∀ (H : Heap) (locs : List Loc) (ls : Array Slot), zrep (zgD Γ) (zgC Γ) (zgz Γ) σ H → va_S (fun q => zgz Γ ≤ q) (zgs Γ).heap H locs → lv_has ls nL lv → zW Γ H locs k n (F0 (zgm Γ) pc ls st)
/-- what the walk knows -/
def zE (Γ : zG) (cc : ByteArray) (own : String) (nL : Nat) (rm : Room) : Prop :=
  (zgp Γ).tables.exec = Jvm.exec ∧ (zgc Γ).code = cc ∧ (zgs Γ).vm.findClass own = some (zgm Γ).cls ∧ (zgc Γ).maxLocals = nL ∧ (∀ w ∈ wsL_law0, w.before (zga Γ) (zgs Γ) = true) ∧ zK (zgD Γ) (zgC Γ) (zgz Γ) (zgs Γ) ∧ zgR Γ = rm
section ZE
variable {Γ : zG} {cc : ByteArray} {own : String} {nL : Nat} {rm : Room}
theorem zE.hx (E : zE Γ cc own nL rm) : (zgp Γ).tables.exec = Jvm.exec := E.1
theorem zE.hb (E : zE Γ cc own nL rm) : (zgc Γ).code = cc := E.2.1
theorem zE.ho (E : zE Γ cc own nL rm) : (zgs Γ).vm.findClass own = some (zgm Γ).cls := E.2.2.1
theorem zE.hm (E : zE Γ cc own nL rm) : (zgc Γ).maxLocals = nL := E.2.2.2.1
theorem zE.ht (E : zE Γ cc own nL rm) : ∀ w ∈ wsL_law0, w.before (zga Γ) (zgs Γ) = true := E.2.2.2.2.1
theorem zE.hK (E : zE Γ cc own nL rm) : zK (zgD Γ) (zgC Γ) (zgz Γ) (zgs Γ) := E.2.2.2.2.2.1
theorem zE.hR (E : zE Γ cc own nL rm) : zgR Γ = rm := E.2.2.2.2.2.2
end ZE
/-- a class's facts -/
def zC (ci : Nat) (C : String) (T : u_T) (N : Nat) : Prop := vwCl[ci]? = some (C, T, N) ∧ (∀ w ∈ u_ws C T N, w ∈ wsL_law0) ∧ (∀ k, k < N → parseFieldDescriptor (T k).2.2.1 = some (zty ci k)) ∧ (∀ a, a < N → ∀ b, b < N → a ≠ b → (T a).2.1 ≠ (T b).2.1)
theorem zc0 : zC 0 RX0 TX0 2 := ⟨rfl, zinX0, tyX0_ok, nmX0⟩
theorem zc1 : zC 1 RX1 TX1 2 := ⟨rfl, zinX1, tyX1_ok, nmX1⟩
theorem zc2 : zC 2 RX2 TX2 4 := ⟨rfl, zinX2, tyX2_ok, nmX2⟩
theorem zc3 : zC 3 RX3 TX3 7 := ⟨rfl, zinX3, tyX3_ok, nmX3⟩
theorem zc4 : zC 4 RX4 TX4 11 := ⟨rfl, zinX4, tyX4_ok, nmX4⟩
theorem zc5 : zC 5 RX5 TX5 8 := ⟨rfl, zinX5, tyX5_ok, nmX5⟩
theorem zc6 : zC 6 RX7 TX7 4 := ⟨rfl, zinX7, tyX7_ok, nmX7⟩
theorem zc7 : zC 7 RX8 TX8 1 := ⟨rfl, zinX8, tyX8_ok, nmX8⟩
theorem zc8 : zC 8 RX9 TX9 9 := ⟨rfl, zinX9, tyX9_ok, nmX9⟩
theorem zc9 : zC 9 RX10 TX10 4 := ⟨rfl, zinX10, tyX10_ok, nmX10⟩
theorem zc10 : zC 10 RX11 TX11 6 := ⟨rfl, zinX11, tyX11_ok, nmX11⟩
theorem zc11 : zC 11 RX12 TX12 32 := ⟨rfl, zinX12, tyX12_ok, nmX12⟩
