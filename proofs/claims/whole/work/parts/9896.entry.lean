/-! THE LAW'S ENTRY: what the start gives -/
def zFL : List Cond := flatC (Jvm.Cond.and given_1 narrow_1)
def ztC (q : String × List Int32) : List Cond := Cond.arrayOf (.static "FrameReel$Unpacker" q.1 "[I") .int :: Cond.eq (.length (.static "FrameReel$Unpacker" q.1 "[I")) (.int (Int32.ofNat q.2.length)) :: (List.range q.2.length).map (fun j => Cond.eq (.elem (.static "FrameReel$Unpacker" q.1 "[I") (.int (Int32.ofNat j))) (.int (q.2.getD j 0)))
theorem zpf_in {ws : List Cond} {ps : List Nat} (h : ps.map (fun p => zFL[p]?) = ws.map some) : ∀ w ∈ ws, w ∈ zFL := by
  intro w hw
  have h1 : some w ∈ ps.map (fun p => zFL[p]?) := by rw [h]; exact List.mem_map.mpr ⟨w, hw, rfl⟩
  obtain ⟨p, -, hp⟩ := List.mem_map.mp h1
  exact List.mem_of_getElem? hp
set_option maxRecDepth 100000 in
theorem lw_t0 : ∀ w ∈ ztC ("TELLER_ORDER", zt0), w ∈ zFL := zpf_in (ps := [5, 6, 7, 8, 9, 10, 11, 12, 13, 14, 15, 16, 17, 18, 19, 20, 21, 22, 23, 24, 25]) (by with_unfolding_all rfl)
set_option maxRecDepth 100000 in
theorem lw_t1 : ∀ w ∈ ztC ("REPEAT_BASES", zt1), w ∈ zFL := zpf_in (ps := [34, 35, 36, 37, 38, 39]) (by with_unfolding_all rfl)
set_option maxRecDepth 100000 in
theorem lw_t2 : ∀ w ∈ ztC ("REPEAT_BITS", zt2), w ∈ zFL := zpf_in (ps := [27, 28, 29, 30, 31, 32]) (by with_unfolding_all rfl)
set_option maxRecDepth 100000 in
theorem lw_t3 : ∀ w ∈ ztC ("LENGTH_BASES", zt3), w ∈ zFL := zpf_in (ps := [41, 42, 43, 44, 45, 46, 47, 48, 49, 50, 51, 52, 53, 54, 55, 56, 57, 58, 59, 60, 61, 62, 63, 64, 65, 66, 67, 68, 69, 70, 71]) (by with_unfolding_all rfl)
set_option maxRecDepth 100000 in
theorem lw_t4 : ∀ w ∈ ztC ("LENGTH_BITS", zt4), w ∈ zFL := zpf_in (ps := [73, 74, 75, 76, 77, 78, 79, 80, 81, 82, 83, 84, 85, 86, 87, 88, 89, 90, 91, 92, 93, 94, 95, 96, 97, 98, 99, 100, 101, 102, 103]) (by with_unfolding_all rfl)
set_option maxRecDepth 100000 in
theorem lw_t5 : ∀ w ∈ ztC ("DISTANCE_BASES", zt5), w ∈ zFL := zpf_in (ps := [105, 106, 107, 108, 109, 110, 111, 112, 113, 114, 115, 116, 117, 118, 119, 120, 121, 122, 123, 124, 125, 126, 127, 128, 129, 130, 131, 132, 133, 134, 135, 136]) (by with_unfolding_all rfl)
set_option maxRecDepth 100000 in
theorem lw_t6 : ∀ w ∈ ztC ("DISTANCE_BITS", zt6), w ∈ zFL := zpf_in (ps := [138, 139, 140, 141, 142, 143, 144, 145, 146, 147, 148, 149, 150, 151, 152, 153, 154, 155, 156, 157, 158, 159, 160, 161, 162, 163, 164, 165, 166, 167, 168, 169]) (by with_unfolding_all rfl)
set_option maxRecDepth 100000 in
theorem lw_tr : ∀ w ∈ ([Cond.isRef (.static Bundle.tN "UNASSIGNED_STACK" Bundle.steD), Cond.isRef (.static Bundle.tN "SUPPRESSED_SENTINEL" Bundle.listD)] : List Cond), w ∈ zFL := zpf_in (ps := [170, 171]) (by with_unfolding_all rfl)
theorem lw_tt : ∀ q ∈ ztabs, ∀ w ∈ ztC q, w ∈ zFL := List.forall_mem_cons.mpr ⟨lw_t0, List.forall_mem_cons.mpr ⟨lw_t1, List.forall_mem_cons.mpr ⟨lw_t2, List.forall_mem_cons.mpr ⟨lw_t3, List.forall_mem_cons.mpr ⟨lw_t4, List.forall_mem_cons.mpr ⟨lw_t5, List.forall_mem_cons.mpr ⟨lw_t6, fun _ h => absurd h List.not_mem_nil⟩⟩⟩⟩⟩⟩⟩
section LENTRY
variable {s : State} {b : Nat}
theorem lw_ztab {args : Array Value} {q : String × List Int32} (hq : q ∈ ztabs) (hts : ∀ w ∈ lw_tbl, w.before args s = true) (hfl : ∀ w ∈ zFL, w.before args s = true) {A : Nat → Prop} (hA : ∀ a : Nat, a < s.heap.size → ¬ A a) : ∃ t : Nat, va_Z "FrameReel$Unpacker" q.1 "[I" (.ref t) A s s.heap ∧ va_T .int t q.2.length (fun j => .int (q.2.getD j 0)) A s s.heap := by
  have hw : ∀ w ∈ ztC q, w.before args s = true := fun w h => hfl w (lw_tt q hq w h)
  have hlen : q.2.length < 2 ^ 31 := by
    have h9 : ∀ q ∈ ztabs, q.2.length < 2 ^ 31 := by decide
    exact h9 q hq
  obtain ⟨t, ht, hT⟩ := va_Tof (args := args) (s := s) (tm := .static "FrameReel$Unpacker" q.1 "[I") (ty := .int) (N := q.2.length) (f := fun j => .int (q.2.getD j 0)) hlen (hw _ List.mem_cons_self) (va_eqt (hw _ (List.mem_cons_of_mem _ List.mem_cons_self))) (fun j hj => va_eqt (hw _ (List.mem_cons_of_mem _ (List.mem_cons_of_mem _ (List.mem_map.mpr ⟨j, List.mem_range.mpr hj, rfl⟩))))) hA
  exact ⟨t, va_Zref (hts _ (lw_kst _ (List.mem_map.mpr ⟨q, hq, rfl⟩))) (hts _ (lw_ko _ (by decide +kernel))) ht hA, hT⟩
theorem lw_arr {args : Array Value} {ty : FieldType} (h : (Cond.arrayClass ty).before args s = true) (hne : ∀ C, ty ≠ .object C) : ∃ cA : ClassId, ArrOfT s cA ty ∧ va_RA s cA ty := by
  obtain ⟨cA, kA, comp, hfind, hk, hkind⟩ := Cond.arrayClass_spec h
  refine ⟨cA, fun N z => ⟨(fun k h => by cases h), kA, hk, comp, hkind⟩, ?_⟩
  unfold va_RA
  split
  · exact absurd rfl (hne _)
  · exact hfind
theorem lw_arrO {args : Array Value} {C : String} (h : (Cond.arrayOver (.object C)).before args s = true) : ∃ cA : ClassId, ArrOfT s cA (.object C) ∧ va_RA s cA (.object C) := by
  obtain ⟨comp, cA, kA, h1, h2, h3, h4, h5⟩ := Cond.arrayOver_spec h
  exact ⟨cA, fun N z => ⟨(fun k h => by cases h), kA, h3, comp, h4⟩, kA, comp, h3, h4, h1, h5⟩
end LENTRY
