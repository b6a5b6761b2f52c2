theorem zallgood : wsL_law0.all goodWord = true := by decide +kernel
theorem zGood {l : List Cond} (h : ∀ w ∈ l, w ∈ wsL_law0) : GoodIn wsL_law0 l := fun w hw => ⟨h w hw, good_of_word (List.all_eq_true.mp zallgood w (h w hw))⟩
def zQ (D : va_G) (cs : zCs) (z0 : Nat) (v : Option Value) (σ' : zS) : Array Value → State → Outcome → State → Prop := fun _ st oc t => oc = .returned v ∧ zrep D cs z0 σ' t.heap ∧ va_F (fun q => z0 ≤ q) st t
def zP (D : va_G) (cs : zCs) (z0 : Nat) (as : List Value) (σ : zS) : Array Value → State → Prop := va_Pc as (fun U => zrep D cs z0 σ U.heap ∧ zK D cs z0 U)
/-- a method's contract: called with these arguments at this state it returns v, and the state is σ' -/
def zM (l : Launch) (D : va_G) (cs : zCs) (z0 : Nat) (y : MethodName) (bytes : ByteArray) (maxL : Nat) (ret : Option FieldType) (rm : Room) (as : List Value) (σ : zS) (v : Option Value) (σ' : zS) (mc ms : Nat) : Prop :=
  Met l y (Cond.code y bytes maxL ret :: wsL_law0) rm (zP D cs z0 as σ) (zQ D cs z0 v σ') mc ms (fun q => z0 ≤ q)
theorem zK_calling {D : va_G} {cs : zCs} {z0 : Nat} {U : State} {g : JFrame} {mk : MethodId} {a : Array Value} (h : zK D cs z0 U) : zK D cs z0 (U.calling g mk a) := by
  obtain ⟨h1, h2, h3, h4, h5, h6⟩ := h
  refine ⟨va_K.moved (u := U) (U := U.calling g mk a) (Vm.Alike.refl U.vm) h1, fun f hf => va_Nw.same rfl (u := U) (U := U.calling g mk a) rfl (h2 f hf), fun f hf => va_Nw.same rfl (u := U) (U := U.calling g mk a) rfl (h3 f hf), fun q hm => ?_, h5, va_AO.moved (u := U) (U := U.calling g mk a) (Vm.Alike.refl U.vm) h6⟩
  obtain ⟨t, a1, b1⟩ := h4 q hm
  exact ⟨t, va_Z.moved (u := U) (U := U.calling g mk a) (Vm.Alike.refl U.vm) a1, va_T.moved (u := U) (U := U.calling g mk a) (Vm.Alike.refl U.vm) b1⟩
theorem zP_blind {D : va_G} {cs : zCs} {z0 : Nat} {as : List Value} {σ : zS} : FrameBlind (zP D cs z0 as σ) := fun _ _ _ _ h => ⟨h.1, h.2.1, zK_calling h.2.2⟩
/-- a callee's words: of an object's method, a static one, a constructor -/
def zYV (C : String) (y : MethodName) (bytes : ByteArray) (maxL : Nat) (ret : Option FieldType) (np : Nat) : Prop := Cond.instanceMethod y ∈ wsL_law0 ∧ Cond.selects C y y ∈ wsL_law0 ∧ Cond.initialized C ∈ wsL_law0 ∧ Cond.code y bytes maxL ret ∈ wsL_law0 ∧ (y.cls = C ∧ y.cls ≠ "java/lang/invoke/MethodHandle" ∧ y.cls ≠ "java/lang/invoke/VarHandle" ∧ (parseMethodDescriptor y.desc).map (fun d => d.parameters.length) = some np)
def zYS (y : MethodName) (bytes : ByteArray) (maxL : Nat) (ret : Option FieldType) (np : Nat) : Prop := Cond.static y ∈ wsL_law0 ∧ Cond.initialized y.cls ∈ wsL_law0 ∧ Cond.code y bytes maxL ret ∈ wsL_law0 ∧ (y.cls ≠ "java/lang/invoke/MethodHandle" ∧ y.cls ≠ "java/lang/invoke/VarHandle" ∧ (parseMethodDescriptor y.desc).map (fun d => d.parameters.length) = some np)
def zYI (y : MethodName) (bytes : ByteArray) (maxL : Nat) (np : Nat) : Prop := Cond.instanceMethod y ∈ wsL_law0 ∧ Cond.initialized y.cls ∈ wsL_law0 ∧ Cond.code y bytes maxL none ∈ wsL_law0 ∧ y.name = "<init>" ∧ (y.cls ≠ "java/lang/invoke/MethodHandle" ∧ y.cls ≠ "java/lang/invoke/VarHandle" ∧ (parseMethodDescriptor y.desc).map (fun d => d.parameters.length) = some np)
section ZCALLS
variable {Γ : zG} {cc : ByteArray} {own : String} {rm : Room} {nL k n pc : Nat} {σ : zS} {lv : List (Nat × Value)} {st : List Value} {ρ : Type} {R : ρ}
theorem zs_call {mc ms : Nat} {v : Option Value} {σ' : zS} {st0 rest : List Value} {a : Array Value}
    (hr : ∀ (H : Heap) (locs : List Loc) (ls : Array Slot), zrep (zgD Γ) (zgC Γ) (zgz Γ) σ H → va_S (fun q => zgz Γ ≤ q) (zgs Γ).heap H locs → lv_has ls nL lv → va_Run (zgp Γ) (zgl Γ) (zge Γ) (zgR Γ) (zgs Γ) (zgm Γ) (zga Γ) (zgb Γ) (zgt Γ) (zgc Γ) H locs k n mc ms (F0 (zgm Γ) pc ls st0) rest (zQ (zgD Γ) (zgC Γ) (zgz Γ) v σ' a) (fun q => zgz Γ ≤ q))
    (kk : zJ Γ nL (k + mc) (n + ms) σ' (pc + 3) lv (v.toList ++ rest)) : zJ Γ nL k n σ pc lv st0 := by
  intro H locs ls hP hS hl T hT X
  obtain ⟨v', st₀, t, T', L, h0, X', hL, e1, e2, ⟨hv, hB, hz, hk⟩, stp⟩ := hr H locs ls hP hS hl T hT X
  cases hv
  rw [h0] at hz hk
  obtain ⟨t2, a1, b1⟩ := kk T'.heap (locs ++ L) ls (by rw [e1]; exact hB)
    ⟨Nat.le_trans hS.1 (by rw [e1]; exact hz), fun q h1 h2 => by rw [e1, hk q (Nat.lt_of_lt_of_le h1 hS.1) h2]; exact hS.2.1 q h1 h2, fun q hq => by
      rcases List.mem_append.mp hq with h | h
      · exact hS.2.2 q h
      · exact hL q h⟩ hl T' rfl X'
  exact ⟨t2, stp t2 a1, b1⟩
theorem zpre (E : zE Γ cc own nL rm) {H : Heap} {locs : List Loc} {as : List Value} (hP : zrep (zgD Γ) (zgC Γ) (zgz Γ) σ H) (hS : va_S (fun q => zgz Γ ≤ q) (zgs Γ).heap H locs) : ∀ U : State, U.heap = H → (zgs Γ).WarmedH U.vm → zP (zgD Γ) (zgC Γ) (zgz Γ) as σ as.toArray U := by
  intro U hU hW
  refine ⟨rfl, by rw [hU]; exact hP, zK_moved E.hK hW (by rw [hU]; exact hS.1) (fun q h1 h2 => by rw [hU]; exact hS.2.1 q h1 h2)⟩
theorem zfix (E : zE Γ cc own nL rm) : CallFix (zgp Γ) (zgm Γ) (zgc Γ) cc nL (zgs Γ) (zga Γ) wsL_law0 own := ⟨E.hx, E.hb, E.hm, E.ho, E.ht⟩
theorem zrecv (E : zE Γ cc own nL rm) {H : Heap} {ci b : Nat} {C : String} {T : u_T} {N : Nat} (hP : zrep (zgD Γ) (zgC Γ) (zgz Γ) σ H) (hC : zC ci C T N) (hb : zk σ b = ci + 1) : ∃ cell : Cell, H[b]? = some cell ∧ cell.vm.isStatics = false ∧ (zgs Γ).vm.findClass C = some cell.cls := va_recv E.hK.1 (zone hP hC.1 hb) hC.1 (q0 := 0) rfl
theorem zs_callV (E : zE Γ cc own nL rm) {ci b idx np : Nat} {C : String} {T : u_T} {N : Nat} (hC : zC ci C T N) {y : MethodName} {bytes : ByteArray} {maxL : Nat} {ret : Option FieldType} {rc : Room} {As rest : List Value} {v : Option Value} {σ' : zS} {mc ms : Nat}
    (hY : zYV C y bytes maxL ret np) (hw : Cond.methodLink own idx y ∈ wsL_law0) (hM : zM (zgl Γ) (zgD Γ) (zgC Γ) (zgz Γ) y bytes maxL ret rc (.ref b :: As) σ v σ' mc ms) (hrc : rc.cells = mc) (hrs : rc.slots = ms)
    (hb : zk σ b = ci + 1) (hn : As.length = np) (hroom : rc.frames + 1 ≤ rm.frames ∧ 8 + (maxL + 11) + rc.locals ≤ rm.locals) (hcs : k + mc ≤ rm.cells ∧ n + ms ≤ rm.slots) (hcat : (rest.map fun v => v.category).sum ≤ 8)
    (hd : decode cc pc = .ok (.invokevirtual idx, 3)) {st0 : List Value} (hst : As.reverse ++ .ref b :: rest = st0) (kk : zJ Γ nL (k + mc) (n + ms) σ' (pc + 3) lv (v.toList ++ rest)) : zJ Γ nL k n σ pc lv st0 := by
  subst hst
  obtain ⟨y1, y2, y3, y4, y5⟩ := hY
  refine zs_call (a := (Value.ref b :: As).toArray) (fun H locs ls hP hS hl => va_runV (zfix E) hM (cwV np E.ht (zGood ?_) rfl hrc hrs y5 (by rw [E.hR]; exact hroom)) ⟨zP_blind, zrecv E hP hC hb, zpre E hP hS⟩ rfl hn hl.1 rfl (lv_room hcat) hd (by rw [E.hR]; exact hcs)) kk
  intro w hw'
  unfold wsV at hw'
  rcases List.mem_append.mp hw' with h | h
  · simp only [List.mem_cons, List.not_mem_nil, or_false] at h
    rcases h with rfl | rfl | rfl | rfl <;> assumption
  · rcases List.mem_cons.mp h with rfl | h
    · exact y4
    · exact h
theorem zs_callS (E : zE Γ cc own nL rm) {idx np : Nat} {y : MethodName} {bytes : ByteArray} {maxL : Nat} {ret : Option FieldType} {rc : Room} {As rest : List Value} {v : Option Value} {σ' : zS} {mc ms : Nat}
    (hY : zYS y bytes maxL ret np) (hw : Cond.methodLink own idx y ∈ wsL_law0) (hM : zM (zgl Γ) (zgD Γ) (zgC Γ) (zgz Γ) y bytes maxL ret rc As σ v σ' mc ms) (hrc : rc.cells = mc) (hrs : rc.slots = ms)
    (hn : As.length = np) (hroom : rc.frames + 1 ≤ rm.frames ∧ 8 + (maxL + 11) + rc.locals ≤ rm.locals) (hcs : k + mc ≤ rm.cells ∧ n + ms ≤ rm.slots) (hcat : (rest.map fun v => v.category).sum ≤ 8)
    (hd : decode cc pc = .ok (.invokestatic idx, 3)) {st0 : List Value} (hst : As.reverse ++ rest = st0) (kk : zJ Γ nL (k + mc) (n + ms) σ' (pc + 3) lv (v.toList ++ rest)) : zJ Γ nL k n σ pc lv st0 := by
  subst hst
  obtain ⟨y1, y2, y3, y4⟩ := hY
  refine zs_call (a := As.toArray) (fun H locs ls hP hS hl => va_runS (zfix E) hM (va_cwS np E.ht (zGood ?_) rfl hrc hrs y4 (by rw [E.hR]; exact hroom)) ⟨zP_blind, zpre E hP hS⟩ rfl hn hl.1 rfl (lv_room hcat) hd (by rw [E.hR]; exact hcs)) kk
  intro w hw'
  unfold va_wsS at hw'
  rcases List.mem_append.mp hw' with h | h
  · simp only [List.mem_cons, List.not_mem_nil, or_false] at h
    rcases h with rfl | rfl | rfl <;> assumption
  · rcases List.mem_cons.mp h with rfl | h
    · exact y3
    · exact h
theorem zs_callI (E : zE Γ cc own nL rm) {b idx np : Nat} {y : MethodName} {bytes : ByteArray} {maxL : Nat} {rc : Room} {As rest : List Value} {v : Option Value} {σ' : zS} {mc ms : Nat}
    (hY : zYI y bytes maxL np) (hw : Cond.methodLink own idx y ∈ wsL_law0) (hM : zM (zgl Γ) (zgD Γ) (zgC Γ) (zgz Γ) y bytes maxL none rc (.ref b :: As) σ v σ' mc ms) (hrc : rc.cells = mc) (hrs : rc.slots = ms)
    (hn : As.length = np) (hroom : rc.frames + 1 ≤ rm.frames ∧ 8 + (maxL + 11) + rc.locals ≤ rm.locals) (hcs : k + mc ≤ rm.cells ∧ n + ms ≤ rm.slots) (hcat : (rest.map fun v => v.category).sum ≤ 8)
    (hd : decode cc pc = .ok (.invokespecial idx, 3)) {st0 : List Value} (hst : As.reverse ++ .ref b :: rest = st0) (kk : zJ Γ nL (k + mc) (n + ms) σ' (pc + 3) lv (v.toList ++ rest)) : zJ Γ nL k n σ pc lv st0 := by
  subst hst
  obtain ⟨y1, y2, y3, y4, y5⟩ := hY
  refine zs_call (a := (Value.ref b :: As).toArray) (fun H locs ls hP hS hl => va_runI (zfix E) hM (cwI np E.ht (zGood ?_) rfl hrc hrs (E.ht _ y2) (E.ht _ hw) (E.ht _ y1) y4 y5 (by rw [E.hR]; exact hroom)) ⟨zP_blind, zpre E hP hS⟩ rfl hn hl.1 rfl (lv_room hcat) hd (by rw [E.hR]; exact hcs)) kk
  intro w h
  rcases List.mem_cons.mp h with rfl | h
  · exact y3
  · exact h
theorem zs_callIN (E : zE Γ cc own nL rm) {b idx np : Nat} {y : MethodName} {host : String} {bytes : ByteArray} {maxL : Nat} {rc : Room} {As rest : List Value} {v : Option Value} {σ' : zS} {mc ms : Nat}
    (hY : zYI y bytes maxL np) (hw : (own, idx, y, host) ∈ znm) (hM : zM (zgl Γ) (zgD Γ) (zgC Γ) (zgz Γ) y bytes maxL none rc (.ref b :: As) σ v σ' mc ms) (hrc : rc.cells = mc) (hrs : rc.slots = ms)
    (hn : As.length = np) (hroom : rc.frames + 1 ≤ rm.frames ∧ 8 + (maxL + 11) + rc.locals ≤ rm.locals) (hcs : k + mc ≤ rm.cells ∧ n + ms ≤ rm.slots) (hcat : (rest.map fun v => v.category).sum ≤ 8)
    (hd : decode cc pc = .ok (.invokespecial idx, 3)) {st0 : List Value} (hst : As.reverse ++ .ref b :: rest = st0) (kk : zJ Γ nL (k + mc) (n + ms) σ' (pc + 3) lv (v.toList ++ rest)) : zJ Γ nL k n σ pc lv st0 := by
  subst hst
  obtain ⟨y1, y2, y3, y4, y5⟩ := hY
  refine zs_call (a := (Value.ref b :: As).toArray) (fun H locs ls hP hS hl => va_runIN (zfix E) hM ⟨va_cnB np E.ht (zGood ?_) rfl hrc hrs (E.hK.2.2.1 _ hw) (E.ht _ y2) y5 (by rw [E.hR]; exact hroom), y4, E.ht _ y1⟩ ⟨zP_blind, zpre E hP hS⟩ rfl hn hl.1 rfl (lv_room hcat) hd (by rw [E.hR]; exact hcs)) kk
  intro w h
  rcases List.mem_cons.mp h with rfl | h
  · exact y3
  · exact h
/-! the end of a method -/
def zretd (bytes : ByteArray) (pc : Nat) (v : Option Value) : Prop := match v with
  | none => decode bytes pc = .ok (.return_, 1)
  | some (.int _) => decode bytes pc = .ok (.ireturn, 1)
  | some (.ref _) => decode bytes pc = .ok (.areturn, 1)
  | some .null => decode bytes pc = .ok (.areturn, 1)
  | _ => False
def zRet (Γ : zG) (bytes : ByteArray) (nL mc ms : Nat) (v : Option Value) (σ' : zS) : Prop := ∀ (pc : Nat) (lv : List (Nat × Value)), zretd bytes pc v → zJ Γ nL mc ms σ' pc lv v.toList
def zvt (ret : Option FieldType) (v : Option Value) : Prop := match v with
  | none => ret = none
  | some (.int b) => ret = some .int ∨ (ret = some .boolean ∧ (b = 0 ∨ b = 1))
  | some (.ref _) => ∃ C, ret = some (.object C)
  | some .null => ∃ C, ret = some (.object C)
  | _ => False
theorem zM_of {l : Launch} {D : va_G} {cs : zCs} {z0 : Nat} {y : MethodName} {bytes : ByteArray} {maxL : Nat} {ret : Option FieldType} {rc : Room} {as : List Value} {σ : zS} {v : Option Value} {σ' : zS} {mc ms : Nat} {own : String} {lv : List (Nat × Value)}
    (hy : plainName y.cls = true) (hown : y.cls = own) (hv : zvt ret v) (hlen : (lg_sl as).length ≤ maxL) (hlv : lv_args 0 as = lv)
    (body : ∀ Γ : zG, zgl Γ = l → zgD Γ = D → zgC Γ = cs → zgz Γ = z0 → zE Γ bytes own maxL rc → (zgt Γ).name = y.name → zRet Γ bytes maxL mc ms v σ' → zJ Γ maxL 0 0 σ 0 lv []) : zM l D cs z0 y bytes maxL ret rc as σ v σ' mc ms := by
  refine Met.ofW (cc := bytes) (maxL := maxL) (ret := ret) hy rfl ?_
  intro p e s m args below meth c s₁ B hml hv'
  obtain ⟨rfl, hP, hK⟩ := hv'
  have hts := atoms_spec (ws := Cond.code y bytes maxL ret :: wsL_law0) B.pre
  have hl := lv_entry as (n := maxL) hlen
  rw [hlv] at hl
  have hlocks := B.notSynchronized
  have hr := B.returns
  rw [lg_entry_eq]
  refine body (p, l, e, rc, s, m, as.toArray, below, meth, c, MQ below (zQ D cs z0 v σ') as.toArray s mc ms (fun q => z0 ≤ q), D, cs, z0) rfl rfl rfl rfl ⟨B.exec, B.bytes, by rw [← hown]; exact findClass_of_methodNamed B.named, hml, fun w hw => hts w (List.mem_cons_of_mem _ hw), hK, rfl⟩ (name_of_methodNamed B.named B.method).1 ?_ _ _ _ hP va_S.rf hl
  intro pc lv hd H locs ls hP hS hl
  have hq : ∀ t : State, t.heap = H → s.WarmedH t.vm → zQ D cs z0 v σ' as.toArray s (.returned v) t := fun t ht _ => ⟨rfl, by rw [ht]; exact hP, hS.F ht⟩
  match v, hv, hd, hq with
  | none, hv, hd, hq => exact W.vret B.exec B.bytes (by rw [hr]; exact hv) hq hS.2.2 hd
  | some (.int b), hv, hd, hq =>
    rcases hv with hv | ⟨hv, hb⟩
    · exact W.iret B.exec B.bytes (by rw [hr]; exact hv) hq hS.2.2 hd
    · exact W.zret B.exec B.bytes (by rw [hr]; exact hv) (zbool hb).1 hq hS.2.2 hd
  | some (.ref a), hv, hd, hq =>
    obtain ⟨C, hv⟩ := hv
    exact W.aret B.exec B.bytes (by rw [hr]; exact hv) (Or.inl ⟨C, rfl⟩) (Or.inr ⟨a, rfl⟩) hq hS.2.2 hd
  | some .null, hv, hd, hq =>
    obtain ⟨C, hv⟩ := hv
    exact W.aret B.exec B.bytes (by rw [hr]; exact hv) (Or.inl ⟨C, rfl⟩) (Or.inl rfl) hq hS.2.2 hd
end ZCALLS
