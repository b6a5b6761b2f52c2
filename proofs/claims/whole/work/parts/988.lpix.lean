/-! a pixel of the class, called and caught: rows of longs, the two contracts of the class's pixel, the law's own pixel -/
def zuX (σ : zS) (z : Nat) : zS := (σ.1, σ.2.1, σ.2.2.1, σ.2.2.2.1, σ.2.2.2.2.1, z)
abbrev zxE : String := "java/lang/IndexOutOfBoundsException"
abbrev zxN : List String := ["java/lang/RuntimeException", "java/lang/Exception"]
def zxG : List Cond := (vx_at0 RX11 164 zxE zxN).filter goodWord
def zxB : List Cond := (vx_at0 RX11 164 zxE zxN).filter (fun w => !goodWord w)
def zxW : List Cond := wsL_law0 ++ zxG
/-- what a throw needs beside the words: the words that the tables alone decide, Throwable's two statics -/
def zX9 (z0 : Nat) (U : State) : Prop := (∀ w ∈ zxB, va_Nw w U) ∧ vx_Zq Bundle.tN "UNASSIGNED_STACK" Bundle.steD (fun q => z0 ≤ q) U U.heap ∧ vx_Zq Bundle.tN "SUPPRESSED_SENTINEL" Bundle.listD (fun q => z0 ≤ q) U U.heap
def zdc (w : Cond) : Bool := match w with
  | .declares _ => true
  | .castable _ _ => true
  | _ => false
theorem zxB_dc : zxB.all zdc = true := by decide +kernel
theorem zxB_cast : Cond.castable zxE zxE ∈ zxB := by decide +kernel
theorem zNw_warm {w : Cond} (hw : zdc w = true) {s U : State} (hW : s.WarmedH U.vm) (h : va_Nw w s) : va_Nw w U := by
  cases w <;> first | exact va_Nw.warmD hW h | exact va_Nw.warmC hW h | cases hw
theorem zdc_tab {w : Cond} (hw : zdc w = true) : w.onTables = true := by
  cases w <;> first | rfl | cases hw
theorem zX9_moved {z0 : Nat} {s U : State} (h : zX9 z0 s) (hW : s.WarmedH U.vm) (hq : ∀ q : Nat, q < s.heap.size → ¬ z0 ≤ q → U.heap[q]? = s.heap[q]?) : zX9 z0 U := by
  obtain ⟨h1, h2, h3⟩ := h
  exact ⟨fun w hw => zNw_warm (List.all_eq_true.mp zxB_dc w hw) hW (h1 w hw), (vx_Zq.moved hW.alike h2).kept hq, (vx_Zq.moved hW.alike h3).kept hq⟩
theorem zX9_calling {z0 : Nat} {U : State} {g : JFrame} {mk : MethodId} {a : Array Value} (h : zX9 z0 U) : zX9 z0 (U.calling g mk a) := by
  obtain ⟨h1, h2, h3⟩ := h
  exact ⟨fun w hw => va_Nw.same (zdc_tab (List.all_eq_true.mp zxB_dc w hw)) (u := U) (U := U.calling g mk a) rfl (h1 w hw), vx_Zq.moved (u := U) (U := U.calling g mk a) (Vm.Alike.refl U.vm) h2, vx_Zq.moved (u := U) (U := U.calling g mk a) (Vm.Alike.refl U.vm) h3⟩
def zPx (D : va_G) (cs : zCs) (z0 : Nat) (as : List Value) (σ : zS) : Array Value → State → Prop := va_Pc as (fun U => zrep D cs z0 σ U.heap ∧ zK D cs z0 U ∧ zX9 z0 U)
theorem zPx_blind {D : va_G} {cs : zCs} {z0 : Nat} {as : List Value} {σ : zS} : FrameBlind (zPx D cs z0 as σ) := fun _ _ _ _ h => ⟨h.1, h.2.1, zK_calling h.2.2.1, zX9_calling h.2.2.2⟩
theorem zGoodX {l : List Cond} (h : ∀ w ∈ l, w ∈ zxW) : GoodIn zxW l := fun w hw => ⟨h w hw, by
  rcases List.mem_append.mp (h w hw) with q | q
  · exact good_of_word (List.all_eq_true.mp zallgood w q)
  · exact good_of_word (List.mem_filter.mp q).2⟩
section ZPIX
variable {Γ : zG} {cc : ByteArray} {own : String} {rm : Room} {nL k n pc : Nat} {σ : zS} {lv : List (Nat × Value)} {st : List Value}
theorem zrep_X {D : va_G} {cs : zCs} {z0 : Nat} {H H' : Heap} (hP : zrep D cs z0 σ H) (hz : H.size ≤ H'.size) (o : ∀ x, x < H.size → H'[x]? = H[x]?) : zrep D cs z0 (zuX σ H'.size) H' := by
  obtain ⟨h1, h2, h3, h4, h5, h6, h7, h8⟩ := hP
  have ap : ∀ a, zk σ a ≠ 0 → a < H.size := fun a ha => by
    have := (h3 a ha).2
    omega
  have e : zx (zuX σ H'.size) = H'.size := rfl
  refine ⟨e.symm, by rw [e]; omega, fun a ha => ⟨(h3 a ha).1, by rw [e]; have := (h3 a ha).2; omega⟩, fun ci q hq a ha => (h4 ci q hq a ha).kept (o a (ap a ?_)), fun a ha => ?_, fun a ha => ?_, fun a ha => ?_, fun a ha => ?_⟩
  · have ha' : zk σ a = ci + 1 := ha
    omega
  · have ha' : zk σ a = 20 := ha
    exact (o a (ap a (by omega))).trans (h5 a ha')
  · have ha' : zk σ a = 21 := ha
    exact (o a (ap a (by omega))).trans (h6 a ha')
  · have ha' : zk σ a = 22 := ha
    exact (o a (ap a (by omega))).trans (h7 a ha')
  · have ha' : zk σ a = 23 := ha
    exact (o a (ap a (by omega))).trans (h8 a ha')
theorem zs_lald (E : zE Γ cc own nL rm) {a : Nat} {i : Int32} (hd : decode cc pc = .ok (.laload, 1)) (hk : zk σ a = 23 ∧ 0 ≤ i ∧ i.toNatClampNeg < zn σ a) {v : Int64} (hv : zl σ a i.toNatClampNeg = v) (kk : zJ Γ nL k n σ (pc + 1) lv (.long v :: st)) : zJ Γ nL k n σ pc lv (.int i :: .ref a :: st) := by
  intro H locs ls hP hS hl
  refine W.lald (v := .long v) E.hx E.hb (hP.2.2.2.2.2.2.2 a hk.1) (zarr_of E (t0 := 3) rfl _ _) (by intro q; cases q) (by rw [arrV_size]; exact zin_vp hk.2) (by rw [arrV_read _ _ hk.2.2, hv]) rfl rfl hd (kk H locs ls hP hS hl)
theorem zs_last (E : zE Γ cc own nL rm) {a : Nat} {i : Int32} {v : Int64} (hd : decode cc pc = .ok (.lastore, 1)) (hk : zk σ a = 23 ∧ 0 ≤ i ∧ i.toNatClampNeg < zn σ a) (kk : zJ Γ nL k n (zuL σ a i.toNatClampNeg v) (pc + 1) lv st) : zJ Γ nL k n σ pc lv (.long v :: .int i :: .ref a :: st) := by
  intro H locs ls hP hS hl
  refine W.last E.hx E.hb (hP.2.2.2.2.2.2.2 a hk.1) (zarr_of E (t0 := 3) rfl _ _) (by intro q; cases q) (by rw [arrV_size]; exact zin_vp hk.2) rfl rfl hd fun H' e1 e2 e3 => ?_
  rw [zarr_set hk.2.2] at e1
  refine kk H' _ ls (zrep_set (a := a) hP rfl rfl rfl zeoL e2 e3 (fun ci q hq hz => ?_) (fun hz => by omega) (fun hz => by omega) (fun hz => by omega) (fun _ => ?_)) (zS_put hS e2 e3 (hP.2.2.1 a (by rw [hk.1]; decide)).1) hl
  · have := vwCl_lt hq; omega
  · rw [e1]
    congr 2
    funext j
    rw [zuL_at]
    unfold updV
    by_cases e : j = i.toNatClampNeg
    · rw [if_pos e, if_pos e]
    · rw [if_neg e, if_neg e]
theorem zj_i2l (E : zE Γ cc own nL rm) {x : Int32} (hd : decode cc pc = .ok (.i2l, 1)) (kk : zJ Γ nL k n σ (pc + 1) lv (.long x.toInt64 :: st)) : zJ Γ nL k n σ pc lv (.int x :: st) := fun H locs ls hP hS hl => lv_i2l E.hx E.hb hd rfl (kk H locs ls hP hS hl)
theorem zj_lcmp (E : zE Γ cc own nL rm) {x y : Int64} (hd : decode cc pc = .ok (.lcmp, 1)) (kk : zJ Γ nL k n σ (pc + 1) lv (.int (lg_cmp x y) :: st)) : zJ Γ nL k n σ pc lv (.long y :: .long x :: st) := fun H locs ls hP hS hl => W.lcmp E.hx E.hb hd (kk H locs ls hP hS hl)
theorem zyX7_has : zYV RX7 yX7_has cX7_has 3 (some .boolean) 2 := ⟨zr_29 _ (List.mem_of_getElem? (i := 17) rfl), zr_29 _ (List.mem_of_getElem? (i := 18) rfl), zw_2_6, zr_29 _ (List.mem_of_getElem? (i := 19) rfl), by decide +kernel⟩
theorem znf_61 : ("FrameReel", 165, "FrameReel$Screen", "pixels", "[I", "FrameReel") ∈ znf := by decide +kernel
theorem znf_62 : ("FrameReel", 166, "FrameReel$Screen", "width", "I", "FrameReel") ∈ znf := by decide +kernel
set_option maxRecDepth 100000 in
theorem wX11_pix (E : zE Γ cX11_pixel RX11 3 rm) (hroom : 0 + 1 ≤ rm.frames ∧ 8 + (3 + 11) + 0 ≤ rm.locals) (σ : zS) (p0 : Nat) (x y : Int32) {R : Option Int32} (h : gpix σ p0 x y = some R) (K1 : ∀ r, R = some r → zRet Γ cX11_pixel 3 0 0 (some (.int r)) σ) (K2 : R = none → zJ Γ 3 0 0 σ 12 [(0, .ref p0), (1, .int x), (2, .int y)] []) : zJ Γ 3 0 0 σ 0 [(0, .ref p0), (1, .int x), (2, .int y)] [] := by
  unfold gpix at h
  refine zj_aload_n E dX11_pixel_0 rfl 0 rfl ?_
  refine zs_getR E zc10 3 (by decide) zw_2_7 rfl dX11_pixel_1 h (fun a1 h => ?_)
  refine zj_iload_n E dX11_pixel_4 rfl 1 rfl ?_
  refine zj_iload_n E dX11_pixel_5 rfl 2 rfl ?_
  obtain ⟨hk, h⟩ := oA_some h
  obtain ⟨x1, hc, h⟩ := oB_some h
  refine zs_callV (As := [.int x, .int y]) (rest := []) E zc6 zyX7_has (zr_29 _ (List.mem_of_getElem? (i := 16) rfl)) (kX7_has _ _ _ _ _ hc) rfl rfl hk rfl hroom ⟨Nat.zero_le _, Nat.zero_le _⟩ (Nat.le_of_ble_eq_true rfl) dX11_pixel_6 rfl (show zJ Γ 3 0 0 σ 9 [(0, .ref p0), (1, .int x), (2, .int y)] [.int x1] from ?_)
  refine zj_if_ne (tgt := 20) E dX11_pixel_9 (by decide) h (fun h => ?_) (fun h => ?_)
  · refine zj_aload_n E dX11_pixel_20 rfl 0 rfl ?_
    refine zs_getR E zc10 3 (by decide) zw_2_7 rfl dX11_pixel_21 h (fun a2 h => ?_)
    refine zs_getRN E zc6 0 (by decide) znf_61 rfl dX11_pixel_24 h (fun a3 h => ?_)
    refine zj_iload_n E dX11_pixel_27 rfl 2 rfl ?_
    refine zj_aload_n E dX11_pixel_28 rfl 0 rfl ?_
    refine zs_getR E zc10 3 (by decide) zw_2_7 rfl dX11_pixel_29 h (fun a4 h => ?_)
    refine zs_getIN E zc6 2 (by decide) znf_62 rfl dX11_pixel_32 h (fun w h => ?_)
    refine zj_imul E dX11_pixel_35 ?_
    refine zj_iload_n E dX11_pixel_36 rfl 1 rfl ?_
    refine zj_iadd E dX11_pixel_37 ?_
    refine zs_iald E dX11_pixel_38 h (fun v h => ?_)
    exact K1 v (Option.some.inj h).symm _ _ dX11_pixel_39
  · exact K2 (Option.some.inj h).symm
end ZPIX
