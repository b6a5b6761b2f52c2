/-! X1_init: Bytes(room), room of any size -/
def fX1_init (σ : zS) (p0 : Nat) (p1 : Int32) : Option zS := oNa σ 20 p1 (fun a1 σ1 => oPR σ1 2 p0 0 a1 (fun σ2 => some σ2))
theorem kX1_init (l : Launch) (D : va_G) (cs : zCs) (z0 : Nat) (σ : zS) {p0 : Nat} {p1 : Int32} {σ' : zS} {N : Nat} (hN9 : p1.toNatClampNeg = N) (h : fX1_init σ p0 p1 = some σ') : zM l D cs z0 yX1_init cX1_init 2 none { frames := 1, cells := 1, slots := N, locals := 20 } [.ref p0, .int p1] σ none σ' 1 N := by
  refine zM_of (by decide) rfl rfl (Nat.le_of_ble_eq_true rfl) rfl (fun Γ e1 e2 e3 e4 E hN K => ?_)
  unfold fX1_init at h
  refine zj_aload_n E dX1_init_0 rfl 0 rfl ?_
  refine zs_obj E zw_2_23 zw_1_11 zw_1_12 (Nat.le_refl 1) (Nat.le_of_ble_eq_true rfl) dX1_init_1 ?_
  refine zj_aload_n E dX1_init_4 rfl 0 rfl ?_
  refine zj_iload_n E dX1_init_5 rfl 1 rfl ?_
  refine zt_newB (N := N) E zw_3_0 hN9 ⟨Nat.le_refl 1, by show 0 + N ≤ N; omega⟩ dX1_init_6 h (fun a1 σ1 h => ?_)
  refine zs_putFR E zc1 hN 0 (by decide) zw_3_1 rfl rfl rfl dX1_init_8 h (fun σ2 h => ?_)
  have e9 := Option.some.inj h
  subst e9
  have K2 := K _ [(0, .ref p0), (1, .int p1)] dX1_init_11
  rw [show N = 0 + N from (Nat.zero_add N).symm] at K2
  exact K2
