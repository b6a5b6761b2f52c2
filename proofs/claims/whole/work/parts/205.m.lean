/-! X4_takesChunk -/
def gX4_takesChunk (σ : zS) (p0 : Nat) (p1 : Int32) (p2 : Int32) : Option (Int32 × zS) := oGI σ 5 p0 7 (fun x1 => (if x1 = 0 then (if p1 = (1229472850 : Int32) then (if p2 = (13 : Int32) then oGI σ 5 p0 6 (fun x15 => oA (zk σ p0 = 5) (oC (fX4_takesHead σ p0 (x15 + (8 : Int32))) (fun x16 σ5 => (if x16 = 0 then some (0, σ5) else some (1, σ5))))) else some (0, σ)) else some (0, σ)) else (if p1 = 1229209940 then oA (zk σ p0 = 5) (oC (fX4_takesDefaultData σ p0 p2) (fun x2 σ1 => some (x2, σ1))) else (if p1 = 1229278788 then (if p2 = 0 then oGI σ 5 p0 10 (fun x3 => (if x3 = 0 then some (0, σ) else oGI σ 5 p0 7 (fun x4 => (if x4 = (1717785676 : Int32) then some (0, σ) else oGR σ 5 p0 3 (fun a1 => oGI σ 6 a1 7 (fun x5 => oGI σ 5 p0 9 (fun x6 => (if x5 = x6 then some (1, σ) else some (0, σ))))))))) else some (0, σ)) else (if p1 = 1229472850 then some (0, σ) else (if p1 = 1633899596 then (if p2 = (8 : Int32) then oGI σ 5 p0 6 (fun x7 => oA (zk σ p0 = 5) (oC (fX4_takesCounts σ p0 (x7 + (8 : Int32))) (fun x8 σ2 => (if x8 = 0 then some (0, σ2) else some (1, σ2))))) else some (0, σ)) else (if p1 = 1717785676 then (if p2 = (26 : Int32) then oGI σ 5 p0 6 (fun x9 => oA (zk σ p0 = 5) (oC (fX4_takesControl σ p0 (x9 + (8 : Int32))) (fun x10 σ3 => (if x10 = 0 then some (0, σ3) else some (1, σ3))))) else some (0, σ)) else (if p1 = 1717846356 then (if p2 < (4 : Int32) then some (0, σ) else oA (zk σ p0 = 5) (oC (fX4_takesFrameData σ p0 p2) (fun x11 σ4 => (if x11 = 0 then some (0, σ4) else some (1, σ4))))) else oGI σ 5 p0 7 (fun x12 => (if x12 = (1717785676 : Int32) then some (0, σ) else oGI σ 5 p0 6 (fun x13 => oA (zk σ p0 = 5) (oB (fX4_mayBeLeftOut σ p0 (x13 + (4 : Int32))) (fun x14 => (if x14 = 0 then some (0, σ) else some (1, σ)))))))))))))))
def fX4_takesChunk (σ : zS) (p0 : Nat) (p1 : Int32) (p2 : Int32) : Option (Int32 × zS) := oC (gX4_takesChunk σ p0 p1 p2) (fun r s => oA (r = 0 ∨ r = 1) (some (r, s)))
set_option maxRecDepth 100000 in
theorem wX4_takesChunk {Γ : zG} (E : zE Γ cX4_takesChunk RX4 3 { frames := 3, cells := 0, slots := 0, locals := 70 }) (σ : zS) (p0 : Nat) (p1 : Int32) (p2 : Int32) {R : (Int32 × zS)} (h : gX4_takesChunk σ p0 p1 p2 = some R) (K : zRet Γ cX4_takesChunk 3 0 0 (some (.int R.1)) R.2) : zJ Γ 3 0 0 σ 0 [(0, .ref p0), (1, .int p1), (2, .int p2)] [] := by
  unfold gX4_takesChunk at h
  refine zj_aload_n E dX4_takesChunk_0 rfl 0 rfl ?_
  refine zs_getI E zc4 7 (by decide) zw_8_8 rfl dX4_takesChunk_1 h (fun x1 h => ?_)
  refine zj_if_ne (tgt := 39) E dX4_takesChunk_4 (by decide) h (fun h => ?_) (fun h => ?_)
  · refine zj_iload_n E dX4_takesChunk_39 rfl 1 rfl ?_
    by_cases e0 : p1 = 1229209940
    · rw [if_pos e0] at h
      refine zj_lIn (tgt := 154) (off := 114) E e0 dX4_takesChunk_40 (by decide) (by decide) (by decide) ?_
      refine zj_aload_n E dX4_takesChunk_154 rfl 0 rfl ?_
      refine zj_iload_n E dX4_takesChunk_155 rfl 2 rfl ?_
      obtain ⟨hk, h⟩ := oA_some h
      obtain ⟨x2, σ1, hc, h⟩ := oC_some h
      refine zs_callV (As := [.int p2]) (rest := []) E zc4 zyX4_takesDefaultData zw_16_8 (kX4_takesDefaultData _ _ _ _ _ hc) rfl rfl hk rfl ⟨by decide, by decide⟩ ⟨by decide, by decide⟩ (Nat.le_of_ble_eq_true rfl) dX4_takesChunk_156 rfl (show zJ Γ 3 0 0 σ1 159 [(0, .ref p0), (1, .int p1), (2, .int p2)] [.int x2] from ?_)
      have e9 := Option.some.inj h
      subst e9
      exact (show zRet Γ cX4_takesChunk 3 0 0 (some (.int x2)) σ1 from K) _ _ dX4_takesChunk_159
    rw [if_neg e0] at h
    by_cases e1 : p1 = 1229278788
    · rw [if_pos e1] at h
      refine zj_lIn (tgt := 179) (off := 139) E e1 dX4_takesChunk_40 (by decide) (by decide) (by decide) ?_
      refine zj_iload_n E dX4_takesChunk_179 rfl 2 rfl ?_
      refine zj_if_ne (tgt := 217) E dX4_takesChunk_180 (by decide) h (fun h => ?_) (fun h => ?_)
      · refine zj_iconst (v := 0) E dX4_takesChunk_217 (by decide) ?_
        have e9 := Option.some.inj h
        subst e9
        exact (show zRet Γ cX4_takesChunk 3 0 0 (some (.int 0)) σ from K) _ _ dX4_takesChunk_218
      · refine zj_aload_n E dX4_takesChunk_183 rfl 0 rfl ?_
        refine zs_getI E zc4 10 (by decide) zw_8_11 rfl dX4_takesChunk_184 h (fun x3 h => ?_)
        refine zj_if_eq (tgt := 217) E dX4_takesChunk_187 (by decide) h (fun h => ?_) (fun h => ?_)
        · refine zj_iconst (v := 0) E dX4_takesChunk_217 (by decide) ?_
          have e9 := Option.some.inj h
          subst e9
          exact (show zRet Γ cX4_takesChunk 3 0 0 (some (.int 0)) σ from K) _ _ dX4_takesChunk_218
        · refine zj_aload_n E dX4_takesChunk_190 rfl 0 rfl ?_
          refine zs_getI E zc4 7 (by decide) zw_8_8 rfl dX4_takesChunk_191 h (fun x4 h => ?_)
          refine zj_ldc (v := 1717785676) E zw_14_18 dX4_takesChunk_194 ?_
          refine zj_icmp_eq (tgt := 217) E dX4_takesChunk_196 (by decide) h (fun h => ?_) (fun h => ?_)
          · refine zj_iconst (v := 0) E dX4_takesChunk_217 (by decide) ?_
            have e9 := Option.some.inj h
            subst e9
            exact (show zRet Γ cX4_takesChunk 3 0 0 (some (.int 0)) σ from K) _ _ dX4_takesChunk_218
          · refine zj_aload_n E dX4_takesChunk_199 rfl 0 rfl ?_
            refine zs_getR E zc4 3 (by decide) zw_3_11 rfl dX4_takesChunk_200 h (fun a1 h => ?_)
            refine zs_getIN E zc5 7 (by decide) (znf_58) rfl dX4_takesChunk_203 h (fun x5 h => ?_)
            refine zj_aload_n E dX4_takesChunk_206 rfl 0 rfl ?_
            refine zs_getI E zc4 9 (by decide) zw_8_10 rfl dX4_takesChunk_207 h (fun x6 h => ?_)
            refine zj_icmp_ne (tgt := 217) E dX4_takesChunk_210 (by decide) h (fun h => ?_) (fun h => ?_)
            · refine zj_iconst (v := 0) E dX4_takesChunk_217 (by decide) ?_
              have e9 := Option.some.inj h
              subst e9
              exact (show zRet Γ cX4_takesChunk 3 0 0 (some (.int 0)) σ from K) _ _ dX4_takesChunk_218
            · refine zj_iconst (v := 1) E dX4_takesChunk_213 (by decide) ?_
              refine zj_goto (tgt := 218) E dX4_takesChunk_214 (by decide) ?_
              have e9 := Option.some.inj h
              subst e9
              exact (show zRet Γ cX4_takesChunk 3 0 0 (some (.int 1)) σ from K) _ _ dX4_takesChunk_218
    rw [if_neg e1] at h
    by_cases e2 : p1 = 1229472850
    · rw [if_pos e2] at h
      refine zj_lIn (tgt := 100) (off := 60) E e2 dX4_takesChunk_40 (by decide) (by decide) (by decide) ?_
      refine zj_iconst (v := 0) E dX4_takesChunk_100 (by decide) ?_
      have e9 := Option.some.inj h
      subst e9
      exact (show zRet Γ cX4_takesChunk 3 0 0 (some (.int 0)) σ from K) _ _ dX4_takesChunk_101
    rw [if_neg e2] at h
    by_cases e3 : p1 = 1633899596
    · rw [if_pos e3] at h
      refine zj_lIn (tgt := 102) (off := 62) E e3 dX4_takesChunk_40 (by decide) (by decide) (by decide) ?_
      refine zj_iload_n E dX4_takesChunk_102 rfl 2 rfl ?_
      refine zj_bipush (v := 8) E dX4_takesChunk_103 (by decide) ?_
      refine zj_icmp_ne (tgt := 126) E dX4_takesChunk_105 (by decide) h (fun h => ?_) (fun h => ?_)
      · refine zj_iconst (v := 0) E dX4_takesChunk_126 (by decide) ?_
        have e9 := Option.some.inj h
        subst e9
        exact (show zRet Γ cX4_takesChunk 3 0 0 (some (.int 0)) σ from K) _ _ dX4_takesChunk_127
      · refine zj_aload_n E dX4_takesChunk_108 rfl 0 rfl ?_
        refine zj_aload_n E dX4_takesChunk_109 rfl 0 rfl ?_
        refine zs_getI E zc4 6 (by decide) zw_8_12 rfl dX4_takesChunk_110 h (fun x7 h => ?_)
        refine zj_bipush (v := 8) E dX4_takesChunk_113 (by decide) ?_
        refine zj_iadd E dX4_takesChunk_115 ?_
        obtain ⟨hk, h⟩ := oA_some h
        obtain ⟨x8, σ2, hc, h⟩ := oC_some h
        refine zs_callV (As := [.int (x7 + (8 : Int32))]) (rest := []) E zc4 zyX4_takesCounts zw_15_8 (kX4_takesCounts _ _ _ _ _ hc) rfl rfl hk rfl ⟨by decide, by decide⟩ ⟨by decide, by decide⟩ (Nat.le_of_ble_eq_true rfl) dX4_takesChunk_116 rfl (show zJ Γ 3 0 0 σ2 119 [(0, .ref p0), (1, .int p1), (2, .int p2)] [.int x8] from ?_)
        refine zj_if_eq (tgt := 126) E dX4_takesChunk_119 (by decide) h (fun h => ?_) (fun h => ?_)
        · refine zj_iconst (v := 0) E dX4_takesChunk_126 (by decide) ?_
          have e9 := Option.some.inj h
          subst e9
          exact (show zRet Γ cX4_takesChunk 3 0 0 (some (.int 0)) σ2 from K) _ _ dX4_takesChunk_127
        · refine zj_iconst (v := 1) E dX4_takesChunk_122 (by decide) ?_
          refine zj_goto (tgt := 127) E dX4_takesChunk_123 (by decide) ?_
          have e9 := Option.some.inj h
          subst e9
          exact (show zRet Γ cX4_takesChunk 3 0 0 (some (.int 1)) σ2 from K) _ _ dX4_takesChunk_127
    rw [if_neg e3] at h
    by_cases e4 : p1 = 1717785676
    · rw [if_pos e4] at h
      refine zj_lIn (tgt := 128) (off := 88) E e4 dX4_takesChunk_40 (by decide) (by decide) (by decide) ?_
      refine zj_iload_n E dX4_takesChunk_128 rfl 2 rfl ?_
      refine zj_bipush (v := 26) E dX4_takesChunk_129 (by decide) ?_
      refine zj_icmp_ne (tgt := 152) E dX4_takesChunk_131 (by decide) h (fun h => ?_) (fun h => ?_)
      · refine zj_iconst (v := 0) E dX4_takesChunk_152 (by decide) ?_
        have e9 := Option.some.inj h
        subst e9
        exact (show zRet Γ cX4_takesChunk 3 0 0 (some (.int 0)) σ from K) _ _ dX4_takesChunk_153
      · refine zj_aload_n E dX4_takesChunk_134 rfl 0 rfl ?_
        refine zj_aload_n E dX4_takesChunk_135 rfl 0 rfl ?_
        refine zs_getI E zc4 6 (by decide) zw_8_12 rfl dX4_takesChunk_136 h (fun x9 h => ?_)
        refine zj_bipush (v := 8) E dX4_takesChunk_139 (by decide) ?_
        refine zj_iadd E dX4_takesChunk_141 ?_
        obtain ⟨hk, h⟩ := oA_some h
        obtain ⟨x10, σ3, hc, h⟩ := oC_some h
        refine zs_callV (As := [.int (x9 + (8 : Int32))]) (rest := []) E zc4 zyX4_takesControl zw_15_12 (kX4_takesControl _ _ _ _ _ hc) rfl rfl hk rfl ⟨by decide, by decide⟩ ⟨by decide, by decide⟩ (Nat.le_of_ble_eq_true rfl) dX4_takesChunk_142 rfl (show zJ Γ 3 0 0 σ3 145 [(0, .ref p0), (1, .int p1), (2, .int p2)] [.int x10] from ?_)
        refine zj_if_eq (tgt := 152) E dX4_takesChunk_145 (by decide) h (fun h => ?_) (fun h => ?_)
        · refine zj_iconst (v := 0) E dX4_takesChunk_152 (by decide) ?_
          have e9 := Option.some.inj h
          subst e9
          exact (show zRet Γ cX4_takesChunk 3 0 0 (some (.int 0)) σ3 from K) _ _ dX4_takesChunk_153
        · refine zj_iconst (v := 1) E dX4_takesChunk_148 (by decide) ?_
          refine zj_goto (tgt := 153) E dX4_takesChunk_149 (by decide) ?_
          have e9 := Option.some.inj h
          subst e9
          exact (show zRet Γ cX4_takesChunk 3 0 0 (some (.int 1)) σ3 from K) _ _ dX4_takesChunk_153
    rw [if_neg e4] at h
    by_cases e5 : p1 = 1717846356
    · rw [if_pos e5] at h
      refine zj_lIn (tgt := 160) (off := 120) E e5 dX4_takesChunk_40 (by decide) (by decide) (by decide) ?_
      refine zj_iload_n E dX4_takesChunk_160 rfl 2 rfl ?_
      refine zj_iconst (v := 4) E dX4_takesChunk_161 (by decide) ?_
      refine zj_icmp_lt (tgt := 177) E dX4_takesChunk_162 (by decide) h (fun h => ?_) (fun h => ?_)
      · refine zj_iconst (v := 0) E dX4_takesChunk_177 (by decide) ?_
        have e9 := Option.some.inj h
        subst e9
        exact (show zRet Γ cX4_takesChunk 3 0 0 (some (.int 0)) σ from K) _ _ dX4_takesChunk_178
      · refine zj_aload_n E dX4_takesChunk_165 rfl 0 rfl ?_
        refine zj_iload_n E dX4_takesChunk_166 rfl 2 rfl ?_
        obtain ⟨hk, h⟩ := oA_some h
        obtain ⟨x11, σ4, hc, h⟩ := oC_some h
        refine zs_callV (As := [.int p2]) (rest := []) E zc4 zyX4_takesFrameData zw_16_18 (kX4_takesFrameData _ _ _ _ _ hc) rfl rfl hk rfl ⟨by decide, by decide⟩ ⟨by decide, by decide⟩ (Nat.le_of_ble_eq_true rfl) dX4_takesChunk_167 rfl (show zJ Γ 3 0 0 σ4 170 [(0, .ref p0), (1, .int p1), (2, .int p2)] [.int x11] from ?_)
        refine zj_if_eq (tgt := 177) E dX4_takesChunk_170 (by decide) h (fun h => ?_) (fun h => ?_)
        · refine zj_iconst (v := 0) E dX4_takesChunk_177 (by decide) ?_
          have e9 := Option.some.inj h
          subst e9
          exact (show zRet Γ cX4_takesChunk 3 0 0 (some (.int 0)) σ4 from K) _ _ dX4_takesChunk_178
        · refine zj_iconst (v := 1) E dX4_takesChunk_173 (by decide) ?_
          refine zj_goto (tgt := 178) E dX4_takesChunk_174 (by decide) ?_
          have e9 := Option.some.inj h
          subst e9
          exact (show zRet Γ cX4_takesChunk 3 0 0 (some (.int 1)) σ4 from K) _ _ dX4_takesChunk_178
    rw [if_neg e5] at h
    refine zj_lOut (tgt := 219) E dX4_takesChunk_40 (by decide) (by rw [lv_osw e0 (by decide)]; rw [lv_osw e1 (by decide)]; rw [lv_osw e2 (by decide)]; rw [lv_osw e3 (by decide)]; rw [lv_osw e4 (by decide)]; rw [lv_osw e5 (by decide)]; rfl) (by decide) ?_
    refine zj_aload_n E dX4_takesChunk_219 rfl 0 rfl ?_
    refine zs_getI E zc4 7 (by decide) zw_8_8 rfl dX4_takesChunk_220 h (fun x12 h => ?_)
    refine zj_ldc (v := 1717785676) E zw_14_18 dX4_takesChunk_223 ?_
    refine zj_icmp_eq (tgt := 245) E dX4_takesChunk_225 (by decide) h (fun h => ?_) (fun h => ?_)
    · refine zj_iconst (v := 0) E dX4_takesChunk_245 (by decide) ?_
      have e9 := Option.some.inj h
      subst e9
      exact (show zRet Γ cX4_takesChunk 3 0 0 (some (.int 0)) σ from K) _ _ dX4_takesChunk_246
    · refine zj_aload_n E dX4_takesChunk_228 rfl 0 rfl ?_
      refine zj_aload_n E dX4_takesChunk_229 rfl 0 rfl ?_
      refine zs_getI E zc4 6 (by decide) zw_8_12 rfl dX4_takesChunk_230 h (fun x13 h => ?_)
      refine zj_iconst (v := 4) E dX4_takesChunk_233 (by decide) ?_
      refine zj_iadd E dX4_takesChunk_234 ?_
      obtain ⟨hk, h⟩ := oA_some h
      obtain ⟨x14, hc, h⟩ := oB_some h
      refine zs_callV (As := [.int (x13 + (4 : Int32))]) (rest := []) E zc4 zyX4_mayBeLeftOut zw_16_22 (kX4_mayBeLeftOut _ _ _ _ _ hc) rfl rfl hk rfl ⟨by decide, by decide⟩ ⟨by decide, by decide⟩ (Nat.le_of_ble_eq_true rfl) dX4_takesChunk_235 rfl (show zJ Γ 3 0 0 σ 238 [(0, .ref p0), (1, .int p1), (2, .int p2)] [.int x14] from ?_)
      refine zj_if_eq (tgt := 245) E dX4_takesChunk_238 (by decide) h (fun h => ?_) (fun h => ?_)
      · refine zj_iconst (v := 0) E dX4_takesChunk_245 (by decide) ?_
        have e9 := Option.some.inj h
        subst e9
        exact (show zRet Γ cX4_takesChunk 3 0 0 (some (.int 0)) σ from K) _ _ dX4_takesChunk_246
      · refine zj_iconst (v := 1) E dX4_takesChunk_241 (by decide) ?_
        refine zj_goto (tgt := 246) E dX4_takesChunk_242 (by decide) ?_
        have e9 := Option.some.inj h
        subst e9
        exact (show zRet Γ cX4_takesChunk 3 0 0 (some (.int 1)) σ from K) _ _ dX4_takesChunk_246
  · refine zj_iload_n E dX4_takesChunk_7 rfl 1 rfl ?_
    refine zj_ldc (v := 1229472850) E zw_14_17 dX4_takesChunk_8 ?_
    refine zj_icmp_ne (tgt := 37) E dX4_takesChunk_10 (by decide) h (fun h => ?_) (fun h => ?_)
    · refine zj_iconst (v := 0) E dX4_takesChunk_37 (by decide) ?_
      have e9 := Option.some.inj h
      subst e9
      exact (show zRet Γ cX4_takesChunk 3 0 0 (some (.int 0)) σ from K) _ _ dX4_takesChunk_38
    · refine zj_iload_n E dX4_takesChunk_13 rfl 2 rfl ?_
      refine zj_bipush (v := 13) E dX4_takesChunk_14 (by decide) ?_
      refine zj_icmp_ne (tgt := 37) E dX4_takesChunk_16 (by decide) h (fun h => ?_) (fun h => ?_)
      · refine zj_iconst (v := 0) E dX4_takesChunk_37 (by decide) ?_
        have e9 := Option.some.inj h
        subst e9
        exact (show zRet Γ cX4_takesChunk 3 0 0 (some (.int 0)) σ from K) _ _ dX4_takesChunk_38
      · refine zj_aload_n E dX4_takesChunk_19 rfl 0 rfl ?_
        refine zj_aload_n E dX4_takesChunk_20 rfl 0 rfl ?_
        refine zs_getI E zc4 6 (by decide) zw_8_12 rfl dX4_takesChunk_21 h (fun x15 h => ?_)
        refine zj_bipush (v := 8) E dX4_takesChunk_24 (by decide) ?_
        refine zj_iadd E dX4_takesChunk_26 ?_
        obtain ⟨hk, h⟩ := oA_some h
        obtain ⟨x16, σ5, hc, h⟩ := oC_some h
        refine zs_callV (As := [.int (x15 + (8 : Int32))]) (rest := []) E zc4 zyX4_takesHead zw_14_19 (kX4_takesHead _ _ _ _ _ hc) rfl rfl hk rfl ⟨by decide, by decide⟩ ⟨by decide, by decide⟩ (Nat.le_of_ble_eq_true rfl) dX4_takesChunk_27 rfl (show zJ Γ 3 0 0 σ5 30 [(0, .ref p0), (1, .int p1), (2, .int p2)] [.int x16] from ?_)
        refine zj_if_eq (tgt := 37) E dX4_takesChunk_30 (by decide) h (fun h => ?_) (fun h => ?_)
        · refine zj_iconst (v := 0) E dX4_takesChunk_37 (by decide) ?_
          have e9 := Option.some.inj h
          subst e9
          exact (show zRet Γ cX4_takesChunk 3 0 0 (some (.int 0)) σ5 from K) _ _ dX4_takesChunk_38
        · refine zj_iconst (v := 1) E dX4_takesChunk_33 (by decide) ?_
          refine zj_goto (tgt := 38) E dX4_takesChunk_34 (by decide) ?_
          have e9 := Option.some.inj h
          subst e9
          exact (show zRet Γ cX4_takesChunk 3 0 0 (some (.int 1)) σ5 from K) _ _ dX4_takesChunk_38
set_option maxRecDepth 100000 in
theorem kX4_takesChunk (l : Launch) (D : va_G) (cs : zCs) (z0 : Nat) (σ : zS) {p0 : Nat} {p1 : Int32} {p2 : Int32} {r : Int32} {σ' : zS} (h : fX4_takesChunk σ p0 p1 p2 = some (r, σ')) : zM l D cs z0 yX4_takesChunk cX4_takesChunk 3 (some .boolean) { frames := 3, cells := 0, slots := 0, locals := 70 } [.ref p0, .int p1, .int p2] σ (some (.int r)) σ' 0 0 := by
  obtain ⟨r0, s0, h0, h⟩ := oC_some h
  obtain ⟨hz, h⟩ := oA_some h
  cases h
  exact zM_of (by decide) rfl (Or.inr ⟨rfl, hz⟩) (Nat.le_of_ble_eq_true rfl) rfl (fun Γ e1 e2 e3 e4 E _ K => wX4_takesChunk E σ _ _ _ h0 K)
/-! X4_chunkFault -/
def fX4_chunkFault_41 (σ : zS) (l0 : Nat) : Option (Int32 × zS) := oGR σ 5 l0 0 (fun a3 => oGI σ 2 a3 1 (fun x5 => oPI σ 5 l0 5 x5 (fun σ1 => some (2, σ1))))
set_option maxRecDepth 100000 in
theorem wX4_chunkFault_41 {Γ : zG} (E : zE Γ cX4_chunkFault RX4 5 { frames := 5, cells := 0, slots := 0, locals := 126 }) (σ : zS) (l0 : Nat) {R : (Int32 × zS)} (h : fX4_chunkFault_41 σ l0 = some R) (K : zRet Γ cX4_chunkFault 5 0 0 (some (.int R.1)) R.2) : zJ Γ 5 0 0 σ 41 [(0, .ref l0)] [] := by
  unfold fX4_chunkFault_41 at h
  refine zj_aload_n E dX4_chunkFault_41 rfl 0 rfl ?_
  refine zj_aload_n E dX4_chunkFault_42 rfl 0 rfl ?_
  refine zs_getR E zc4 0 (by decide) zw_3_13 rfl dX4_chunkFault_43 h (fun a3 h => ?_)
  refine zs_getIN E zc1 1 (by decide) (znf_7) rfl dX4_chunkFault_46 h (fun x5 h => ?_)
  refine zs_putI E zc4 5 (by decide) zw_8_14 rfl rfl dX4_chunkFault_49 h (fun σ1 h => ?_)
  refine zj_iconst (v := 2) E dX4_chunkFault_52 (by decide) ?_
  have e9 := Option.some.inj h
  subst e9
  exact (show zRet Γ cX4_chunkFault 5 0 0 (some (.int 2)) σ1 from K) _ _ dX4_chunkFault_53
def fX4_chunkFault_179 (σ : zS) (l0 : Nat) (l2 : Int32) (l3 : Int32) (l4 : Int32) : Option (Int32 × zS) := oA (zk σ l0 = 5) (oC (fX4_takesChunk σ l0 l4 l2) (fun x14 σ3 => (if x14 = 0 then some (4, σ3) else oPI σ3 5 l0 7 l4 (fun σ4 => oPI σ4 5 l0 6 (l3 + (4 : Int32)) (fun σ5 => some (0, σ5))))))
set_option maxRecDepth 100000 in
theorem wX4_chunkFault_179 {Γ : zG} (E : zE Γ cX4_chunkFault RX4 5 { frames := 5, cells := 0, slots := 0, locals := 126 }) (σ : zS) (l0 : Nat) (l2 : Int32) (l3 : Int32) (l4 : Int32) {R : (Int32 × zS)} (h : fX4_chunkFault_179 σ l0 l2 l3 l4 = some R) (K : zRet Γ cX4_chunkFault 5 0 0 (some (.int R.1)) R.2) : zJ Γ 5 0 0 σ 179 [(0, .ref l0), (2, .int l2), (3, .int l3), (4, .int l4)] [] := by
  unfold fX4_chunkFault_179 at h
  refine zj_aload_n E dX4_chunkFault_179 rfl 0 rfl ?_
  refine zj_iload E dX4_chunkFault_180 3 rfl ?_
  refine zj_iload_n E dX4_chunkFault_182 rfl 1 rfl ?_
  obtain ⟨hk, h⟩ := oA_some h
  obtain ⟨x14, σ3, hc, h⟩ := oC_some h
  refine zs_callV (As := [.int l4, .int l2]) (rest := []) E zc4 zyX4_takesChunk zw_14_13 (kX4_takesChunk _ _ _ _ _ hc) rfl rfl hk rfl ⟨by decide, by decide⟩ ⟨by decide, by decide⟩ (Nat.le_of_ble_eq_true rfl) dX4_chunkFault_183 rfl (show zJ Γ 5 0 0 σ3 186 [(0, .ref l0), (2, .int l2), (3, .int l3), (4, .int l4)] [.int x14] from ?_)
  refine zj_if_ne (tgt := 191) E dX4_chunkFault_186 (by decide) h (fun h => ?_) (fun h => ?_)
  · refine zj_aload_n E dX4_chunkFault_191 rfl 0 rfl ?_
    refine zj_iload E dX4_chunkFault_192 3 rfl ?_
    refine zs_putI E zc4 7 (by decide) zw_8_8 rfl rfl dX4_chunkFault_194 h (fun σ4 h => ?_)
    refine zj_aload_n E dX4_chunkFault_197 rfl 0 rfl ?_
    refine zj_iload_n E dX4_chunkFault_198 rfl 2 rfl ?_
    refine zj_iconst (v := 4) E dX4_chunkFault_199 (by decide) ?_
    refine zj_iadd E dX4_chunkFault_200 ?_
    refine zs_putI E zc4 6 (by decide) zw_8_12 rfl rfl dX4_chunkFault_201 h (fun σ5 h => ?_)
    refine zj_iconst (v := 0) E dX4_chunkFault_204 (by decide) ?_
    have e9 := Option.some.inj h
    subst e9
    exact (show zRet Γ cX4_chunkFault 5 0 0 (some (.int 0)) σ5 from K) _ _ dX4_chunkFault_205
  · refine zj_iconst (v := 4) E dX4_chunkFault_189 (by decide) ?_
    have e9 := Option.some.inj h
    subst e9
    exact (show zRet Γ cX4_chunkFault 5 0 0 (some (.int 4)) σ3 from K) _ _ dX4_chunkFault_190
def fX4_chunkFault_147 (σ : zS) (l0 : Nat) (l2 : Int32) (l3 : Int32) (l4 : Int32) : Option (Int32 × zS) := oGR σ 5 l0 2 (fun a8 => oA (zk σ a8 = 9) (oC (fX9_unpack σ a8) (fun x16 σ6 => (if x16 = 0 then some (5, σ6) else oGR σ6 5 l0 4 (fun a9 => oGR σ6 5 l0 2 (fun a10 => oGR σ6 9 a10 1 (fun a11 => oC (fX6_fill σ6 a9 a11) (fun x17 σ7 => (if x17 = 0 then some (6, σ7) else fX4_chunkFault_179 σ7 l0 l2 l3 l4)))))))))
set_option maxRecDepth 100000 in
theorem wX4_chunkFault_147 {Γ : zG} (E : zE Γ cX4_chunkFault RX4 5 { frames := 5, cells := 0, slots := 0, locals := 126 }) (σ : zS) (l0 : Nat) (l2 : Int32) (l3 : Int32) (l4 : Int32) {R : (Int32 × zS)} (h : fX4_chunkFault_147 σ l0 l2 l3 l4 = some R) (K : zRet Γ cX4_chunkFault 5 0 0 (some (.int R.1)) R.2) : zJ Γ 5 0 0 σ 147 [(0, .ref l0), (2, .int l2), (3, .int l3), (4, .int l4)] [] := by
  unfold fX4_chunkFault_147 at h
  refine zj_aload_n E dX4_chunkFault_147 rfl 0 rfl ?_
  refine zs_getR E zc4 2 (by decide) zw_3_9 rfl dX4_chunkFault_148 h (fun a8 h => ?_)
  obtain ⟨hk, h⟩ := oA_some h
  obtain ⟨x16, σ6, hc, h⟩ := oC_some h
  refine zs_callV (As := []) (rest := []) E zc8 zyX9_unpack zw_9_16 (kX9_unpack _ _ _ _ _ hc) rfl rfl hk rfl ⟨by decide, by decide⟩ ⟨by decide, by decide⟩ (Nat.le_of_ble_eq_true rfl) dX4_chunkFault_151 rfl (show zJ Γ 5 0 0 σ6 154 [(0, .ref l0), (2, .int l2), (3, .int l3), (4, .int l4)] [.int x16] from ?_)
  refine zj_if_ne (tgt := 159) E dX4_chunkFault_154 (by decide) h (fun h => ?_) (fun h => ?_)
  · refine zj_aload_n E dX4_chunkFault_159 rfl 0 rfl ?_
    refine zs_getR E zc4 4 (by decide) zw_3_12 rfl dX4_chunkFault_160 h (fun a9 h => ?_)
    refine zj_aload_n E dX4_chunkFault_163 rfl 0 rfl ?_
    refine zs_getR E zc4 2 (by decide) zw_3_9 rfl dX4_chunkFault_164 h (fun a10 h => ?_)
    refine zs_getRN E zc8 1 (by decide) (znf_12) rfl dX4_chunkFault_167 h (fun a11 h => ?_)
    obtain ⟨x17, σ7, hc, h⟩ := oC_some h
    refine zs_callS (As := [.ref a9, .ref a11]) (rest := []) E zyX6_fill zw_13_18 (kX6_fill _ _ _ _ _ hc) rfl rfl rfl ⟨by decide, by decide⟩ ⟨by decide, by decide⟩ (Nat.le_of_ble_eq_true rfl) dX4_chunkFault_170 rfl (show zJ Γ 5 0 0 σ7 173 [(0, .ref l0), (2, .int l2), (3, .int l3), (4, .int l4)] [.int x17] from ?_)
    refine zj_if_ne (tgt := 179) E dX4_chunkFault_173 (by decide) h (fun h => ?_) (fun h => ?_)
    · refine zj_lv [0, 1, 2, 3] rfl ?_
      exact wX4_chunkFault_179 E _ _ _ _ _ h K
    · refine zj_bipush (v := 6) E dX4_chunkFault_176 (by decide) ?_
      have e9 := Option.some.inj h
      subst e9
      exact (show zRet Γ cX4_chunkFault 5 0 0 (some (.int 6)) σ7 from K) _ _ dX4_chunkFault_178
  · refine zj_iconst (v := 5) E dX4_chunkFault_157 (by decide) ?_
    have e9 := Option.some.inj h
    subst e9
    exact (show zRet Γ cX4_chunkFault 5 0 0 (some (.int 5)) σ6 from K) _ _ dX4_chunkFault_158
def fX4_chunkFault (σ : zS) (p0 : Nat) : Option (Int32 × zS) := oGR σ 5 p0 0 (fun a1 => oGI σ 2 a1 1 (fun x1 => oGI σ 5 p0 6 (fun x2 => oL ((x1 - x2) - (12 : Int32)) (fun v1 => oGR σ 5 p0 0 (fun a2 => oGI σ 5 p0 6 (fun x3 => oA (zk σ a2 = 2) (oB (fX1_number σ a2 x3) (fun x4 => (if v1 < 0 then fX4_chunkFault_41 σ p0 else (if x4 < 0 then fX4_chunkFault_41 σ p0 else (if x4 ≤ v1 then oGI σ 5 p0 6 (fun x6 => oPI σ 5 p0 5 (x6 + (4 : Int32)) (fun σ2 => oGI σ2 5 p0 6 (fun x7 => oL ((x7 + (8 : Int32)) + x4) (fun v2 => oGR σ2 5 p0 1 (fun a4 => oGR σ2 5 p0 0 (fun a5 => oGI σ2 5 p0 6 (fun x8 => oA (zk σ2 a4 = 8) (oB (fX8_ofChunk σ2 a4 a5 (x8 + (4 : Int32)) v2) (fun x9 => oGR σ2 5 p0 0 (fun a6 => oA (zk σ2 a6 = 2) (oB (fX1_number σ2 a6 v2) (fun x10 => (if x9 = x10 then oGR σ2 5 p0 0 (fun a7 => oGI σ2 5 p0 6 (fun x11 => oA (zk σ2 a7 = 2) (oB (fX1_number σ2 a7 (x11 + (4 : Int32))) (fun x12 => oGI σ2 5 p0 7 (fun x13 => (if x12 = x13 then fX4_chunkFault_179 σ2 p0 x4 v2 x12 else oGI σ2 5 p0 7 (fun x15 => (if x15 = (1229209940 : Int32) then fX4_chunkFault_147 σ2 p0 x4 v2 x12 else oGI σ2 5 p0 7 (fun x18 => (if x18 = (1717846356 : Int32) then fX4_chunkFault_147 σ2 p0 x4 v2 x12 else fX4_chunkFault_179 σ2 p0 x4 v2 x12)))))))))) else some (3, σ2)))))))))))))) else fX4_chunkFault_41 σ p0)))))))))))
set_option maxRecDepth 100000 in
theorem wX4_chunkFault {Γ : zG} (E : zE Γ cX4_chunkFault RX4 5 { frames := 5, cells := 0, slots := 0, locals := 126 }) (σ : zS) (p0 : Nat) {R : (Int32 × zS)} (h : fX4_chunkFault σ p0 = some R) (K : zRet Γ cX4_chunkFault 5 0 0 (some (.int R.1)) R.2) : zJ Γ 5 0 0 σ 0 [(0, .ref p0)] [] := by
  unfold fX4_chunkFault at h
  refine zj_aload_n E dX4_chunkFault_0 rfl 0 rfl ?_
  refine zs_getR E zc4 0 (by decide) zw_3_13 rfl dX4_chunkFault_1 h (fun a1 h => ?_)
  refine zs_getIN E zc1 1 (by decide) (znf_7) rfl dX4_chunkFault_4 h (fun x1 h => ?_)
  refine zj_aload_n E dX4_chunkFault_7 rfl 0 rfl ?_
  refine zs_getI E zc4 6 (by decide) zw_8_12 rfl dX4_chunkFault_8 h (fun x2 h => ?_)
  refine zj_isub E dX4_chunkFault_11 ?_
  refine zj_bipush (v := 12) E dX4_chunkFault_12 (by decide) ?_
  refine zj_isub E dX4_chunkFault_14 ?_
  refine zs_istore_n (lv2 := fun v1 => [(1, .int v1), (0, .ref p0)]) E dX4_chunkFault_15 rfl (by decide) (fun _ => rfl) h (fun v1 h => ?_)
  refine zj_aload_n E dX4_chunkFault_16 rfl 1 rfl ?_
  refine zs_getR E zc4 0 (by decide) zw_3_13 rfl dX4_chunkFault_17 h (fun a2 h => ?_)
  refine zj_aload_n E dX4_chunkFault_20 rfl 1 rfl ?_
  refine zs_getI E zc4 6 (by decide) zw_8_12 rfl dX4_chunkFault_21 h (fun x3 h => ?_)
  obtain ⟨hk, h⟩ := oA_some h
  obtain ⟨x4, hc, h⟩ := oB_some h
  refine zs_callV (As := [.int x3]) (rest := []) E zc1 zyX1_number zw_9_7 (kX1_number _ _ _ _ _ hc) rfl rfl hk rfl ⟨by decide, by decide⟩ ⟨by decide, by decide⟩ (Nat.le_of_ble_eq_true rfl) dX4_chunkFault_24 rfl (show zJ Γ 5 0 0 σ 27 [(1, .int v1), (0, .ref p0)] [.int x4] from ?_)
  refine zj_istore_n (lv2 := [(2, .int x4), (1, .int v1), (0, .ref p0)]) E dX4_chunkFault_27 rfl (by decide) rfl ?_
  refine zj_iload_n E dX4_chunkFault_28 rfl 1 rfl ?_
  refine zj_if_lt (tgt := 41) E dX4_chunkFault_29 (by decide) h (fun h => ?_) (fun h => ?_)
  · refine zj_lv [2] rfl ?_
    exact wX4_chunkFault_41 E _ _ h K
  · refine zj_iload_n E dX4_chunkFault_32 rfl 0 rfl ?_
    refine zj_if_lt (tgt := 41) E dX4_chunkFault_33 (by decide) h (fun h => ?_) (fun h => ?_)
    · refine zj_lv [2] rfl ?_
      exact wX4_chunkFault_41 E _ _ h K
    · refine zj_iload_n E dX4_chunkFault_36 rfl 0 rfl ?_
      refine zj_iload_n E dX4_chunkFault_37 rfl 1 rfl ?_
      refine zj_icmp_le (tgt := 54) E dX4_chunkFault_38 (by decide) h (fun h => ?_) (fun h => ?_)
      · refine zj_aload_n E dX4_chunkFault_54 rfl 2 rfl ?_
        refine zj_aload_n E dX4_chunkFault_55 rfl 2 rfl ?_
        refine zs_getI E zc4 6 (by decide) zw_8_12 rfl dX4_chunkFault_56 h (fun x6 h => ?_)
        refine zj_iconst (v := 4) E dX4_chunkFault_59 (by decide) ?_
        refine zj_iadd E dX4_chunkFault_60 ?_
        refine zs_putI E zc4 5 (by decide) zw_8_14 rfl rfl dX4_chunkFault_61 h (fun σ2 h => ?_)
        refine zj_aload_n E dX4_chunkFault_64 rfl 2 rfl ?_
        refine zs_getI E zc4 6 (by decide) zw_8_12 rfl dX4_chunkFault_65 h (fun x7 h => ?_)
        refine zj_bipush (v := 8) E dX4_chunkFault_68 (by decide) ?_
        refine zj_iadd E dX4_chunkFault_70 ?_
        refine zj_iload_n E dX4_chunkFault_71 rfl 0 rfl ?_
        refine zj_iadd E dX4_chunkFault_72 ?_
        refine zs_istore_n (lv2 := fun v2 => [(3, .int v2), (2, .int x4), (1, .int v1), (0, .ref p0)]) E dX4_chunkFault_73 rfl (by decide) (fun _ => rfl) h (fun v2 h => ?_)
        refine zj_aload_n E dX4_chunkFault_74 rfl 3 rfl ?_
        refine zs_getR E zc4 1 (by decide) zw_3_14 rfl dX4_chunkFault_75 h (fun a4 h => ?_)
        refine zj_aload_n E dX4_chunkFault_78 rfl 3 rfl ?_
        refine zs_getR E zc4 0 (by decide) zw_3_13 rfl dX4_chunkFault_79 h (fun a5 h => ?_)
        refine zj_aload_n E dX4_chunkFault_82 rfl 3 rfl ?_
        refine zs_getI E zc4 6 (by decide) zw_8_12 rfl dX4_chunkFault_83 h (fun x8 h => ?_)
        refine zj_iconst (v := 4) E dX4_chunkFault_86 (by decide) ?_
        refine zj_iadd E dX4_chunkFault_87 ?_
        refine zj_iload_n E dX4_chunkFault_88 rfl 0 rfl ?_
        obtain ⟨hk, h⟩ := oA_some h
        obtain ⟨x9, hc, h⟩ := oB_some h
        refine zs_callV (As := [.ref a5, .int (x8 + (4 : Int32)), .int v2]) (rest := []) E zc7 zyX8_ofChunk zw_9_11 (kX8_ofChunk _ _ _ _ _ hc) rfl rfl hk rfl ⟨by decide, by decide⟩ ⟨by decide, by decide⟩ (Nat.le_of_ble_eq_true rfl) dX4_chunkFault_89 rfl (show zJ Γ 5 0 0 σ2 92 [(3, .int v2), (2, .int x4), (1, .int v1), (0, .ref p0)] [.int x9] from ?_)
        refine zj_aload_n E dX4_chunkFault_92 rfl 3 rfl ?_
        refine zs_getR E zc4 0 (by decide) zw_3_13 rfl dX4_chunkFault_93 h (fun a6 h => ?_)
        refine zj_iload_n E dX4_chunkFault_96 rfl 0 rfl ?_
        obtain ⟨hk, h⟩ := oA_some h
        obtain ⟨x10, hc, h⟩ := oB_some h
        refine zs_callV (As := [.int v2]) (rest := [.int x9]) E zc1 zyX1_number zw_9_7 (kX1_number _ _ _ _ _ hc) rfl rfl hk rfl ⟨by decide, by decide⟩ ⟨by decide, by decide⟩ (Nat.le_of_ble_eq_true rfl) dX4_chunkFault_97 rfl (show zJ Γ 5 0 0 σ2 100 [(3, .int v2), (2, .int x4), (1, .int v1), (0, .ref p0)] [.int x10, .int x9] from ?_)
        refine zj_icmp_eq (tgt := 105) E dX4_chunkFault_100 (by decide) h (fun h => ?_) (fun h => ?_)
        · refine zj_aload_n E dX4_chunkFault_105 rfl 3 rfl ?_
          refine zs_getR E zc4 0 (by decide) zw_3_13 rfl dX4_chunkFault_106 h (fun a7 h => ?_)
          refine zj_aload_n E dX4_chunkFault_109 rfl 3 rfl ?_
          refine zs_getI E zc4 6 (by decide) zw_8_12 rfl dX4_chunkFault_110 h (fun x11 h => ?_)
          refine zj_iconst (v := 4) E dX4_chunkFault_113 (by decide) ?_
          refine zj_iadd E dX4_chunkFault_114 ?_
          obtain ⟨hk, h⟩ := oA_some h
          obtain ⟨x12, hc, h⟩ := oB_some h
          refine zs_callV (As := [.int (x11 + (4 : Int32))]) (rest := []) E zc1 zyX1_number zw_9_7 (kX1_number _ _ _ _ _ hc) rfl rfl hk rfl ⟨by decide, by decide⟩ ⟨by decide, by decide⟩ (Nat.le_of_ble_eq_true rfl) dX4_chunkFault_115 rfl (show zJ Γ 5 0 0 σ2 118 [(3, .int v2), (2, .int x4), (1, .int v1), (0, .ref p0)] [.int x12] from ?_)
          refine zj_istore (lv2 := [(4, .int x12), (3, .int v2), (2, .int x4), (1, .int v1), (0, .ref p0)]) E dX4_chunkFault_118 (by decide) rfl ?_
          refine zj_iload E dX4_chunkFault_120 0 rfl ?_
          refine zj_aload_n E dX4_chunkFault_122 rfl 4 rfl ?_
          refine zs_getI E zc4 7 (by decide) zw_8_8 rfl dX4_chunkFault_123 h (fun x13 h => ?_)
          refine zj_icmp_eq (tgt := 179) E dX4_chunkFault_126 (by decide) h (fun h => ?_) (fun h => ?_)
          · refine zj_lv [4, 2, 1, 0] rfl ?_
            exact wX4_chunkFault_179 E _ _ _ _ _ h K
          · refine zj_aload_n E dX4_chunkFault_129 rfl 4 rfl ?_
            refine zs_getI E zc4 7 (by decide) zw_8_8 rfl dX4_chunkFault_130 h (fun x15 h => ?_)
            refine zj_ldc (v := 1229209940) E zw_9_5 dX4_chunkFault_133 ?_
            refine zj_icmp_eq (tgt := 147) E dX4_chunkFault_135 (by decide) h (fun h => ?_) (fun h => ?_)
            · refine zj_lv [4, 2, 1, 0] rfl ?_
              exact wX4_chunkFault_147 E _ _ _ _ _ h K
            · refine zj_aload_n E dX4_chunkFault_138 rfl 4 rfl ?_
              refine zs_getI E zc4 7 (by decide) zw_8_8 rfl dX4_chunkFault_139 h (fun x18 h => ?_)
              refine zj_ldc (v := 1717846356) E zw_9_6 dX4_chunkFault_142 ?_
              refine zj_icmp_ne (tgt := 179) E dX4_chunkFault_144 (by decide) h (fun h => ?_) (fun h => ?_)
              · refine zj_lv [4, 2, 1, 0] rfl ?_
                exact wX4_chunkFault_179 E _ _ _ _ _ h K
              · refine zj_lv [4, 2, 1, 0] rfl ?_
                exact wX4_chunkFault_147 E _ _ _ _ _ h K
        · refine zj_iconst (v := 3) E dX4_chunkFault_103 (by decide) ?_
          have e9 := Option.some.inj h
          subst e9
          exact (show zRet Γ cX4_chunkFault 5 0 0 (some (.int 3)) σ2 from K) _ _ dX4_chunkFault_104
      · refine zj_lv [2] rfl ?_
        exact wX4_chunkFault_41 E _ _ h K
set_option maxRecDepth 100000 in
theorem kX4_chunkFault (l : Launch) (D : va_G) (cs : zCs) (z0 : Nat) (σ : zS) {p0 : Nat} {r : Int32} {σ' : zS} (h : fX4_chunkFault σ p0 = some (r, σ')) : zM l D cs z0 yX4_chunkFault cX4_chunkFault 5 (some .int) { frames := 5, cells := 0, slots := 0, locals := 126 } [.ref p0] σ (some (.int r)) σ' 0 0 := by
  exact zM_of (by decide) rfl (Or.inl rfl) (Nat.le_of_ble_eq_true rfl) rfl (fun Γ e1 e2 e3 e4 E _ K => wX4_chunkFault E σ _ h K)
/-! X4_run -/
def jX4_run_37 (Γ : zG) (l0 : Nat) : (Int32 × zS) → Prop := fun x => zJ Γ 3 0 0 x.2 37 [(0, .ref l0), (1, .int x.1)] []
def eX4_run_37 (Γ : zG) (l0 : Nat) : (zS ⊕ (Int32 × zS)) → Prop := Sum.elim (fun b => zJ Γ 3 0 0 b 70 [(0, .ref l0)] []) (fun r => zRet Γ cX4_run 3 0 0 (some (.int r.1)) r.2)
def bX4_run_37 (l0 : Nat) (l1 : Int32) (σ : zS) : Option ((Int32 × zS) ⊕ (zS ⊕ (Int32 × zS))) := (if (8000 : Int32) ≤ l1 then some (.inr (.inl σ)) else oGI σ 5 l0 7 (fun x2 => (if x2 = (1229278788 : Int32) then some (.inr (.inl σ)) else oA (zk σ l0 = 5) (oC (fX4_chunkFault σ l0) (fun x3 σ7 => (if x3 = 0 then oL (l1 + 1) (fun v1 => some (.inl (v1, σ7))) else some (.inr (.inr (x3, σ7)))))))))
set_option maxRecDepth 100000 in
theorem wX4_run_L37 {Γ : zG} (E : zE Γ cX4_run RX4 3 { frames := 6, cells := 0, slots := 0, locals := 150 }) (l0 : Nat) : ∀ x R, (fun x => bX4_run_37 l0 x.1 x.2) x = some R → Sum.elim (jX4_run_37 Γ l0) (eX4_run_37 Γ l0) R → jX4_run_37 Γ l0 x := by
  intro x R h K
  obtain ⟨l1, σ⟩ := x
  have h : bX4_run_37 l0 l1 σ = some R := h
  show zJ Γ 3 0 0 σ 37 [(0, .ref l0), (1, .int l1)] []
  unfold bX4_run_37 at h
  refine zj_iload_n E dX4_run_37 rfl 1 rfl ?_
  refine zj_sipush (v := 8000) E dX4_run_38 (by decide) ?_
  refine zj_icmp_ge (tgt := 70) E dX4_run_41 (by decide) h (fun h => ?_) (fun h => ?_)
  · have e9 := Option.some.inj h
    subst e9
    refine zj_lv [0] rfl ?_
    exact K
  · refine zj_aload_n E dX4_run_44 rfl 0 rfl ?_
    refine zs_getI E zc4 7 (by decide) zw_8_8 rfl dX4_run_45 h (fun x2 h => ?_)
    refine zj_ldc (v := 1229278788) E zw_8_13 dX4_run_48 ?_
    refine zj_icmp_eq (tgt := 70) E dX4_run_50 (by decide) h (fun h => ?_) (fun h => ?_)
    · have e9 := Option.some.inj h
      subst e9
      refine zj_lv [0] rfl ?_
      exact K
    · refine zj_aload_n E dX4_run_53 rfl 0 rfl ?_
      obtain ⟨hk, h⟩ := oA_some h
      obtain ⟨x3, σ7, hc, h⟩ := oC_some h
      refine zs_callV (As := []) (rest := []) E zc4 zyX4_chunkFault zw_9_1 (kX4_chunkFault _ _ _ _ _ hc) rfl rfl hk rfl ⟨by decide, by decide⟩ ⟨by decide, by decide⟩ (Nat.le_of_ble_eq_true rfl) dX4_run_54 rfl (show zJ Γ 3 0 0 σ7 57 [(0, .ref l0), (1, .int l1)] [.int x3] from ?_)
      refine zj_istore_n (lv2 := [(2, .int x3), (0, .ref l0), (1, .int l1)]) E dX4_run_57 rfl (by decide) rfl ?_
      refine zj_iload_n E dX4_run_58 rfl 0 rfl ?_
      refine zj_if_eq (tgt := 64) E dX4_run_59 (by decide) h (fun h => ?_) (fun h => ?_)
      · refine zs_iinc (lv2 := fun v1 => [(1, .int v1), (2, .int x3), (0, .ref l0)]) E dX4_run_64 2 rfl (by decide) (by decide) (fun _ => rfl) h (fun v1 h => ?_)
        refine zj_goto (tgt := 37) E dX4_run_67 (by decide) ?_
        have e9 := Option.some.inj h
        subst e9
        refine zj_lv [2, 0] rfl ?_
        exact K
      · refine zj_iload_n E dX4_run_62 rfl 0 rfl ?_
        have e9 := Option.some.inj h
        subst e9
        exact (show zRet Γ cX4_run 3 0 0 (some (.int x3)) σ7 from K) _ _ dX4_run_63
def fX4_run (σ : zS) (p0 : Nat) : Option (Int32 × zS) := oPI σ 5 p0 7 0 (fun σ1 => oPI σ1 5 p0 8 0 (fun σ2 => oPI σ2 5 p0 9 0 (fun σ3 => oPZ σ3 5 p0 10 0 (fun σ4 => oA (zk σ4 p0 = 5) (oC (fX4_startsAsFile σ4 p0) (fun x1 σ5 => (if x1 = 0 then some (1, σ5) else oPI σ5 5 p0 6 8 (fun σ6 => oB (zloop zF (fun x => bX4_run_37 p0 x.1 x.2) (0, σ6)) (fun b1 => oS b1 (fun c1 => (fun σ8 => oGI σ8 5 p0 6 (fun x4 => oPI σ8 5 p0 5 x4 (fun σ9 => oGI σ9 5 p0 6 (fun x5 => oGR σ9 5 p0 0 (fun a1 => oGI σ9 2 a1 1 (fun x6 => (if x6 ≤ x5 then some (0, σ9) else some (4, σ9)))))))) c1) (fun r1 => some r1))))))))))
set_option maxRecDepth 100000 in
theorem wX4_run {Γ : zG} (E : zE Γ cX4_run RX4 3 { frames := 6, cells := 0, slots := 0, locals := 150 }) (σ : zS) (p0 : Nat) {R : (Int32 × zS)} (h : fX4_run σ p0 = some R) (K : zRet Γ cX4_run 3 0 0 (some (.int R.1)) R.2) : zJ Γ 3 0 0 σ 0 [(0, .ref p0)] [] := by
  unfold fX4_run at h
  refine zj_aload_n E dX4_run_0 rfl 0 rfl ?_
  refine zj_iconst (v := 0) E dX4_run_1 (by decide) ?_
  refine zs_putI E zc4 7 (by decide) zw_8_8 rfl rfl dX4_run_2 h (fun σ1 h => ?_)
  refine zj_aload_n E dX4_run_5 rfl 0 rfl ?_
  refine zj_iconst (v := 0) E dX4_run_6 (by decide) ?_
  refine zs_putI E zc4 8 (by decide) zw_8_9 rfl rfl dX4_run_7 h (fun σ2 h => ?_)
  refine zj_aload_n E dX4_run_10 rfl 0 rfl ?_
  refine zj_iconst (v := 0) E dX4_run_11 (by decide) ?_
  refine zs_putI E zc4 9 (by decide) zw_8_10 rfl rfl dX4_run_12 h (fun σ3 h => ?_)
  refine zj_aload_n E dX4_run_15 rfl 0 rfl ?_
  refine zj_iconst (v := 0) E dX4_run_16 (by decide) ?_
  refine zs_putZ E zc4 10 (by decide) zw_8_11 rfl rfl dX4_run_17 h (fun σ4 h => ?_)
  refine zj_aload_n E dX4_run_20 rfl 0 rfl ?_
  obtain ⟨hk, h⟩ := oA_some h
  obtain ⟨x1, σ5, hc, h⟩ := oC_some h
  refine zs_callV (As := []) (rest := []) E zc4 zyX4_startsAsFile zw_8_15 (kX4_startsAsFile _ _ _ _ _ hc) rfl rfl hk rfl ⟨by decide, by decide⟩ ⟨by decide, by decide⟩ (Nat.le_of_ble_eq_true rfl) dX4_run_21 rfl (show zJ Γ 3 0 0 σ5 24 [(0, .ref p0)] [.int x1] from ?_)
  refine zj_if_ne (tgt := 29) E dX4_run_24 (by decide) h (fun h => ?_) (fun h => ?_)
  · refine zj_aload_n E dX4_run_29 rfl 0 rfl ?_
    refine zj_bipush (v := 8) E dX4_run_30 (by decide) ?_
    refine zs_putI E zc4 6 (by decide) zw_8_12 rfl rfl dX4_run_32 h (fun σ6 h => ?_)
    refine zj_iconst (v := 0) E dX4_run_35 (by decide) ?_
    refine zj_istore_n (lv2 := [(1, .int 0), (0, .ref p0)]) E dX4_run_36 rfl (by decide) rfl ?_
    obtain ⟨b1, hb1, h⟩ := oB_some h
    refine zj_lv [1, 0] rfl ?_
    refine zj_loop (wX4_run_L37 E p0) zF (0, σ6) b1 hb1 ?_
    cases b1 with
    | inr r1 =>
      have e9 := Option.some.inj h
      subst e9
      exact K
    | inl c1 =>
      obtain ⟨σ8, rfl⟩ : ∃ z, z = c1 := ⟨_, rfl⟩
      dsimp only [oS] at h
      show zJ Γ 3 0 0 σ8 70 [(0, .ref p0)] []
      refine zj_aload_n E dX4_run_70 rfl 0 rfl ?_
      refine zj_aload_n E dX4_run_71 rfl 0 rfl ?_
      refine zs_getI E zc4 6 (by decide) zw_8_12 rfl dX4_run_72 h (fun x4 h => ?_)
      refine zs_putI E zc4 5 (by decide) zw_8_14 rfl rfl dX4_run_75 h (fun σ9 h => ?_)
      refine zj_aload_n E dX4_run_78 rfl 0 rfl ?_
      refine zs_getI E zc4 6 (by decide) zw_8_12 rfl dX4_run_79 h (fun x5 h => ?_)
      refine zj_aload_n E dX4_run_82 rfl 0 rfl ?_
      refine zs_getR E zc4 0 (by decide) zw_3_13 rfl dX4_run_83 h (fun a1 h => ?_)
      refine zs_getIN E zc1 1 (by decide) (znf_7) rfl dX4_run_86 h (fun x6 h => ?_)
      refine zj_icmp_ge (tgt := 96) E dX4_run_89 (by decide) h (fun h => ?_) (fun h => ?_)
      · refine zj_iconst (v := 0) E dX4_run_96 (by decide) ?_
        have e9 := Option.some.inj h
        subst e9
        exact (show zRet Γ cX4_run 3 0 0 (some (.int 0)) σ9 from K) _ _ dX4_run_97
      · refine zj_iconst (v := 4) E dX4_run_92 (by decide) ?_
        refine zj_goto (tgt := 97) E dX4_run_93 (by decide) ?_
        have e9 := Option.some.inj h
        subst e9
        exact (show zRet Γ cX4_run 3 0 0 (some (.int 4)) σ9 from K) _ _ dX4_run_97
  · refine zj_iconst (v := 1) E dX4_run_27 (by decide) ?_
    have e9 := Option.some.inj h
    subst e9
    exact (show zRet Γ cX4_run 3 0 0 (some (.int 1)) σ5 from K) _ _ dX4_run_28
set_option maxRecDepth 100000 in
theorem kX4_run (l : Launch) (D : va_G) (cs : zCs) (z0 : Nat) (σ : zS) {p0 : Nat} {r : Int32} {σ' : zS} (h : fX4_run σ p0 = some (r, σ')) : zM l D cs z0 yX4_run cX4_run 3 (some .int) { frames := 6, cells := 0, slots := 0, locals := 150 } [.ref p0] σ (some (.int r)) σ' 0 0 := by
  exact zM_of (by decide) rfl (Or.inl rfl) (Nat.le_of_ble_eq_true rfl) rfl (fun Γ e1 e2 e3 e4 E _ K => wX4_run E σ _ h K)
/-! X5_hasFrame -/
def gX5_hasFrame (σ : zS) (p0 : Nat) (p1 : Int32) : Option Int32 := oGI σ 6 p0 2 (fun x1 => (if x1 = 0 then some 0 else (if p1 < 0 then some 0 else oGI σ 6 p0 7 (fun x2 => (if x2 ≤ p1 then some 0 else some 1)))))
def fX5_hasFrame (σ : zS) (p0 : Nat) (p1 : Int32) : Option Int32 := oB (gX5_hasFrame σ p0 p1) (fun r => oA (r = 0 ∨ r = 1) (some r))
set_option maxRecDepth 100000 in
theorem wX5_hasFrame {Γ : zG} (E : zE Γ cX5_hasFrame RX5 2 { frames := 0, cells := 0, slots := 0, locals := 0 }) (σ : zS) (p0 : Nat) (p1 : Int32) {R : Int32} (h : gX5_hasFrame σ p0 p1 = some R) (K : zRet Γ cX5_hasFrame 2 0 0 (some (.int R)) σ) : zJ Γ 2 0 0 σ 0 [(0, .ref p0), (1, .int p1)] [] := by
  unfold gX5_hasFrame at h
  refine zj_aload_n E dX5_hasFrame_0 rfl 0 rfl ?_
  refine zs_getI E zc5 2 (by decide) zw_15_3 rfl dX5_hasFrame_1 h (fun x1 h => ?_)
  refine zj_if_eq (tgt := 23) E dX5_hasFrame_4 (by decide) h (fun h => ?_) (fun h => ?_)
  · refine zj_iconst (v := 0) E dX5_hasFrame_23 (by decide) ?_
    have e9 := Option.some.inj h
    subst e9
    exact (show zRet Γ cX5_hasFrame 2 0 0 (some (.int 0)) σ from K) _ _ dX5_hasFrame_24
  · refine zj_iload_n E dX5_hasFrame_7 rfl 1 rfl ?_
    refine zj_if_lt (tgt := 23) E dX5_hasFrame_8 (by decide) h (fun h => ?_) (fun h => ?_)
    · refine zj_iconst (v := 0) E dX5_hasFrame_23 (by decide) ?_
      have e9 := Option.some.inj h
      subst e9
      exact (show zRet Γ cX5_hasFrame 2 0 0 (some (.int 0)) σ from K) _ _ dX5_hasFrame_24
    · refine zj_iload_n E dX5_hasFrame_11 rfl 1 rfl ?_
      refine zj_aload_n E dX5_hasFrame_12 rfl 0 rfl ?_
      refine zs_getI E zc5 7 (by decide) zw_15_7 rfl dX5_hasFrame_13 h (fun x2 h => ?_)
      refine zj_icmp_ge (tgt := 23) E dX5_hasFrame_16 (by decide) h (fun h => ?_) (fun h => ?_)
      · refine zj_iconst (v := 0) E dX5_hasFrame_23 (by decide) ?_
        have e9 := Option.some.inj h
        subst e9
        exact (show zRet Γ cX5_hasFrame 2 0 0 (some (.int 0)) σ from K) _ _ dX5_hasFrame_24
      · refine zj_iconst (v := 1) E dX5_hasFrame_19 (by decide) ?_
        refine zj_goto (tgt := 24) E dX5_hasFrame_20 (by decide) ?_
        have e9 := Option.some.inj h
        subst e9
        exact (show zRet Γ cX5_hasFrame 2 0 0 (some (.int 1)) σ from K) _ _ dX5_hasFrame_24
set_option maxRecDepth 100000 in
theorem kX5_hasFrame (l : Launch) (D : va_G) (cs : zCs) (z0 : Nat) (σ : zS) {p0 : Nat} {p1 : Int32} {r : Int32} (h : fX5_hasFrame σ p0 p1 = some r) : zM l D cs z0 yX5_hasFrame cX5_hasFrame 2 (some .boolean) { frames := 0, cells := 0, slots := 0, locals := 0 } [.ref p0, .int p1] σ (some (.int r)) σ 0 0 := by
  obtain ⟨r0, h0, h⟩ := oB_some h
  obtain ⟨hz, h⟩ := oA_some h
  cases h
  exact zM_of (by decide) rfl (Or.inr ⟨rfl, hz⟩) (Nat.le_of_ble_eq_true rfl) rfl (fun Γ e1 e2 e3 e4 E _ K => wX5_hasFrame E σ _ _ h0 K)
/-! X5_fact -/
def fX5_fact (σ : zS) (p0 : Nat) (p1 : Int32) : Option Int32 := (if p1 = 0 then oGI σ 6 p0 4 (fun x1 => some x1) else (if p1 = 1 then oGI σ 6 p0 5 (fun x2 => some x2) else (if p1 = 2 then oGI σ 6 p0 7 (fun x3 => some x3) else (if p1 = 3 then oGI σ 6 p0 6 (fun x4 => some x4) else oGI σ 6 p0 3 (fun x5 => (if x5 = 0 then some 0 else some 1))))))
set_option maxRecDepth 100000 in
theorem wX5_fact {Γ : zG} (E : zE Γ cX5_fact RX5 2 { frames := 0, cells := 0, slots := 0, locals := 0 }) (σ : zS) (p0 : Nat) (p1 : Int32) {R : Int32} (h : fX5_fact σ p0 p1 = some R) (K : zRet Γ cX5_fact 2 0 0 (some (.int R)) σ) : zJ Γ 2 0 0 σ 0 [(0, .ref p0), (1, .int p1)] [] := by
  unfold fX5_fact at h
  refine zj_iload_n E dX5_fact_0 rfl 1 rfl ?_
  by_cases e0 : p1 = 0
  · rw [if_pos e0] at h
    refine zj_tIn (tgt := 32) E e0 dX5_fact_1 (by decide) (by decide) rfl (by decide) ?_
    refine zj_aload_n E dX5_fact_32 rfl 0 rfl ?_
    refine zs_getI E zc5 4 (by decide) zw_15_5 rfl dX5_fact_33 h (fun x1 h => ?_)
    have e9 := Option.some.inj h
    subst e9
    exact (show zRet Γ cX5_fact 2 0 0 (some (.int x1)) σ from K) _ _ dX5_fact_36
  rw [if_neg e0] at h
  by_cases e1 : p1 = 1
  · rw [if_pos e1] at h
    refine zj_tIn (tgt := 37) E e1 dX5_fact_1 (by decide) (by decide) rfl (by decide) ?_
    refine zj_aload_n E dX5_fact_37 rfl 0 rfl ?_
    refine zs_getI E zc5 5 (by decide) zw_15_6 rfl dX5_fact_38 h (fun x2 h => ?_)
    have e9 := Option.some.inj h
    subst e9
    exact (show zRet Γ cX5_fact 2 0 0 (some (.int x2)) σ from K) _ _ dX5_fact_41
  rw [if_neg e1] at h
  by_cases e2 : p1 = 2
  · rw [if_pos e2] at h
    refine zj_tIn (tgt := 42) E e2 dX5_fact_1 (by decide) (by decide) rfl (by decide) ?_
    refine zj_aload_n E dX5_fact_42 rfl 0 rfl ?_
    refine zs_getI E zc5 7 (by decide) zw_15_7 rfl dX5_fact_43 h (fun x3 h => ?_)
    have e9 := Option.some.inj h
    subst e9
    exact (show zRet Γ cX5_fact 2 0 0 (some (.int x3)) σ from K) _ _ dX5_fact_46
  rw [if_neg e2] at h
  by_cases e3 : p1 = 3
  · rw [if_pos e3] at h
    refine zj_tIn (tgt := 47) E e3 dX5_fact_1 (by decide) (by decide) rfl (by decide) ?_
    refine zj_aload_n E dX5_fact_47 rfl 0 rfl ?_
    refine zs_getI E zc5 6 (by decide) zw_26_16 rfl dX5_fact_48 h (fun x4 h => ?_)
    have e9 := Option.some.inj h
    subst e9
    exact (show zRet Γ cX5_fact 2 0 0 (some (.int x4)) σ from K) _ _ dX5_fact_51
  rw [if_neg e3] at h
  refine zj_tOut (tgt := 52) E dX5_fact_1 (by have := And.intro (lv_neT (a := 0) e0 (by decide)) (And.intro (lv_neT (a := 1) e1 (by decide)) (And.intro (lv_neT (a := 2) e2 (by decide)) (lv_neT (a := 3) e3 (by decide)))); omega) (by decide) ?_
  refine zj_aload_n E dX5_fact_52 rfl 0 rfl ?_
  refine zs_getI E zc5 3 (by decide) zw_15_4 rfl dX5_fact_53 h (fun x5 h => ?_)
  refine zj_if_eq (tgt := 63) E dX5_fact_56 (by decide) h (fun h => ?_) (fun h => ?_)
  · refine zj_iconst (v := 0) E dX5_fact_63 (by decide) ?_
    have e9 := Option.some.inj h
    subst e9
    exact (show zRet Γ cX5_fact 2 0 0 (some (.int 0)) σ from K) _ _ dX5_fact_64
  · refine zj_iconst (v := 1) E dX5_fact_59 (by decide) ?_
    refine zj_goto (tgt := 64) E dX5_fact_60 (by decide) ?_
    have e9 := Option.some.inj h
    subst e9
    exact (show zRet Γ cX5_fact 2 0 0 (some (.int 1)) σ from K) _ _ dX5_fact_64
set_option maxRecDepth 100000 in
theorem kX5_fact (l : Launch) (D : va_G) (cs : zCs) (z0 : Nat) (σ : zS) {p0 : Nat} {p1 : Int32} {r : Int32} (h : fX5_fact σ p0 p1 = some r) : zM l D cs z0 yX5_fact cX5_fact 2 (some .int) { frames := 0, cells := 0, slots := 0, locals := 0 } [.ref p0, .int p1] σ (some (.int r)) σ 0 0 := by
  exact zM_of (by decide) rfl (Or.inl rfl) (Nat.le_of_ble_eq_true rfl) rfl (fun Γ e1 e2 e3 e4 E _ K => wX5_fact E σ _ _ h K)
/-! X7_forget -/
def fX7_forget (σ : zS) (p0 : Nat) : Option zS := oPI σ 7 p0 2 0 (fun σ1 => oPI σ1 7 p0 3 0 (fun σ2 => some σ2))
set_option maxRecDepth 100000 in
theorem wX7_forget {Γ : zG} (E : zE Γ cX7_forget RX7 1 { frames := 0, cells := 0, slots := 0, locals := 0 }) (σ : zS) (p0 : Nat) {R : zS} (h : fX7_forget σ p0 = some R) (K : zRet Γ cX7_forget 1 0 0 (none) R) : zJ Γ 1 0 0 σ 0 [(0, .ref p0)] [] := by
  unfold fX7_forget at h
  refine zj_aload_n E dX7_forget_0 rfl 0 rfl ?_
  refine zj_iconst (v := 0) E dX7_forget_1 (by decide) ?_
  refine zs_putI E zc6 2 (by decide) zw_17_11 rfl rfl dX7_forget_2 h (fun σ1 h => ?_)
  refine zj_aload_n E dX7_forget_5 rfl 0 rfl ?_
  refine zj_iconst (v := 0) E dX7_forget_6 (by decide) ?_
  refine zs_putI E zc6 3 (by decide) zw_17_12 rfl rfl dX7_forget_7 h (fun σ2 h => ?_)
  have e9 := Option.some.inj h
  subst e9
  exact (show zRet Γ cX7_forget 1 0 0 (none) σ2 from K) _ _ dX7_forget_10
set_option maxRecDepth 100000 in
theorem kX7_forget (l : Launch) (D : va_G) (cs : zCs) (z0 : Nat) (σ : zS) {p0 : Nat}  {σ' : zS} (h : fX7_forget σ p0 = some σ') : zM l D cs z0 yX7_forget cX7_forget 1 none { frames := 0, cells := 0, slots := 0, locals := 0 } [.ref p0] σ none σ' 0 0 := by
  exact zM_of (by decide) rfl rfl (Nat.le_of_ble_eq_true rfl) rfl (fun Γ e1 e2 e3 e4 E _ K => wX7_forget E σ _ h K)
/-! X7_has -/
def gX7_has (σ : zS) (p0 : Nat) (p1 : Int32) (p2 : Int32) : Option Int32 := (if p1 < 0 then some 0 else oGI σ 7 p0 2 (fun x1 => (if x1 ≤ p1 then some 0 else (if p2 < 0 then some 0 else oGI σ 7 p0 3 (fun x2 => (if x2 ≤ p2 then some 0 else some 1))))))
def fX7_has (σ : zS) (p0 : Nat) (p1 : Int32) (p2 : Int32) : Option Int32 := oB (gX7_has σ p0 p1 p2) (fun r => oA (r = 0 ∨ r = 1) (some r))
set_option maxRecDepth 100000 in
theorem wX7_has {Γ : zG} (E : zE Γ cX7_has RX7 3 { frames := 0, cells := 0, slots := 0, locals := 0 }) (σ : zS) (p0 : Nat) (p1 : Int32) (p2 : Int32) {R : Int32} (h : gX7_has σ p0 p1 p2 = some R) (K : zRet Γ cX7_has 3 0 0 (some (.int R)) σ) : zJ Γ 3 0 0 σ 0 [(0, .ref p0), (1, .int p1), (2, .int p2)] [] := by
  unfold gX7_has at h
  refine zj_iload_n E dX7_has_0 rfl 1 rfl ?_
  refine zj_if_lt (tgt := 28) E dX7_has_1 (by decide) h (fun h => ?_) (fun h => ?_)
  · refine zj_iconst (v := 0) E dX7_has_28 (by decide) ?_
    have e9 := Option.some.inj h
    subst e9
    exact (show zRet Γ cX7_has 3 0 0 (some (.int 0)) σ from K) _ _ dX7_has_29
  · refine zj_iload_n E dX7_has_4 rfl 1 rfl ?_
    refine zj_aload_n E dX7_has_5 rfl 0 rfl ?_
    refine zs_getI E zc6 2 (by decide) zw_17_11 rfl dX7_has_6 h (fun x1 h => ?_)
    refine zj_icmp_ge (tgt := 28) E dX7_has_9 (by decide) h (fun h => ?_) (fun h => ?_)
    · refine zj_iconst (v := 0) E dX7_has_28 (by decide) ?_
      have e9 := Option.some.inj h
      subst e9
      exact (show zRet Γ cX7_has 3 0 0 (some (.int 0)) σ from K) _ _ dX7_has_29
    · refine zj_iload_n E dX7_has_12 rfl 2 rfl ?_
      refine zj_if_lt (tgt := 28) E dX7_has_13 (by decide) h (fun h => ?_) (fun h => ?_)
      · refine zj_iconst (v := 0) E dX7_has_28 (by decide) ?_
        have e9 := Option.some.inj h
        subst e9
        exact (show zRet Γ cX7_has 3 0 0 (some (.int 0)) σ from K) _ _ dX7_has_29
      · refine zj_iload_n E dX7_has_16 rfl 2 rfl ?_
        refine zj_aload_n E dX7_has_17 rfl 0 rfl ?_
        refine zs_getI E zc6 3 (by decide) zw_17_12 rfl dX7_has_18 h (fun x2 h => ?_)
        refine zj_icmp_ge (tgt := 28) E dX7_has_21 (by decide) h (fun h => ?_) (fun h => ?_)
        · refine zj_iconst (v := 0) E dX7_has_28 (by decide) ?_
          have e9 := Option.some.inj h
          subst e9
          exact (show zRet Γ cX7_has 3 0 0 (some (.int 0)) σ from K) _ _ dX7_has_29
        · refine zj_iconst (v := 1) E dX7_has_24 (by decide) ?_
          refine zj_goto (tgt := 29) E dX7_has_25 (by decide) ?_
          have e9 := Option.some.inj h
          subst e9
          exact (show zRet Γ cX7_has 3 0 0 (some (.int 1)) σ from K) _ _ dX7_has_29
set_option maxRecDepth 100000 in
theorem kX7_has (l : Launch) (D : va_G) (cs : zCs) (z0 : Nat) (σ : zS) {p0 : Nat} {p1 : Int32} {p2 : Int32} {r : Int32} (h : fX7_has σ p0 p1 p2 = some r) : zM l D cs z0 yX7_has cX7_has 3 (some .boolean) { frames := 0, cells := 0, slots := 0, locals := 0 } [.ref p0, .int p1, .int p2] σ (some (.int r)) σ 0 0 := by
  obtain ⟨r0, h0, h⟩ := oB_some h
  obtain ⟨hz, h⟩ := oA_some h
  cases h
  exact zM_of (by decide) rfl (Or.inr ⟨rfl, hz⟩) (Nat.le_of_ble_eq_true rfl) rfl (fun Γ e1 e2 e3 e4 E _ K => wX7_has E σ _ _ _ h0 K)
/-! X7_copy -/
def fX7_copy (σ : zS) (p0 : Nat) (p1 : Nat) : Option zS := oGI σ 4 p1 1 (fun x1 => oPI σ 7 p0 2 x1 (fun σ1 => oGI σ1 4 p1 2 (fun x2 => oPI σ1 7 p0 3 x2 (fun σ2 => oGR σ2 4 p1 0 (fun a1 => oGR σ2 7 p0 0 (fun a2 => oCp σ2 a1 0 a2 0 256 (fun σ3 => some σ3)))))))
set_option maxRecDepth 100000 in
theorem wX7_copy {Γ : zG} (E : zE Γ cX7_copy RX7 2 { frames := 1, cells := 0, slots := 0, locals := 40 }) (σ : zS) (p0 : Nat) (p1 : Nat) {R : zS} (h : fX7_copy σ p0 p1 = some R) (K : zRet Γ cX7_copy 2 0 0 (none) R) : zJ Γ 2 0 0 σ 0 [(0, .ref p0), (1, .ref p1)] [] := by
  unfold fX7_copy at h
  refine zj_aload_n E dX7_copy_0 rfl 0 rfl ?_
  refine zj_aload_n E dX7_copy_1 rfl 1 rfl ?_
  refine zs_getIN E zc3 1 (by decide) (znf_19) rfl dX7_copy_2 h (fun x1 h => ?_)
  refine zs_putI E zc6 2 (by decide) zw_17_11 rfl rfl dX7_copy_5 h (fun σ1 h => ?_)
  refine zj_aload_n E dX7_copy_8 rfl 0 rfl ?_
  refine zj_aload_n E dX7_copy_9 rfl 1 rfl ?_
  refine zs_getIN E zc3 2 (by decide) (znf_24) rfl dX7_copy_10 h (fun x2 h => ?_)
  refine zs_putI E zc6 3 (by decide) zw_17_12 rfl rfl dX7_copy_13 h (fun σ2 h => ?_)
  refine zj_aload_n E dX7_copy_16 rfl 1 rfl ?_
  refine zs_getRN E zc3 0 (by decide) (znf_14) rfl dX7_copy_17 h (fun a1 h => ?_)
  refine zj_iconst (v := 0) E dX7_copy_20 (by decide) ?_
  refine zj_aload_n E dX7_copy_21 rfl 0 rfl ?_
  refine zs_getR E zc6 0 (by decide) zw_5_20 rfl dX7_copy_22 h (fun a2 h => ?_)
  refine zj_iconst (v := 0) E dX7_copy_25 (by decide) ?_
  refine zj_sipush (v := 256) E dX7_copy_26 (by decide) ?_
  refine zs_copy E zw_27_15 zw_27_16 zw_27_17 zw_27_18 (by decide) (Nat.le_of_ble_eq_true rfl) dX7_copy_29 h (fun σ3 h => ?_)
  have e9 := Option.some.inj h
  subst e9
  exact (show zRet Γ cX7_copy 2 0 0 (none) σ3 from K) _ _ dX7_copy_32
set_option maxRecDepth 100000 in
theorem kX7_copy (l : Launch) (D : va_G) (cs : zCs) (z0 : Nat) (σ : zS) {p0 : Nat} {p1 : Nat}  {σ' : zS} (h : fX7_copy σ p0 p1 = some σ') : zM l D cs z0 yX7_copy cX7_copy 2 none { frames := 1, cells := 0, slots := 0, locals := 40 } [.ref p0, .ref p1] σ none σ' 0 0 := by
  exact zM_of (by decide) rfl rfl (Nat.le_of_ble_eq_true rfl) rfl (fun Γ e1 e2 e3 e4 E _ K => wX7_copy E σ _ _ h K)
/-! X7_blended -/
def fX7_blended_17 (σ : zS) (l0 : Int32) (l1 : Int32) (l2 : Int32) : Option Int32 := (if l2 = 0 then some l1 else some l0)
set_option maxRecDepth 100000 in
theorem wX7_blended_17 {Γ : zG} (E : zE Γ cX7_blended RX7 9 { frames := 0, cells := 0, slots := 0, locals := 0 }) (σ : zS) (l0 : Int32) (l1 : Int32) (l2 : Int32) {R : Int32} (h : fX7_blended_17 σ l0 l1 l2 = some R) (K : zRet Γ cX7_blended 9 0 0 (some (.int R)) σ) : zJ Γ 9 0 0 σ 17 [(0, .int l0), (1, .int l1), (2, .int l2)] [] := by
  unfold fX7_blended_17 at h
  refine zj_iload_n E dX7_blended_17 rfl 2 rfl ?_
  refine zj_if_ne (tgt := 25) E dX7_blended_18 (by decide) h (fun h => ?_) (fun h => ?_)
  · refine zj_iload_n E dX7_blended_25 rfl 0 rfl ?_
    have e9 := Option.some.inj h
    subst e9
    exact (show zRet Γ cX7_blended 9 0 0 (some (.int l0)) σ from K) _ _ dX7_blended_26
  · refine zj_iload_n E dX7_blended_21 rfl 1 rfl ?_
    refine zj_goto (tgt := 26) E dX7_blended_22 (by decide) ?_
    have e9 := Option.some.inj h
    subst e9
    exact (show zRet Γ cX7_blended 9 0 0 (some (.int l1)) σ from K) _ _ dX7_blended_26
def jX7_blended_60 (Γ : zG) (σ : zS) (l0 : Int32) (l1 : Int32) (l2 : Int32) (l3 : Int32) (l4 : Int32) : (Int32 × Int32) → Prop := fun x => zJ Γ 9 0 0 σ 60 [(0, .int l0), (1, .int l1), (2, .int l2), (3, .int l3), (4, .int l4), (5, .int x.1), (6, .int x.2)] []
def eX7_blended_60 (Γ : zG) (σ : zS) (l0 : Int32) (l1 : Int32) (l2 : Int32) (l3 : Int32) (l4 : Int32) : Int32 → Prop := fun b => zJ Γ 9 0 0 σ 123 [(5, .int b)] []
def bX7_blended_60 (σ : zS) (l0 : Int32) (l1 : Int32) (l2 : Int32) (l3 : Int32) (l4 : Int32) (l5 : Int32) (l6 : Int32) : Option ((Int32 × Int32) ⊕ Int32) := (if (24 : Int32) < l6 then some (.inr l5) else oL (((((l0.toUInt32 >>> (l6.toUInt32 &&& Int32.toUInt32 31)).toInt32) &&& (255 : Int32)) * l2) * (255 : Int32)) (fun v5 => oL (((((l1.toUInt32 >>> (l6.toUInt32 &&& Int32.toUInt32 31)).toInt32) &&& (255 : Int32)) * l3) * ((255 : Int32) - l2)) (fun v6 => oA (¬ l4 = 0) (oL (l5 ||| (((v5 + v6) / l4) <<< (l6 &&& 31))) (fun v7 => oL (l6 + 8) (fun v8 => some (.inl (v7, v8))))))))
set_option maxRecDepth 100000 in
theorem wX7_blended_L60 {Γ : zG} (E : zE Γ cX7_blended RX7 9 { frames := 0, cells := 0, slots := 0, locals := 0 }) (σ : zS) (l0 : Int32) (l1 : Int32) (l2 : Int32) (l3 : Int32) (l4 : Int32) : ∀ x R, (fun x => bX7_blended_60 σ l0 l1 l2 l3 l4 x.1 x.2) x = some R → Sum.elim (jX7_blended_60 Γ σ l0 l1 l2 l3 l4) (eX7_blended_60 Γ σ l0 l1 l2 l3 l4) R → jX7_blended_60 Γ σ l0 l1 l2 l3 l4 x := by
  intro x R h K
  obtain ⟨l5, l6⟩ := x
  have h : bX7_blended_60 σ l0 l1 l2 l3 l4 l5 l6 = some R := h
  show zJ Γ 9 0 0 σ 60 [(0, .int l0), (1, .int l1), (2, .int l2), (3, .int l3), (4, .int l4), (5, .int l5), (6, .int l6)] []
  unfold bX7_blended_60 at h
  refine zj_iload E dX7_blended_60 6 rfl ?_
  refine zj_bipush (v := 24) E dX7_blended_62 (by decide) ?_
  refine zj_icmp_gt (tgt := 123) E dX7_blended_64 (by decide) h (fun h => ?_) (fun h => ?_)
  · have e9 := Option.some.inj h
    subst e9
    refine zj_lv [5] rfl ?_
    exact K
  · refine zj_iload_n E dX7_blended_67 rfl 0 rfl ?_
    refine zj_iload E dX7_blended_68 6 rfl ?_
    refine zj_iushr E dX7_blended_70 ?_
    refine zj_sipush (v := 255) E dX7_blended_71 (by decide) ?_
    refine zj_iand E dX7_blended_74 ?_
    refine zj_iload_n E dX7_blended_75 rfl 2 rfl ?_
    refine zj_imul E dX7_blended_76 ?_
    refine zj_sipush (v := 255) E dX7_blended_77 (by decide) ?_
    refine zj_imul E dX7_blended_80 ?_
    refine zs_istore (lv2 := fun v5 => [(7, .int v5), (0, .int l0), (1, .int l1), (2, .int l2), (3, .int l3), (4, .int l4), (5, .int l5), (6, .int l6)]) E dX7_blended_81 (by decide) (fun _ => rfl) h (fun v5 h => ?_)
    refine zj_iload_n E dX7_blended_83 rfl 2 rfl ?_
    refine zj_iload E dX7_blended_84 7 rfl ?_
    refine zj_iushr E dX7_blended_86 ?_
    refine zj_sipush (v := 255) E dX7_blended_87 (by decide) ?_
    refine zj_iand E dX7_blended_90 ?_
    refine zj_iload_n E dX7_blended_91 rfl 4 rfl ?_
    refine zj_imul E dX7_blended_92 ?_
    refine zj_sipush (v := 255) E dX7_blended_93 (by decide) ?_
    refine zj_iload_n E dX7_blended_96 rfl 3 rfl ?_
    refine zj_isub E dX7_blended_97 ?_
    refine zj_imul E dX7_blended_98 ?_
    refine zs_istore (lv2 := fun v6 => [(8, .int v6), (7, .int v5), (0, .int l0), (1, .int l1), (2, .int l2), (3, .int l3), (4, .int l4), (5, .int l5), (6, .int l6)]) E dX7_blended_99 (by decide) (fun _ => rfl) h (fun v6 h => ?_)
    refine zj_iload E dX7_blended_101 7 rfl ?_
    refine zj_iload E dX7_blended_103 1 rfl ?_
    refine zj_iload E dX7_blended_105 0 rfl ?_
    refine zj_iadd E dX7_blended_107 ?_
    refine zj_iload E dX7_blended_108 6 rfl ?_
    obtain ⟨hne, h⟩ := oA_some h
    refine zj_idiv E dX7_blended_110 hne ?_
    refine zj_iload E dX7_blended_111 8 rfl ?_
    refine zj_ishl E dX7_blended_113 ?_
    refine zj_ior E dX7_blended_114 ?_
    refine zs_istore (lv2 := fun v7 => [(5, .int v7), (8, .int v6), (7, .int v5), (0, .int l0), (1, .int l1), (2, .int l2), (3, .int l3), (4, .int l4), (6, .int l6)]) E dX7_blended_115 (by decide) (fun _ => rfl) h (fun v7 h => ?_)
    refine zs_iinc (lv2 := fun v8 => [(6, .int v8), (5, .int v7), (8, .int v6), (7, .int v5), (0, .int l0), (1, .int l1), (2, .int l2), (3, .int l3), (4, .int l4)]) E dX7_blended_117 8 rfl (by decide) (by decide) (fun _ => rfl) h (fun v8 h => ?_)
    refine zj_goto (tgt := 60) E dX7_blended_120 (by decide) ?_
    have e9 := Option.some.inj h
    subst e9
    refine zj_lv [4, 5, 6, 7, 8, 1, 0] rfl ?_
    exact K
def fX7_blended (σ : zS) (p0 : Int32) (p1 : Int32) : Option Int32 := oL (p0 &&& (255 : Int32)) (fun v1 => (if v1 = 0 then fX7_blended_17 σ p0 p1 v1 else (if v1 = (255 : Int32) then fX7_blended_17 σ p0 p1 v1 else oL (p1 &&& (255 : Int32)) (fun v2 => oL ((v1 * (255 : Int32)) + (((255 : Int32) - v1) * v2)) (fun v3 => oL (v3 / (255 : Int32)) (fun v4 => oB (zloop zF (fun x => bX7_blended_60 σ p0 p1 v1 v2 v3 x.1 x.2) (v4, 8)) (fun b1 => (fun v9 => some v9) b1)))))))
set_option maxRecDepth 100000 in
theorem wX7_blended {Γ : zG} (E : zE Γ cX7_blended RX7 9 { frames := 0, cells := 0, slots := 0, locals := 0 }) (σ : zS) (p0 : Int32) (p1 : Int32) {R : Int32} (h : fX7_blended σ p0 p1 = some R) (K : zRet Γ cX7_blended 9 0 0 (some (.int R)) σ) : zJ Γ 9 0 0 σ 0 [(0, .int p0), (1, .int p1)] [] := by
  unfold fX7_blended at h
  refine zj_iload_n E dX7_blended_0 rfl 0 rfl ?_
  refine zj_sipush (v := 255) E dX7_blended_1 (by decide) ?_
  refine zj_iand E dX7_blended_4 ?_
  refine zs_istore_n (lv2 := fun v1 => [(2, .int v1), (0, .int p0), (1, .int p1)]) E dX7_blended_5 rfl (by decide) (fun _ => rfl) h (fun v1 h => ?_)
  refine zj_iload_n E dX7_blended_6 rfl 0 rfl ?_
  refine zj_if_eq (tgt := 17) E dX7_blended_7 (by decide) h (fun h => ?_) (fun h => ?_)
  · refine zj_lv [1, 2, 0] rfl ?_
    exact wX7_blended_17 E _ _ _ _ h K
  · refine zj_iload_n E dX7_blended_10 rfl 0 rfl ?_
    refine zj_sipush (v := 255) E dX7_blended_11 (by decide) ?_
    refine zj_icmp_ne (tgt := 27) E dX7_blended_14 (by decide) h (fun h => ?_) (fun h => ?_)
    · refine zj_iload_n E dX7_blended_27 rfl 2 rfl ?_
      refine zj_sipush (v := 255) E dX7_blended_28 (by decide) ?_
      refine zj_iand E dX7_blended_31 ?_
      refine zs_istore_n (lv2 := fun v2 => [(3, .int v2), (2, .int v1), (0, .int p0), (1, .int p1)]) E dX7_blended_32 rfl (by decide) (fun _ => rfl) h (fun v2 h => ?_)
      refine zj_iload_n E dX7_blended_33 rfl 1 rfl ?_
      refine zj_sipush (v := 255) E dX7_blended_34 (by decide) ?_
      refine zj_imul E dX7_blended_37 ?_
      refine zj_sipush (v := 255) E dX7_blended_38 (by decide) ?_
      refine zj_iload_n E dX7_blended_41 rfl 1 rfl ?_
      refine zj_isub E dX7_blended_42 ?_
      refine zj_iload_n E dX7_blended_43 rfl 0 rfl ?_
      refine zj_imul E dX7_blended_44 ?_
      refine zj_iadd E dX7_blended_45 ?_
      refine zs_istore (lv2 := fun v3 => [(4, .int v3), (3, .int v2), (2, .int v1), (0, .int p0), (1, .int p1)]) E dX7_blended_46 (by decide) (fun _ => rfl) h (fun v3 h => ?_)
      refine zj_iload E dX7_blended_48 0 rfl ?_
      refine zj_sipush (v := 255) E dX7_blended_50 (by decide) ?_
      refine zj_idiv E dX7_blended_53 (by decide) ?_
      refine zs_istore (lv2 := fun v4 => [(5, .int v4), (4, .int v3), (3, .int v2), (2, .int v1), (0, .int p0), (1, .int p1)]) E dX7_blended_54 (by decide) (fun _ => rfl) h (fun v4 h => ?_)
      refine zj_bipush (v := 8) E dX7_blended_56 (by decide) ?_
      refine zj_istore (lv2 := [(6, .int 8), (5, .int v4), (4, .int v3), (3, .int v2), (2, .int v1), (0, .int p0), (1, .int p1)]) E dX7_blended_58 (by decide) rfl ?_
      obtain ⟨b1, hb1, h⟩ := oB_some h
      refine zj_lv [5, 6, 4, 3, 2, 1, 0] rfl ?_
      refine zj_loop (wX7_blended_L60 E σ p0 p1 v1 v2 v3) zF (v4, 8) b1 hb1 ?_
      obtain ⟨v9, rfl⟩ : ∃ z, z = b1 := ⟨_, rfl⟩
      try dsimp only at h
      show zJ Γ 9 0 0 σ 123 [(5, .int v9)] []
      refine zj_iload E dX7_blended_123 0 rfl ?_
      have e9 := Option.some.inj h
      subst e9
      exact (show zRet Γ cX7_blended 9 0 0 (some (.int v9)) σ from K) _ _ dX7_blended_125
    · refine zj_lv [1, 2, 0] rfl ?_
      exact wX7_blended_17 E _ _ _ _ h K
set_option maxRecDepth 100000 in
theorem kX7_blended (l : Launch) (D : va_G) (cs : zCs) (z0 : Nat) (σ : zS) {p0 : Int32} {p1 : Int32} {r : Int32} (h : fX7_blended σ p0 p1 = some r) : zM l D cs z0 yX7_blended cX7_blended 9 (some .int) { frames := 0, cells := 0, slots := 0, locals := 0 } [.int p0, .int p1] σ (some (.int r)) σ 0 0 := by
  exact zM_of (by decide) rfl (Or.inl rfl) (Nat.le_of_ble_eq_true rfl) rfl (fun Γ e1 e2 e3 e4 E _ K => wX7_blended E σ _ _ h K)
