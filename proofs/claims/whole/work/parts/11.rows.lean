section ZROWS
variable {Γ : zG} {cc : ByteArray} {own : String} {rm : Room} {nL k n pc : Nat} {σ : zS} {lv lv2 : List (Nat × Value)} {st : List Value}
theorem zj_iconst (E : zE Γ cc own nL rm) {c : Int} {v : Int32} (hd : decode cc pc = .ok (.iconst c, 1)) (hv : Int32.ofInt c = v) (kk : zJ Γ nL k n σ (pc + 1) lv (.int v :: st)) : zJ Γ nL k n σ pc lv st := fun H locs ls hP hS hl => lv_iconst E.hx E.hb hd hv (kk H locs ls hP hS hl)
theorem zj_bipush (E : zE Γ cc own nL rm) {c : Int} {v : Int32} (hd : decode cc pc = .ok (.bipush c, 2)) (hv : (Int8.ofInt c).toInt32 = v) (kk : zJ Γ nL k n σ (pc + 2) lv (.int v :: st)) : zJ Γ nL k n σ pc lv st := fun H locs ls hP hS hl => lv_bipush E.hx E.hb hd hv (kk H locs ls hP hS hl)
theorem zj_sipush (E : zE Γ cc own nL rm) {c : Int} {v : Int32} (hd : decode cc pc = .ok (.sipush c, 3)) (hv : (Int16.ofInt c).toInt32 = v) (kk : zJ Γ nL k n σ (pc + 3) lv (.int v :: st)) : zJ Γ nL k n σ pc lv st := fun H locs ls hP hS hl => lv_sipush E.hx E.hb hd hv (kk H locs ls hP hS hl)
theorem zj_ldc (E : zE Γ cc own nL rm) {i : Nat} {v : Int32} (hw : Cond.constant own i v ∈ wsL_law0) (hd : decode cc pc = .ok (.ldc i, 2)) (kk : zJ Γ nL k n σ (pc + 2) lv (.int v :: st)) : zJ Γ nL k n σ pc lv st := fun H locs ls hP hS hl => lv_ldc E.hx E.hb E.ho (E.ht _ hw) hd (kk H locs ls hP hS hl)
theorem zj_iload_n (E : zE Γ cc own nL rm) {f : Fin 4} {i : Nat} {x : Int32} (hd : decode cc pc = .ok (.iload_n f, 1)) (hi : (f : Nat) = i) (q : Nat) (hq : lv[q]? = some (i, .int x)) (kk : zJ Γ nL k n σ (pc + 1) lv (.int x :: st)) : zJ Γ nL k n σ pc lv st := fun H locs ls hP hS hl => lv_iload_n E.hx E.hb hd hi (lv_at hl q hq) (kk H locs ls hP hS hl)
theorem zj_iload (E : zE Γ cc own nL rm) {i : Nat} {x : Int32} (hd : decode cc pc = .ok (.iload i, 2)) (q : Nat) (hq : lv[q]? = some (i, .int x)) (kk : zJ Γ nL k n σ (pc + 2) lv (.int x :: st)) : zJ Γ nL k n σ pc lv st := fun H locs ls hP hS hl => lv_iload E.hx E.hb hd (lv_at hl q hq) (kk H locs ls hP hS hl)
theorem zj_aload_n (E : zE Γ cc own nL rm) {f : Fin 4} {i x : Nat} (hd : decode cc pc = .ok (.aload_n f, 1)) (hi : (f : Nat) = i) (q : Nat) (hq : lv[q]? = some (i, .ref x)) (kk : zJ Γ nL k n σ (pc + 1) lv (.ref x :: st)) : zJ Γ nL k n σ pc lv st := fun H locs ls hP hS hl => lv_aload_n E.hx E.hb hd hi (lv_at hl q hq) (kk H locs ls hP hS hl)
theorem zj_aload (E : zE Γ cc own nL rm) {i x : Nat} (hd : decode cc pc = .ok (.aload i, 2)) (q : Nat) (hq : lv[q]? = some (i, .ref x)) (kk : zJ Γ nL k n σ (pc + 2) lv (.ref x :: st)) : zJ Γ nL k n σ pc lv st := fun H locs ls hP hS hl => lv_aload E.hx E.hb hd (lv_at hl q hq) (kk H locs ls hP hS hl)
theorem zj_istore_n (E : zE Γ cc own nL rm) {i : Nat} {x : Int32} {f : Fin 4} (hd : decode cc pc = .ok (.istore_n f, 1)) (hi : (f : Nat) = i) (hn : i < nL) (hl2 : (i, Value.int x) :: lv.filter (fun q => !(q.1 == i) && !(q.1 + 1 == i && q.2.category == 2)) = lv2) (kk : zJ Γ nL k n σ (pc + 1) lv2 st) : zJ Γ nL k n σ pc lv (.int x :: st) := fun H locs ls hP hS hl => lv_istore_n E.hx E.hb hd hi hl hn hl2 (fun ls' h' => kk H locs ls' hP hS h')
theorem zj_astore_n (E : zE Γ cc own nL rm) {i x : Nat} {f : Fin 4} (hd : decode cc pc = .ok (.astore_n f, 1)) (hi : (f : Nat) = i) (hn : i < nL) (hl2 : (i, Value.ref x) :: lv.filter (fun q => !(q.1 == i) && !(q.1 + 1 == i && q.2.category == 2)) = lv2) (kk : zJ Γ nL k n σ (pc + 1) lv2 st) : zJ Γ nL k n σ pc lv (.ref x :: st) := fun H locs ls hP hS hl => lv_astore_n E.hx E.hb hd hi hl hn hl2 (fun ls' h' => kk H locs ls' hP hS h')
theorem zj_istore (E : zE Γ cc own nL rm) {i : Nat} {x : Int32} (hd : decode cc pc = .ok (.istore i, 2)) (hn : i < nL) (hl2 : (i, Value.int x) :: lv.filter (fun q => !(q.1 == i) && !(q.1 + 1 == i && q.2.category == 2)) = lv2) (kk : zJ Γ nL k n σ (pc + 2) lv2 st) : zJ Γ nL k n σ pc lv (.int x :: st) := fun H locs ls hP hS hl => lv_istore E.hx E.hb hd hl hn hl2 (fun ls' h' => kk H locs ls' hP hS h')
theorem zj_astore (E : zE Γ cc own nL rm) {i x : Nat} (hd : decode cc pc = .ok (.astore i, 2)) (hn : i < nL) (hl2 : (i, Value.ref x) :: lv.filter (fun q => !(q.1 == i) && !(q.1 + 1 == i && q.2.category == 2)) = lv2) (kk : zJ Γ nL k n σ (pc + 2) lv2 st) : zJ Γ nL k n σ pc lv (.ref x :: st) := fun H locs ls hP hS hl => lv_astore E.hx E.hb hd hl hn hl2 (fun ls' h' => kk H locs ls' hP hS h')
theorem zj_iinc (E : zE Γ cc own nL rm) {i : Nat} {c : Int} {x : Int32} (hd : decode cc pc = .ok (.iinc i c, 3)) (q : Nat) (hq : lv[q]? = some (i, .int x)) (v : Int32) (hv : v = x + Int32.ofInt c) (hn : i < nL) (hl2 : (i, Value.int v) :: lv.filter (fun q => !(q.1 == i) && !(q.1 + 1 == i && q.2.category == 2)) = lv2) (kk : zJ Γ nL k n σ (pc + 3) lv2 st) : zJ Γ nL k n σ pc lv st := fun H locs ls hP hS hl => lv_iinc E.hx E.hb hd hl hq hv.symm hn hl2 (fun ls' h' => kk H locs ls' hP hS h')
theorem zj_top {x : Int32} (y : Int32) (hy : y = x) (kk : zJ Γ nL k n σ pc lv (.int y :: st)) : zJ Γ nL k n σ pc lv (.int x :: st) := hy ▸ kk
theorem zj_lv (qs : List Nat) (h : lv_pick lv qs = lv2) (kk : zJ Γ nL k n σ pc lv2 st) : zJ Γ nL k n σ pc lv st := fun H locs ls hP hS hl => kk H locs ls hP hS (lv_sub hl qs h)
theorem zj_iadd (E : zE Γ cc own nL rm) {x y : Int32} (hd : decode cc pc = .ok (.iadd, 1)) (kk : zJ Γ nL k n σ (pc + 1) lv (.int (x + y) :: st)) : zJ Γ nL k n σ pc lv (.int y :: .int x :: st) := fun H locs ls hP hS hl => lv_iadd E.hx E.hb hd (kk H locs ls hP hS hl)
theorem zj_isub (E : zE Γ cc own nL rm) {x y : Int32} (hd : decode cc pc = .ok (.isub, 1)) (kk : zJ Γ nL k n σ (pc + 1) lv (.int (x - y) :: st)) : zJ Γ nL k n σ pc lv (.int y :: .int x :: st) := fun H locs ls hP hS hl => lv_isub E.hx E.hb hd (kk H locs ls hP hS hl)
theorem zj_imul (E : zE Γ cc own nL rm) {x y : Int32} (hd : decode cc pc = .ok (.imul, 1)) (kk : zJ Γ nL k n σ (pc + 1) lv (.int (x * y) :: st)) : zJ Γ nL k n σ pc lv (.int y :: .int x :: st) := fun H locs ls hP hS hl => lv_imul E.hx E.hb hd (kk H locs ls hP hS hl)
theorem zj_iand (E : zE Γ cc own nL rm) {x y : Int32} (hd : decode cc pc = .ok (.iand, 1)) (kk : zJ Γ nL k n σ (pc + 1) lv (.int (x &&& y) :: st)) : zJ Γ nL k n σ pc lv (.int y :: .int x :: st) := fun H locs ls hP hS hl => lv_iand E.hx E.hb hd (kk H locs ls hP hS hl)
theorem zj_ior (E : zE Γ cc own nL rm) {x y : Int32} (hd : decode cc pc = .ok (.ior, 1)) (kk : zJ Γ nL k n σ (pc + 1) lv (.int (x ||| y) :: st)) : zJ Γ nL k n σ pc lv (.int y :: .int x :: st) := fun H locs ls hP hS hl => lv_ior E.hx E.hb hd (kk H locs ls hP hS hl)
theorem zj_ixor (E : zE Γ cc own nL rm) {x y : Int32} (hd : decode cc pc = .ok (.ixor, 1)) (kk : zJ Γ nL k n σ (pc + 1) lv (.int (x ^^^ y) :: st)) : zJ Γ nL k n σ pc lv (.int y :: .int x :: st) := fun H locs ls hP hS hl => lv_ixor E.hx E.hb hd (kk H locs ls hP hS hl)
theorem zj_ishl (E : zE Γ cc own nL rm) {x y : Int32} (hd : decode cc pc = .ok (.ishl, 1)) (kk : zJ Γ nL k n σ (pc + 1) lv (.int (x <<< (y &&& 31)) :: st)) : zJ Γ nL k n σ pc lv (.int y :: .int x :: st) := fun H locs ls hP hS hl => lv_ishl E.hx E.hb hd (kk H locs ls hP hS hl)
theorem zj_ishr (E : zE Γ cc own nL rm) {x y : Int32} (hd : decode cc pc = .ok (.ishr, 1)) (kk : zJ Γ nL k n σ (pc + 1) lv (.int (x >>> (y &&& 31)) :: st)) : zJ Γ nL k n σ pc lv (.int y :: .int x :: st) := fun H locs ls hP hS hl => lv_ishr E.hx E.hb hd (kk H locs ls hP hS hl)
theorem zj_iushr (E : zE Γ cc own nL rm) {x y : Int32} (hd : decode cc pc = .ok (.iushr, 1)) (kk : zJ Γ nL k n σ (pc + 1) lv (.int ((x.toUInt32 >>> (y.toUInt32 &&& Int32.toUInt32 31)).toInt32) :: st)) : zJ Γ nL k n σ pc lv (.int y :: .int x :: st) := fun H locs ls hP hS hl => lv_iushr E.hx E.hb hd rfl (kk H locs ls hP hS hl)
theorem zj_idiv (E : zE Γ cc own nL rm) {x y : Int32} (hd : decode cc pc = .ok (.idiv, 1)) (hne : ¬ y = 0) (kk : zJ Γ nL k n σ (pc + 1) lv (.int (x / y) :: st)) : zJ Γ nL k n σ pc lv (.int y :: .int x :: st) := fun H locs ls hP hS hl => lv_idiv E.hx E.hb hd hne (kk H locs ls hP hS hl)
theorem zj_irem (E : zE Γ cc own nL rm) {x y : Int32} (hd : decode cc pc = .ok (.irem, 1)) (hne : ¬ y = 0) (kk : zJ Γ nL k n σ (pc + 1) lv (.int (x - x / y * y) :: st)) : zJ Γ nL k n σ pc lv (.int y :: .int x :: st) := fun H locs ls hP hS hl => lv_irem E.hx E.hb hd hne (kk H locs ls hP hS hl)
theorem zj_ineg (E : zE Γ cc own nL rm) {x : Int32} (hd : decode cc pc = .ok (.ineg, 1)) (kk : zJ Γ nL k n σ (pc + 1) lv (.int (-x) :: st)) : zJ Γ nL k n σ pc lv (.int x :: st) := fun H locs ls hP hS hl => lv_ineg E.hx E.hb hd (kk H locs ls hP hS hl)
theorem zj_i2b (E : zE Γ cc own nL rm) {x : Int32} (hd : decode cc pc = .ok (.i2b, 1)) (kk : zJ Γ nL k n σ (pc + 1) lv (.int (x.toInt8.toInt32) :: st)) : zJ Γ nL k n σ pc lv (.int x :: st) := fun H locs ls hP hS hl => lv_i2b E.hx E.hb hd rfl (kk H locs ls hP hS hl)
theorem zj_dup (E : zE Γ cc own nL rm) {a : Value} (hd : decode cc pc = .ok (.dup, 1)) (ha : a.category = 1) (kk : zJ Γ nL k n σ (pc + 1) lv (a :: a :: st)) : zJ Γ nL k n σ pc lv (a :: st) := fun H locs ls hP hS hl => lv_dup E.hx E.hb hd ha (kk H locs ls hP hS hl)
theorem zj_pop (E : zE Γ cc own nL rm) {a : Value} (hd : decode cc pc = .ok (.pop, 1)) (ha : a.category = 1) (kk : zJ Γ nL k n σ (pc + 1) lv st) : zJ Γ nL k n σ pc lv (a :: st) := fun H locs ls hP hS hl => lv_pop E.hx E.hb hd ha (kk H locs ls hP hS hl)
theorem zj_dup2 (E : zE Γ cc own nL rm) {a b : Value} (hd : decode cc pc = .ok (.dup2, 1)) (ha : a.category = 1) (hb : b.category = 1) (kk : zJ Γ nL k n σ (pc + 1) lv (a :: b :: a :: b :: st)) : zJ Γ nL k n σ pc lv (a :: b :: st) := fun H locs ls hP hS hl => lv_dup2_11 E.hx E.hb hd ha hb (kk H locs ls hP hS hl)
theorem zj_goto (E : zE Γ cc own nL rm) {off : Int} {tgt : Nat} (hd : decode cc pc = .ok (.goto off, 3)) (ht : (pc : Int) + off = (tgt : Int)) (kk : zJ Γ nL k n σ tgt lv st) : zJ Γ nL k n σ pc lv st := fun H locs ls hP hS hl => lv_goto E.hx E.hb hd ht (kk H locs ls hP hS hl)
theorem zj_if_eq (E : zE Γ cc own nL rm) {ρ : Type} {f g : Option ρ} {R : ρ} {x : Int32} {off : Int} {tgt : Nat} (hd : decode cc pc = .ok (.ifCond .eq off, 3)) (ht : (pc : Int) + off = (tgt : Int)) (h : (if x = 0 then f else g) = some R) (kt : f = some R → zJ Γ nL k n σ tgt lv st) (kf : g = some R → zJ Γ nL k n σ (pc + 3) lv st) : zJ Γ nL k n σ pc lv (.int x :: st) := fun H locs ls hP hS hl => lv_if_eq E.hx E.hb hd ht (fun c => kt (by rw [if_pos c] at h; exact h) H locs ls hP hS hl) (fun c => kf (by rw [if_neg c] at h; exact h) H locs ls hP hS hl)
theorem zj_if_ne (E : zE Γ cc own nL rm) {ρ : Type} {f g : Option ρ} {R : ρ} {x : Int32} {off : Int} {tgt : Nat} (hd : decode cc pc = .ok (.ifCond .ne off, 3)) (ht : (pc : Int) + off = (tgt : Int)) (h : (if x = 0 then g else f) = some R) (kt : f = some R → zJ Γ nL k n σ tgt lv st) (kf : g = some R → zJ Γ nL k n σ (pc + 3) lv st) : zJ Γ nL k n σ pc lv (.int x :: st) := fun H locs ls hP hS hl => lv_if_ne E.hx E.hb hd ht (fun c => kt (by rw [if_neg c] at h; exact h) H locs ls hP hS hl) (fun c => kf (by rw [if_pos c] at h; exact h) H locs ls hP hS hl)
theorem zj_if_lt (E : zE Γ cc own nL rm) {ρ : Type} {f g : Option ρ} {R : ρ} {x : Int32} {off : Int} {tgt : Nat} (hd : decode cc pc = .ok (.ifCond .lt off, 3)) (ht : (pc : Int) + off = (tgt : Int)) (h : (if x < 0 then f else g) = some R) (kt : f = some R → zJ Γ nL k n σ tgt lv st) (kf : g = some R → zJ Γ nL k n σ (pc + 3) lv st) : zJ Γ nL k n σ pc lv (.int x :: st) := fun H locs ls hP hS hl => lv_if_lt E.hx E.hb hd ht (fun c => kt (by rw [if_pos c] at h; exact h) H locs ls hP hS hl) (fun c => kf (by rw [if_neg c] at h; exact h) H locs ls hP hS hl)
theorem zj_if_ge (E : zE Γ cc own nL rm) {ρ : Type} {f g : Option ρ} {R : ρ} {x : Int32} {off : Int} {tgt : Nat} (hd : decode cc pc = .ok (.ifCond .ge off, 3)) (ht : (pc : Int) + off = (tgt : Int)) (h : (if 0 ≤ x then f else g) = some R) (kt : f = some R → zJ Γ nL k n σ tgt lv st) (kf : g = some R → zJ Γ nL k n σ (pc + 3) lv st) : zJ Γ nL k n σ pc lv (.int x :: st) := fun H locs ls hP hS hl => lv_if_ge E.hx E.hb hd ht (fun c => kt (by rw [if_pos c] at h; exact h) H locs ls hP hS hl) (fun c => kf (by rw [if_neg c] at h; exact h) H locs ls hP hS hl)
theorem zj_if_gt (E : zE Γ cc own nL rm) {ρ : Type} {f g : Option ρ} {R : ρ} {x : Int32} {off : Int} {tgt : Nat} (hd : decode cc pc = .ok (.ifCond .gt off, 3)) (ht : (pc : Int) + off = (tgt : Int)) (h : (if 0 < x then f else g) = some R) (kt : f = some R → zJ Γ nL k n σ tgt lv st) (kf : g = some R → zJ Γ nL k n σ (pc + 3) lv st) : zJ Γ nL k n σ pc lv (.int x :: st) := fun H locs ls hP hS hl => lv_if_gt E.hx E.hb hd ht (fun c => kt (by rw [if_pos c] at h; exact h) H locs ls hP hS hl) (fun c => kf (by rw [if_neg c] at h; exact h) H locs ls hP hS hl)
theorem zj_if_le (E : zE Γ cc own nL rm) {ρ : Type} {f g : Option ρ} {R : ρ} {x : Int32} {off : Int} {tgt : Nat} (hd : decode cc pc = .ok (.ifCond .le off, 3)) (ht : (pc : Int) + off = (tgt : Int)) (h : (if x ≤ 0 then f else g) = some R) (kt : f = some R → zJ Γ nL k n σ tgt lv st) (kf : g = some R → zJ Γ nL k n σ (pc + 3) lv st) : zJ Γ nL k n σ pc lv (.int x :: st) := fun H locs ls hP hS hl => lv_if_le E.hx E.hb hd ht (fun c => kt (by rw [if_pos c] at h; exact h) H locs ls hP hS hl) (fun c => kf (by rw [if_neg c] at h; exact h) H locs ls hP hS hl)
theorem zj_icmp_eq (E : zE Γ cc own nL rm) {ρ : Type} {f g : Option ρ} {R : ρ} {x y : Int32} {off : Int} {tgt : Nat} (hd : decode cc pc = .ok (.if_icmp .eq off, 3)) (ht : (pc : Int) + off = (tgt : Int)) (h : (if x = y then f else g) = some R) (kt : f = some R → zJ Γ nL k n σ tgt lv st) (kf : g = some R → zJ Γ nL k n σ (pc + 3) lv st) : zJ Γ nL k n σ pc lv (.int y :: .int x :: st) := fun H locs ls hP hS hl => lv_icmp_eq E.hx E.hb hd ht (fun c => kt (by rw [if_pos c] at h; exact h) H locs ls hP hS hl) (fun c => kf (by rw [if_neg c] at h; exact h) H locs ls hP hS hl)
theorem zj_icmp_ne (E : zE Γ cc own nL rm) {ρ : Type} {f g : Option ρ} {R : ρ} {x y : Int32} {off : Int} {tgt : Nat} (hd : decode cc pc = .ok (.if_icmp .ne off, 3)) (ht : (pc : Int) + off = (tgt : Int)) (h : (if x = y then g else f) = some R) (kt : f = some R → zJ Γ nL k n σ tgt lv st) (kf : g = some R → zJ Γ nL k n σ (pc + 3) lv st) : zJ Γ nL k n σ pc lv (.int y :: .int x :: st) := fun H locs ls hP hS hl => lv_icmp_ne E.hx E.hb hd ht (fun c => kt (by rw [if_neg c] at h; exact h) H locs ls hP hS hl) (fun c => kf (by rw [if_pos c] at h; exact h) H locs ls hP hS hl)
theorem zj_icmp_lt (E : zE Γ cc own nL rm) {ρ : Type} {f g : Option ρ} {R : ρ} {x y : Int32} {off : Int} {tgt : Nat} (hd : decode cc pc = .ok (.if_icmp .lt off, 3)) (ht : (pc : Int) + off = (tgt : Int)) (h : (if x < y then f else g) = some R) (kt : f = some R → zJ Γ nL k n σ tgt lv st) (kf : g = some R → zJ Γ nL k n σ (pc + 3) lv st) : zJ Γ nL k n σ pc lv (.int y :: .int x :: st) := fun H locs ls hP hS hl => lv_icmp_lt E.hx E.hb hd ht (fun c => kt (by rw [if_pos c] at h; exact h) H locs ls hP hS hl) (fun c => kf (by rw [if_neg c] at h; exact h) H locs ls hP hS hl)
theorem zj_icmp_ge (E : zE Γ cc own nL rm) {ρ : Type} {f g : Option ρ} {R : ρ} {x y : Int32} {off : Int} {tgt : Nat} (hd : decode cc pc = .ok (.if_icmp .ge off, 3)) (ht : (pc : Int) + off = (tgt : Int)) (h : (if y ≤ x then f else g) = some R) (kt : f = some R → zJ Γ nL k n σ tgt lv st) (kf : g = some R → zJ Γ nL k n σ (pc + 3) lv st) : zJ Γ nL k n σ pc lv (.int y :: .int x :: st) := fun H locs ls hP hS hl => lv_icmp_ge E.hx E.hb hd ht (fun c => kt (by rw [if_pos c] at h; exact h) H locs ls hP hS hl) (fun c => kf (by rw [if_neg c] at h; exact h) H locs ls hP hS hl)
theorem zj_icmp_gt (E : zE Γ cc own nL rm) {ρ : Type} {f g : Option ρ} {R : ρ} {x y : Int32} {off : Int} {tgt : Nat} (hd : decode cc pc = .ok (.if_icmp .gt off, 3)) (ht : (pc : Int) + off = (tgt : Int)) (h : (if y < x then f else g) = some R) (kt : f = some R → zJ Γ nL k n σ tgt lv st) (kf : g = some R → zJ Γ nL k n σ (pc + 3) lv st) : zJ Γ nL k n σ pc lv (.int y :: .int x :: st) := fun H locs ls hP hS hl => lv_icmp_gt E.hx E.hb hd ht (fun c => kt (by rw [if_pos c] at h; exact h) H locs ls hP hS hl) (fun c => kf (by rw [if_neg c] at h; exact h) H locs ls hP hS hl)
theorem zj_icmp_le (E : zE Γ cc own nL rm) {ρ : Type} {f g : Option ρ} {R : ρ} {x y : Int32} {off : Int} {tgt : Nat} (hd : decode cc pc = .ok (.if_icmp .le off, 3)) (ht : (pc : Int) + off = (tgt : Int)) (h : (if x ≤ y then f else g) = some R) (kt : f = some R → zJ Γ nL k n σ tgt lv st) (kf : g = some R → zJ Γ nL k n σ (pc + 3) lv st) : zJ Γ nL k n σ pc lv (.int y :: .int x :: st) := fun H locs ls hP hS hl => lv_icmp_le E.hx E.hb hd ht (fun c => kt (by rw [if_pos c] at h; exact h) H locs ls hP hS hl) (fun c => kf (by rw [if_neg c] at h; exact h) H locs ls hP hS hl)
/-- the decompiled function's own steps -/
def oL {α ρ : Type} (e : α) (f : α → Option ρ) : Option ρ := f e
theorem oL_some {α ρ : Type} {e : α} {f : α → Option ρ} {R : ρ} (h : oL e f = some R) : f e = some R := h
def oA {ρ : Type} (p : Prop) [Decidable p] (f : Option ρ) : Option ρ := if p then f else none
theorem oA_some {ρ : Type} {p : Prop} [Decidable p] {f : Option ρ} {R : ρ} (h : oA p f = some R) : p ∧ f = some R := by
  unfold oA at h
  by_cases hp : p
  · rw [if_pos hp] at h; exact ⟨hp, h⟩
  · rw [if_neg hp] at h; cases h
def oR {ρ : Type} (x : Option Nat) (f : Nat → Option ρ) : Option ρ := match x with
  | none => none
  | some a => f a
theorem oR_some {ρ : Type} {x : Option Nat} {f : Nat → Option ρ} {R : ρ} (h : oR x f = some R) : ∃ a, x = some a ∧ f a = some R := by
  cases x with
  | none => cases h
  | some a => exact ⟨a, rfl, h⟩
def oB {α ρ : Type} (x : Option α) (f : α → Option ρ) : Option ρ := match x with
  | none => none
  | some a => f a
theorem oB_some {α ρ : Type} {x : Option α} {f : α → Option ρ} {R : ρ} (h : oB x f = some R) : ∃ a, x = some a ∧ f a = some R := by
  cases x with
  | none => cases h
  | some a => exact ⟨a, rfl, h⟩
def zin (i : Int32) (n : Nat) : Prop := 0 ≤ i ∧ i.toNatClampNeg < n
theorem zin_vp {i : Int32} {n : Nat} (h : zin i n) : vp_in i n := by
  intro q
  rcases q with q | q
  · exact absurd h.1 (Int32.not_le.mpr q)
  · exact absurd h.2 (Nat.not_lt.mpr q)
def oGI {ρ : Type} (σ : zS) (c a k : Nat) (f : Int32 → Option ρ) : Option ρ := if zk σ a = c then f (zi σ a k) else none
def oGR {ρ : Type} (σ : zS) (c a k : Nat) (f : Nat → Option ρ) : Option ρ := if zk σ a = c then oR (zr σ a k) f else none
def oPI {ρ : Type} (σ : zS) (c a k : Nat) (v : Int32) (f : zS → Option ρ) : Option ρ := if zk σ a = c then f (zuI σ a k v) else none
def oPZ {ρ : Type} (σ : zS) (c a k : Nat) (v : Int32) (f : zS → Option ρ) : Option ρ := if zk σ a = c ∧ (v = 0 ∨ v = 1) then f (zuI σ a k v) else none
def oPR {ρ : Type} (σ : zS) (c a k b : Nat) (f : zS → Option ρ) : Option ρ := if zk σ a = c then f (zuR σ a k (some b)) else none
def oLd {ρ : Type} (σ : zS) (c a : Nat) (i : Int32) (f : Int32 → Option ρ) : Option ρ := if zk σ a = c ∧ 0 ≤ i ∧ i.toNatClampNeg < zn σ a then f (zi σ a i.toNatClampNeg) else none
def oSt {ρ : Type} (σ : zS) (c a : Nat) (i v : Int32) (f : zS → Option ρ) : Option ρ := if zk σ a = c ∧ 0 ≤ i ∧ i.toNatClampNeg < zn σ a then f (zuI σ a i.toNatClampNeg v) else none
def oLr {ρ : Type} (σ : zS) (a : Nat) (i : Int32) (f : Nat → Option ρ) : Option ρ := if zk σ a = 22 ∧ 0 ≤ i ∧ i.toNatClampNeg < zn σ a then oR (zr σ a i.toNatClampNeg) f else none
def oLt {ρ : Type} (t : List Int32) (i : Int32) (f : Int32 → Option ρ) : Option ρ := if 0 ≤ i ∧ i.toNatClampNeg < t.length then f (t.getD i.toNatClampNeg 0) else none
def oLn {ρ : Type} (σ : zS) (c a : Nat) (f : Int32 → Option ρ) : Option ρ := if zk σ a = c then f (nI (zn σ a)) else none
/-- a loop, with fuel -/
def zloop {α β : Type} : Nat → (α → Option (α ⊕ β)) → α → Option β
  | 0, _, _ => none
  | n + 1, body, x => match body x with
    | none => none
    | some (.inl y) => zloop n body y
    | some (.inr b) => some b
def zF : Nat := 100000
theorem zj_loop {α β : Type} {body : α → Option (α ⊕ β)} {Jx : α → Prop} {X : β → Prop} (hs : ∀ x y, body x = some y → Sum.elim Jx X y → Jx x) : ∀ (n : Nat) (x : α) (b : β), zloop n body x = some b → X b → Jx x := by
  intro n
  induction n with
  | zero => intro x b h; cases h
  | succ n ih =>
    intro x b h hX
    cases hy : body x with
    | none => rw [zloop, hy] at h; cases h
    | some y =>
      rw [zloop, hy] at h
      cases y with
      | inl x2 => exact hs x _ hy (ih x2 b h hX)
      | inr b2 =>
        cases h
        exact hs x _ hy hX
end ZROWS
