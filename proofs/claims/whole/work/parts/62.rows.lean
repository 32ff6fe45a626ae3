/-! a row an instruction, over the one memory -/
theorem gk_c1_i {L : List (Option Value)} {j : Nat} {x : Int32} (h : L[j]? = some (some (.int x))) : gk_c1 L (j + 1) := fun v hv => by rw [h] at hv; cases hv; rfl
theorem gk_c1_r {L : List (Option Value)} {j : Nat} {r : Option Nat} (h : L[j]? = some (some (va_rf r))) : gk_c1 L (j + 1) := fun v hv => by rw [h] at hv; cases hv; exact gk_rc r
theorem gk_c1_n {L : List (Option Value)} {j : Nat} (h : L[j]? = some none) : gk_c1 L (j + 1) := fun v hv => by rw [h] at hv; cases hv
section GKR
variable {p : Program} {l : Launch} {e : Env} {R : Room} {s : State} {m : MethodId} {args : Array Value} {below : List Frame} {meth : Method} {c : Code} {Y : gk_S} {Γ : gk_G} {nL : Nat} {Q : State → Prop} {k n : Nat} {M : gk_M} {pc : Nat} {L : List (Option Value)} {st : List Value} {cc : ByteArray} {own : String}
theorem Gk_iconst (B : gk_B p s m args meth c Y Γ cc nL own) {i : Int} {v : Int32} (d : decode cc pc = .ok (.iconst i, 1)) (hv : Int32.ofInt i = v) (kk : Gk p l e R s m args below meth c Y Γ nL Q k n M (pc + 1) L (.int v :: st)) : Gk p l e R s m args below meth c Y Γ nL Q k n M pc L st := fun H locs ls hm hS hl => lv_iconst B.1 B.2.1 d hv (kk H locs ls hm hS hl)
theorem Gk_bipush (B : gk_B p s m args meth c Y Γ cc nL own) {i : Int} {v : Int32} (d : decode cc pc = .ok (.bipush i, 2)) (hv : (Int8.ofInt i).toInt32 = v) (kk : Gk p l e R s m args below meth c Y Γ nL Q k n M (pc + 2) L (.int v :: st)) : Gk p l e R s m args below meth c Y Γ nL Q k n M pc L st := fun H locs ls hm hS hl => lv_bipush B.1 B.2.1 d hv (kk H locs ls hm hS hl)
theorem Gk_sipush (B : gk_B p s m args meth c Y Γ cc nL own) {i : Int} {v : Int32} (d : decode cc pc = .ok (.sipush i, 3)) (hv : (Int16.ofInt i).toInt32 = v) (kk : Gk p l e R s m args below meth c Y Γ nL Q k n M (pc + 3) L (.int v :: st)) : Gk p l e R s m args below meth c Y Γ nL Q k n M pc L st := fun H locs ls hm hS hl => lv_sipush B.1 B.2.1 d hv (kk H locs ls hm hS hl)
theorem Gk_lconst (B : gk_B p s m args meth c Y Γ cc nL own) {i : Fin 2} {v : Int64} (d : decode cc pc = .ok (.lconst i, 1)) (hv : Int64.ofNat (i : Nat) = v) (kk : Gk p l e R s m args below meth c Y Γ nL Q k n M (pc + 1) L (.long v :: st)) : Gk p l e R s m args below meth c Y Γ nL Q k n M pc L st := fun H locs ls hm hS hl => lv_lconst B.1 B.2.1 d hv (kk H locs ls hm hS hl)
theorem Gk_iadd (B : gk_B p s m args meth c Y Γ cc nL own) {x y : Int32} (d : decode cc pc = .ok (.iadd, 1)) (kk : Gk p l e R s m args below meth c Y Γ nL Q k n M (pc + 1) L (.int (x + y) :: st)) : Gk p l e R s m args below meth c Y Γ nL Q k n M pc L (.int y :: .int x :: st) := fun H locs ls hm hS hl => lv_iadd B.1 B.2.1 d (kk H locs ls hm hS hl)
theorem Gk_isub (B : gk_B p s m args meth c Y Γ cc nL own) {x y : Int32} (d : decode cc pc = .ok (.isub, 1)) (kk : Gk p l e R s m args below meth c Y Γ nL Q k n M (pc + 1) L (.int (x - y) :: st)) : Gk p l e R s m args below meth c Y Γ nL Q k n M pc L (.int y :: .int x :: st) := fun H locs ls hm hS hl => lv_isub B.1 B.2.1 d (kk H locs ls hm hS hl)
theorem Gk_imul (B : gk_B p s m args meth c Y Γ cc nL own) {x y : Int32} (d : decode cc pc = .ok (.imul, 1)) (kk : Gk p l e R s m args below meth c Y Γ nL Q k n M (pc + 1) L (.int (x * y) :: st)) : Gk p l e R s m args below meth c Y Γ nL Q k n M pc L (.int y :: .int x :: st) := fun H locs ls hm hS hl => lv_imul B.1 B.2.1 d (kk H locs ls hm hS hl)
theorem Gk_iand (B : gk_B p s m args meth c Y Γ cc nL own) {x y : Int32} (d : decode cc pc = .ok (.iand, 1)) (kk : Gk p l e R s m args below meth c Y Γ nL Q k n M (pc + 1) L (.int (x &&& y) :: st)) : Gk p l e R s m args below meth c Y Γ nL Q k n M pc L (.int y :: .int x :: st) := fun H locs ls hm hS hl => lv_iand B.1 B.2.1 d (kk H locs ls hm hS hl)
theorem Gk_ior (B : gk_B p s m args meth c Y Γ cc nL own) {x y : Int32} (d : decode cc pc = .ok (.ior, 1)) (kk : Gk p l e R s m args below meth c Y Γ nL Q k n M (pc + 1) L (.int (x ||| y) :: st)) : Gk p l e R s m args below meth c Y Γ nL Q k n M pc L (.int y :: .int x :: st) := fun H locs ls hm hS hl => lv_ior B.1 B.2.1 d (kk H locs ls hm hS hl)
theorem Gk_ixor (B : gk_B p s m args meth c Y Γ cc nL own) {x y : Int32} (d : decode cc pc = .ok (.ixor, 1)) (kk : Gk p l e R s m args below meth c Y Γ nL Q k n M (pc + 1) L (.int (x ^^^ y) :: st)) : Gk p l e R s m args below meth c Y Γ nL Q k n M pc L (.int y :: .int x :: st) := fun H locs ls hm hS hl => lv_ixor B.1 B.2.1 d (kk H locs ls hm hS hl)
theorem Gk_ishl (B : gk_B p s m args meth c Y Γ cc nL own) {x y : Int32} (d : decode cc pc = .ok (.ishl, 1)) (kk : Gk p l e R s m args below meth c Y Γ nL Q k n M (pc + 1) L (.int (x <<< (y &&& 31)) :: st)) : Gk p l e R s m args below meth c Y Γ nL Q k n M pc L (.int y :: .int x :: st) := fun H locs ls hm hS hl => lv_ishl B.1 B.2.1 d (kk H locs ls hm hS hl)
theorem Gk_ishr (B : gk_B p s m args meth c Y Γ cc nL own) {x y : Int32} (d : decode cc pc = .ok (.ishr, 1)) (kk : Gk p l e R s m args below meth c Y Γ nL Q k n M (pc + 1) L (.int (x >>> (y &&& 31)) :: st)) : Gk p l e R s m args below meth c Y Γ nL Q k n M pc L (.int y :: .int x :: st) := fun H locs ls hm hS hl => lv_ishr B.1 B.2.1 d (kk H locs ls hm hS hl)
theorem Gk_ladd (B : gk_B p s m args meth c Y Γ cc nL own) {x y : Int64} (d : decode cc pc = .ok (.ladd, 1)) (kk : Gk p l e R s m args below meth c Y Γ nL Q k n M (pc + 1) L (.long (x + y) :: st)) : Gk p l e R s m args below meth c Y Γ nL Q k n M pc L (.long y :: .long x :: st) := fun H locs ls hm hS hl => lv_ladd B.1 B.2.1 d (kk H locs ls hm hS hl)
theorem Gk_lsub (B : gk_B p s m args meth c Y Γ cc nL own) {x y : Int64} (d : decode cc pc = .ok (.lsub, 1)) (kk : Gk p l e R s m args below meth c Y Γ nL Q k n M (pc + 1) L (.long (x - y) :: st)) : Gk p l e R s m args below meth c Y Γ nL Q k n M pc L (.long y :: .long x :: st) := fun H locs ls hm hS hl => lv_lsub B.1 B.2.1 d (kk H locs ls hm hS hl)
theorem Gk_lmul (B : gk_B p s m args meth c Y Γ cc nL own) {x y : Int64} (d : decode cc pc = .ok (.lmul, 1)) (kk : Gk p l e R s m args below meth c Y Γ nL Q k n M (pc + 1) L (.long (x * y) :: st)) : Gk p l e R s m args below meth c Y Γ nL Q k n M pc L (.long y :: .long x :: st) := fun H locs ls hm hS hl => lv_lmul B.1 B.2.1 d (kk H locs ls hm hS hl)
theorem Gk_idiv (B : gk_B p s m args meth c Y Γ cc nL own) {x y : Int32} (d : decode cc pc = .ok (.idiv, 1)) (h0 : ¬ y = 0) (kk : Gk p l e R s m args below meth c Y Γ nL Q k n M (pc + 1) L (.int (x / y) :: st)) : Gk p l e R s m args below meth c Y Γ nL Q k n M pc L (.int y :: .int x :: st) := fun H locs ls hm hS hl => lv_idiv B.1 B.2.1 d h0 (kk H locs ls hm hS hl)
theorem Gk_irem (B : gk_B p s m args meth c Y Γ cc nL own) {x y : Int32} (d : decode cc pc = .ok (.irem, 1)) (h0 : ¬ y = 0) (kk : Gk p l e R s m args below meth c Y Γ nL Q k n M (pc + 1) L (.int (x - x / y * y) :: st)) : Gk p l e R s m args below meth c Y Γ nL Q k n M pc L (.int y :: .int x :: st) := fun H locs ls hm hS hl => lv_irem B.1 B.2.1 d h0 (kk H locs ls hm hS hl)
theorem Gk_ineg (B : gk_B p s m args meth c Y Γ cc nL own) {x : Int32} (d : decode cc pc = .ok (.ineg, 1)) (kk : Gk p l e R s m args below meth c Y Γ nL Q k n M (pc + 1) L (.int (-x) :: st)) : Gk p l e R s m args below meth c Y Γ nL Q k n M pc L (.int x :: st) := fun H locs ls hm hS hl => lv_ineg B.1 B.2.1 d (kk H locs ls hm hS hl)
theorem Gk_i2l (B : gk_B p s m args meth c Y Γ cc nL own) {x : Int32} (d : decode cc pc = .ok (.i2l, 1)) (kk : Gk p l e R s m args below meth c Y Γ nL Q k n M (pc + 1) L (.long x.toInt64 :: st)) : Gk p l e R s m args below meth c Y Γ nL Q k n M pc L (.int x :: st) := fun H locs ls hm hS hl => lv_i2l B.1 B.2.1 d rfl (kk H locs ls hm hS hl)
theorem Gk_l2i (B : gk_B p s m args meth c Y Γ cc nL own) {x : Int64} (d : decode cc pc = .ok (.l2i, 1)) (kk : Gk p l e R s m args below meth c Y Γ nL Q k n M (pc + 1) L (.int x.toInt32 :: st)) : Gk p l e R s m args below meth c Y Γ nL Q k n M pc L (.long x :: st) := fun H locs ls hm hS hl => lv_l2i B.1 B.2.1 d rfl (kk H locs ls hm hS hl)
theorem Gk_i2c (B : gk_B p s m args meth c Y Γ cc nL own) {x v : Int32} (d : decode cc pc = .ok (.i2c, 1)) (hv : (x.toUInt32 % 65536).toInt32 = v) (kk : Gk p l e R s m args below meth c Y Γ nL Q k n M (pc + 1) L (.int v :: st)) : Gk p l e R s m args below meth c Y Γ nL Q k n M pc L (.int x :: st) := fun H locs ls hm hS hl => lv_i2c B.1 B.2.1 d hv (kk H locs ls hm hS hl)
theorem Gk_iushr (B : gk_B p s m args meth c Y Γ cc nL own) {x y : Int32} (d : decode cc pc = .ok (.iushr, 1)) (kk : Gk p l e R s m args below meth c Y Γ nL Q k n M (pc + 1) L (.int ((x.toUInt32 >>> (y.toUInt32 &&& Int32.toUInt32 31)).toInt32) :: st)) : Gk p l e R s m args below meth c Y Γ nL Q k n M pc L (.int y :: .int x :: st) := fun H locs ls hm hS hl => lv_iushr B.1 B.2.1 d rfl (kk H locs ls hm hS hl)
theorem Gk_dup (B : gk_B p s m args meth c Y Γ cc nL own) {va : Value} (d : decode cc pc = .ok (.dup, 1)) (hva : va.category = 1) (kk : Gk p l e R s m args below meth c Y Γ nL Q k n M (pc + 1) L (va :: va :: st)) : Gk p l e R s m args below meth c Y Γ nL Q k n M pc L (va :: st) := fun H locs ls hm hS hl => lv_dup B.1 B.2.1 d hva (kk H locs ls hm hS hl)
theorem Gk_pop (B : gk_B p s m args meth c Y Γ cc nL own) {va : Value} (d : decode cc pc = .ok (.pop, 1)) (hva : va.category = 1) (kk : Gk p l e R s m args below meth c Y Γ nL Q k n M (pc + 1) L st) : Gk p l e R s m args below meth c Y Γ nL Q k n M pc L (va :: st) := fun H locs ls hm hS hl => lv_pop B.1 B.2.1 d hva (kk H locs ls hm hS hl)
theorem Gk_dup_x1 (B : gk_B p s m args meth c Y Γ cc nL own) {va vb : Value} (d : decode cc pc = .ok (.dup_x1, 1)) (hva : va.category = 1) (hvb : vb.category = 1) (kk : Gk p l e R s m args below meth c Y Γ nL Q k n M (pc + 1) L (va :: vb :: va :: st)) : Gk p l e R s m args below meth c Y Γ nL Q k n M pc L (va :: vb :: st) := fun H locs ls hm hS hl => lv_dup_x1 B.1 B.2.1 d hva hvb (kk H locs ls hm hS hl)
theorem Gk_dup_x2 (B : gk_B p s m args meth c Y Γ cc nL own) {va vb vc : Value} (d : decode cc pc = .ok (.dup_x2, 1)) (hva : va.category = 1) (hvb : vb.category = 1) (hvc : vc.category = 1) (kk : Gk p l e R s m args below meth c Y Γ nL Q k n M (pc + 1) L (va :: vb :: vc :: va :: st)) : Gk p l e R s m args below meth c Y Γ nL Q k n M pc L (va :: vb :: vc :: st) := fun H locs ls hm hS hl => lv_dup_x2 B.1 B.2.1 d hva hvb hvc (kk H locs ls hm hS hl)
theorem Gk_dup2 (B : gk_B p s m args meth c Y Γ cc nL own) {va vb : Value} (d : decode cc pc = .ok (.dup2, 1)) (hva : va.category = 1) (hvb : vb.category = 1) (kk : Gk p l e R s m args below meth c Y Γ nL Q k n M (pc + 1) L (va :: vb :: va :: vb :: st)) : Gk p l e R s m args below meth c Y Γ nL Q k n M pc L (va :: vb :: st) := fun H locs ls hm hS hl => lv_dup2_11 B.1 B.2.1 d hva hvb (kk H locs ls hm hS hl)
theorem Gk_null (B : gk_B p s m args meth c Y Γ cc nL own)  (d : decode cc pc = .ok (.aconst_null, 1)) (kk : Gk p l e R s m args below meth c Y Γ nL Q k n M (pc + 1) L (va_rf none :: st)) : Gk p l e R s m args below meth c Y Γ nL Q k n M pc L st := fun H locs ls hm hS hl => lv_null B.1 B.2.1 d (kk H locs ls hm hS hl)
theorem Gk_lcmp (B : gk_B p s m args meth c Y Γ cc nL own) {x y : Int64} (d : decode cc pc = .ok (.lcmp, 1)) (kk : Gk p l e R s m args below meth c Y Γ nL Q k n M (pc + 1) L (.int (lg_cmp x y) :: st)) : Gk p l e R s m args below meth c Y Γ nL Q k n M pc L (.long y :: .long x :: st) := fun H locs ls hm hS hl => W.lcmp B.1 B.2.1 d (kk H locs ls hm hS hl)
theorem Gk_iload_n (B : gk_B p s m args meth c Y Γ cc nL own) {j : Fin 4} {i : Nat} {x : Int32} (d : decode cc pc = .ok (.iload_n j, 1)) (hi : (j : Nat) = i) (hL : L[i]? = some (some (.int x))) (kk : Gk p l e R s m args below meth c Y Γ nL Q k n M (pc + 1) L (.int x :: st)) : Gk p l e R s m args below meth c Y Γ nL Q k n M pc L st := fun H locs ls hm hS hl => lv_iload_n B.1 B.2.1 d hi (hl.get hL) (kk H locs ls hm hS hl)
theorem Gk_iload (B : gk_B p s m args meth c Y Γ cc nL own) {i : Nat} {x : Int32} (d : decode cc pc = .ok (.iload i, 2)) (hL : L[i]? = some (some (.int x))) (kk : Gk p l e R s m args below meth c Y Γ nL Q k n M (pc + 2) L (.int x :: st)) : Gk p l e R s m args below meth c Y Γ nL Q k n M pc L st := fun H locs ls hm hS hl => lv_iload B.1 B.2.1 d (hl.get hL) (kk H locs ls hm hS hl)
theorem Gk_lload_n (B : gk_B p s m args meth c Y Γ cc nL own) {j : Fin 4} {i : Nat} {x : Int64} (d : decode cc pc = .ok (.lload_n j, 1)) (hi : (j : Nat) = i) (hL : L[i]? = some (some (.long x))) (kk : Gk p l e R s m args below meth c Y Γ nL Q k n M (pc + 1) L (.long x :: st)) : Gk p l e R s m args below meth c Y Γ nL Q k n M pc L st := fun H locs ls hm hS hl => lv_lload_n B.1 B.2.1 d hi (hl.get hL) (kk H locs ls hm hS hl)
theorem Gk_lload (B : gk_B p s m args meth c Y Γ cc nL own) {i : Nat} {x : Int64} (d : decode cc pc = .ok (.lload i, 2)) (hL : L[i]? = some (some (.long x))) (kk : Gk p l e R s m args below meth c Y Γ nL Q k n M (pc + 2) L (.long x :: st)) : Gk p l e R s m args below meth c Y Γ nL Q k n M pc L st := fun H locs ls hm hS hl => lv_lload B.1 B.2.1 d (hl.get hL) (kk H locs ls hm hS hl)
theorem Gk_aload_n (B : gk_B p s m args meth c Y Γ cc nL own) {j : Fin 4} {i : Nat} {r : Option Nat} (d : decode cc pc = .ok (.aload_n j, 1)) (hi : (j : Nat) = i) (hL : L[i]? = some (some (va_rf r))) (kk : Gk p l e R s m args below meth c Y Γ nL Q k n M (pc + 1) L (va_rf r :: st)) : Gk p l e R s m args below meth c Y Γ nL Q k n M pc L st := by
  intro H locs ls hm hS hl
  have hg := hl.get hL
  have kk := kk H locs ls hm hS hl
  cases r with
  | none => exact lv_aload_nN B.1 B.2.1 d hi hg kk
  | some a => exact lv_aload_n B.1 B.2.1 d hi hg kk
theorem Gk_aload (B : gk_B p s m args meth c Y Γ cc nL own) {i : Nat} {r : Option Nat} (d : decode cc pc = .ok (.aload i, 2)) (hL : L[i]? = some (some (va_rf r))) (kk : Gk p l e R s m args below meth c Y Γ nL Q k n M (pc + 2) L (va_rf r :: st)) : Gk p l e R s m args below meth c Y Γ nL Q k n M pc L st := by
  intro H locs ls hm hS hl
  have hg := hl.get hL
  have kk := kk H locs ls hm hS hl
  cases r with
  | none => exact lv_aloadN B.1 B.2.1 d hg kk
  | some a => exact lv_aload B.1 B.2.1 d hg kk
theorem Gk_istore_n (B : gk_B p s m args meth c Y Γ cc nL own) {j : Fin 4} {i : Nat} {x : Int32} {L' : List (Option Value)} (d : decode cc pc = .ok (.istore_n j, 1)) (hi : (j : Nat) = i) (hn : i < nL) (hc : gk_c1 L i) (hL : L.set i (some (.int x)) = L') (kk : Gk p l e R s m args below meth c Y Γ nL Q k n M (pc + 1) L' st) : Gk p l e R s m args below meth c Y Γ nL Q k n M pc L (.int x :: st) := by
  subst hL
  exact fun H locs ls hm hS hl => lv_istore_n B.1 B.2.1 d hi hl hn rfl (fun ls' h' => kk H locs ls' hm hS (gk_lv.set1 hc h'))
theorem Gk_lstore_n (B : gk_B p s m args meth c Y Γ cc nL own) {j : Fin 4} {i : Nat} {x : Int64} {L' : List (Option Value)} (d : decode cc pc = .ok (.lstore_n j, 1)) (hi : (j : Nat) = i) (hn : i + 1 < nL) (hc : gk_c1 L i) (hL : (L.set (i + 1) none).set i (some (.long x)) = L') (kk : Gk p l e R s m args below meth c Y Γ nL Q k n M (pc + 1) L' st) : Gk p l e R s m args below meth c Y Γ nL Q k n M pc L (.long x :: st) := by
  subst hL
  exact fun H locs ls hm hS hl => lv_lstore_n B.1 B.2.1 d hi hl hn rfl (fun ls' h' => kk H locs ls' hm hS (gk_lv.set2 hc h'))
theorem Gk_astore_n (B : gk_B p s m args meth c Y Γ cc nL own) {j : Fin 4} {i : Nat} {r : Option Nat} {L' : List (Option Value)} (d : decode cc pc = .ok (.astore_n j, 1)) (hi : (j : Nat) = i) (hn : i < nL) (hc : gk_c1 L i) (hL : L.set i (some (va_rf r)) = L') (kk : Gk p l e R s m args below meth c Y Γ nL Q k n M (pc + 1) L' st) : Gk p l e R s m args below meth c Y Γ nL Q k n M pc L (va_rf r :: st) := by
  subst hL
  intro H locs ls hm hS hl
  cases r with
  | none => exact lv_astore_nN B.1 B.2.1 d hi hl hn rfl (fun ls' h' => kk H locs ls' hm hS (gk_lv.set1 hc h'))
  | some a => exact lv_astore_n B.1 B.2.1 d hi hl hn rfl (fun ls' h' => kk H locs ls' hm hS (gk_lv.set1 hc h'))
theorem Gk_istore (B : gk_B p s m args meth c Y Γ cc nL own) {i : Nat} {x : Int32} {L' : List (Option Value)} (d : decode cc pc = .ok (.istore i, 2)) (hn : i < nL) (hc : gk_c1 L i) (hL : L.set i (some (.int x)) = L') (kk : Gk p l e R s m args below meth c Y Γ nL Q k n M (pc + 2) L' st) : Gk p l e R s m args below meth c Y Γ nL Q k n M pc L (.int x :: st) := by
  subst hL
  exact fun H locs ls hm hS hl => lv_istore B.1 B.2.1 d hl hn rfl (fun ls' h' => kk H locs ls' hm hS (gk_lv.set1 hc h'))
theorem Gk_lstore (B : gk_B p s m args meth c Y Γ cc nL own) {i : Nat} {x : Int64} {L' : List (Option Value)} (d : decode cc pc = .ok (.lstore i, 2)) (hn : i + 1 < nL) (hc : gk_c1 L i) (hL : (L.set (i + 1) none).set i (some (.long x)) = L') (kk : Gk p l e R s m args below meth c Y Γ nL Q k n M (pc + 2) L' st) : Gk p l e R s m args below meth c Y Γ nL Q k n M pc L (.long x :: st) := by
  subst hL
  exact fun H locs ls hm hS hl => lv_lstore B.1 B.2.1 d hl hn rfl (fun ls' h' => kk H locs ls' hm hS (gk_lv.set2 hc h'))
theorem Gk_astore (B : gk_B p s m args meth c Y Γ cc nL own) {i : Nat} {r : Option Nat} {L' : List (Option Value)} (d : decode cc pc = .ok (.astore i, 2)) (hn : i < nL) (hc : gk_c1 L i) (hL : L.set i (some (va_rf r)) = L') (kk : Gk p l e R s m args below meth c Y Γ nL Q k n M (pc + 2) L' st) : Gk p l e R s m args below meth c Y Γ nL Q k n M pc L (va_rf r :: st) := by
  subst hL
  intro H locs ls hm hS hl
  cases r with
  | none => exact lv_astoreN B.1 B.2.1 d hl hn rfl (fun ls' h' => kk H locs ls' hm hS (gk_lv.set1 hc h'))
  | some a => exact lv_astore B.1 B.2.1 d hl hn rfl (fun ls' h' => kk H locs ls' hm hS (gk_lv.set1 hc h'))
theorem Gk_iinc (B : gk_B p s m args meth c Y Γ cc nL own) {i : Nat} {a : Int} {x v : Int32} {L' : List (Option Value)} (d : decode cc pc = .ok (.iinc i a, 3)) (hx : L[i]? = some (some (.int x))) (hv : x + Int32.ofInt a = v) (hn : i < nL) (hc : gk_c1 L i) (hL : L.set i (some (.int v)) = L') (kk : Gk p l e R s m args below meth c Y Γ nL Q k n M (pc + 3) L' st) : Gk p l e R s m args below meth c Y Γ nL Q k n M pc L st := by
  subst hL
  intro H locs ls hm hS hl
  have hmem : (i, Value.int x) ∈ gk_as L 0 := (gk_as_mem L 0 (i, .int x)).mpr ⟨Nat.zero_le _, hx⟩
  obtain ⟨j, hj⟩ := List.getElem?_of_mem hmem
  exact lv_iinc B.1 B.2.1 d hl hj hv hn rfl (fun ls' h' => kk H locs ls' hm hS (gk_lv.set1 hc h'))
theorem Gk_if_eq (B : gk_B p s m args meth c Y Γ cc nL own) {x : Int32} {off : Int} {tgt : Nat} (d : decode cc pc = .ok (.ifCond .eq off, 3)) (ht : (pc : Int) + off = (tgt : Int)) (kt : x = 0 → Gk p l e R s m args below meth c Y Γ nL Q k n M tgt L st) (kf : ¬ x = 0 → Gk p l e R s m args below meth c Y Γ nL Q k n M (pc + 3) L st) : Gk p l e R s m args below meth c Y Γ nL Q k n M pc L (.int x :: st) := fun H locs ls hm hS hl => lv_if_eq B.1 B.2.1 d ht (fun h => kt h H locs ls hm hS hl) (fun h => kf h H locs ls hm hS hl)
theorem Gk_icmp_eq (B : gk_B p s m args meth c Y Γ cc nL own) {x y : Int32} {off : Int} {tgt : Nat} (d : decode cc pc = .ok (.if_icmp .eq off, 3)) (ht : (pc : Int) + off = (tgt : Int)) (kt : x = y → Gk p l e R s m args below meth c Y Γ nL Q k n M tgt L st) (kf : ¬ x = y → Gk p l e R s m args below meth c Y Γ nL Q k n M (pc + 3) L st) : Gk p l e R s m args below meth c Y Γ nL Q k n M pc L (.int y :: .int x :: st) := fun H locs ls hm hS hl => lv_icmp_eq B.1 B.2.1 d ht (fun h => kt h H locs ls hm hS hl) (fun h => kf h H locs ls hm hS hl)
theorem Gk_if_ne (B : gk_B p s m args meth c Y Γ cc nL own) {x : Int32} {off : Int} {tgt : Nat} (d : decode cc pc = .ok (.ifCond .ne off, 3)) (ht : (pc : Int) + off = (tgt : Int)) (kt : ¬ x = 0 → Gk p l e R s m args below meth c Y Γ nL Q k n M tgt L st) (kf : x = 0 → Gk p l e R s m args below meth c Y Γ nL Q k n M (pc + 3) L st) : Gk p l e R s m args below meth c Y Γ nL Q k n M pc L (.int x :: st) := fun H locs ls hm hS hl => lv_if_ne B.1 B.2.1 d ht (fun h => kt h H locs ls hm hS hl) (fun h => kf h H locs ls hm hS hl)
theorem Gk_icmp_ne (B : gk_B p s m args meth c Y Γ cc nL own) {x y : Int32} {off : Int} {tgt : Nat} (d : decode cc pc = .ok (.if_icmp .ne off, 3)) (ht : (pc : Int) + off = (tgt : Int)) (kt : ¬ x = y → Gk p l e R s m args below meth c Y Γ nL Q k n M tgt L st) (kf : x = y → Gk p l e R s m args below meth c Y Γ nL Q k n M (pc + 3) L st) : Gk p l e R s m args below meth c Y Γ nL Q k n M pc L (.int y :: .int x :: st) := fun H locs ls hm hS hl => lv_icmp_ne B.1 B.2.1 d ht (fun h => kt h H locs ls hm hS hl) (fun h => kf h H locs ls hm hS hl)
theorem Gk_if_lt (B : gk_B p s m args meth c Y Γ cc nL own) {x : Int32} {off : Int} {tgt : Nat} (d : decode cc pc = .ok (.ifCond .lt off, 3)) (ht : (pc : Int) + off = (tgt : Int)) (kt : x < 0 → Gk p l e R s m args below meth c Y Γ nL Q k n M tgt L st) (kf : ¬ x < 0 → Gk p l e R s m args below meth c Y Γ nL Q k n M (pc + 3) L st) : Gk p l e R s m args below meth c Y Γ nL Q k n M pc L (.int x :: st) := fun H locs ls hm hS hl => lv_if_lt B.1 B.2.1 d ht (fun h => kt h H locs ls hm hS hl) (fun h => kf h H locs ls hm hS hl)
theorem Gk_icmp_lt (B : gk_B p s m args meth c Y Γ cc nL own) {x y : Int32} {off : Int} {tgt : Nat} (d : decode cc pc = .ok (.if_icmp .lt off, 3)) (ht : (pc : Int) + off = (tgt : Int)) (kt : x < y → Gk p l e R s m args below meth c Y Γ nL Q k n M tgt L st) (kf : ¬ x < y → Gk p l e R s m args below meth c Y Γ nL Q k n M (pc + 3) L st) : Gk p l e R s m args below meth c Y Γ nL Q k n M pc L (.int y :: .int x :: st) := fun H locs ls hm hS hl => lv_icmp_lt B.1 B.2.1 d ht (fun h => kt h H locs ls hm hS hl) (fun h => kf h H locs ls hm hS hl)
theorem Gk_if_ge (B : gk_B p s m args meth c Y Γ cc nL own) {x : Int32} {off : Int} {tgt : Nat} (d : decode cc pc = .ok (.ifCond .ge off, 3)) (ht : (pc : Int) + off = (tgt : Int)) (kt : 0 ≤ x → Gk p l e R s m args below meth c Y Γ nL Q k n M tgt L st) (kf : ¬ 0 ≤ x → Gk p l e R s m args below meth c Y Γ nL Q k n M (pc + 3) L st) : Gk p l e R s m args below meth c Y Γ nL Q k n M pc L (.int x :: st) := fun H locs ls hm hS hl => lv_if_ge B.1 B.2.1 d ht (fun h => kt h H locs ls hm hS hl) (fun h => kf h H locs ls hm hS hl)
theorem Gk_icmp_ge (B : gk_B p s m args meth c Y Γ cc nL own) {x y : Int32} {off : Int} {tgt : Nat} (d : decode cc pc = .ok (.if_icmp .ge off, 3)) (ht : (pc : Int) + off = (tgt : Int)) (kt : y ≤ x → Gk p l e R s m args below meth c Y Γ nL Q k n M tgt L st) (kf : ¬ y ≤ x → Gk p l e R s m args below meth c Y Γ nL Q k n M (pc + 3) L st) : Gk p l e R s m args below meth c Y Γ nL Q k n M pc L (.int y :: .int x :: st) := fun H locs ls hm hS hl => lv_icmp_ge B.1 B.2.1 d ht (fun h => kt h H locs ls hm hS hl) (fun h => kf h H locs ls hm hS hl)
theorem Gk_if_gt (B : gk_B p s m args meth c Y Γ cc nL own) {x : Int32} {off : Int} {tgt : Nat} (d : decode cc pc = .ok (.ifCond .gt off, 3)) (ht : (pc : Int) + off = (tgt : Int)) (kt : 0 < x → Gk p l e R s m args below meth c Y Γ nL Q k n M tgt L st) (kf : ¬ 0 < x → Gk p l e R s m args below meth c Y Γ nL Q k n M (pc + 3) L st) : Gk p l e R s m args below meth c Y Γ nL Q k n M pc L (.int x :: st) := fun H locs ls hm hS hl => lv_if_gt B.1 B.2.1 d ht (fun h => kt h H locs ls hm hS hl) (fun h => kf h H locs ls hm hS hl)
theorem Gk_icmp_gt (B : gk_B p s m args meth c Y Γ cc nL own) {x y : Int32} {off : Int} {tgt : Nat} (d : decode cc pc = .ok (.if_icmp .gt off, 3)) (ht : (pc : Int) + off = (tgt : Int)) (kt : y < x → Gk p l e R s m args below meth c Y Γ nL Q k n M tgt L st) (kf : ¬ y < x → Gk p l e R s m args below meth c Y Γ nL Q k n M (pc + 3) L st) : Gk p l e R s m args below meth c Y Γ nL Q k n M pc L (.int y :: .int x :: st) := fun H locs ls hm hS hl => lv_icmp_gt B.1 B.2.1 d ht (fun h => kt h H locs ls hm hS hl) (fun h => kf h H locs ls hm hS hl)
theorem Gk_if_le (B : gk_B p s m args meth c Y Γ cc nL own) {x : Int32} {off : Int} {tgt : Nat} (d : decode cc pc = .ok (.ifCond .le off, 3)) (ht : (pc : Int) + off = (tgt : Int)) (kt : x ≤ 0 → Gk p l e R s m args below meth c Y Γ nL Q k n M tgt L st) (kf : ¬ x ≤ 0 → Gk p l e R s m args below meth c Y Γ nL Q k n M (pc + 3) L st) : Gk p l e R s m args below meth c Y Γ nL Q k n M pc L (.int x :: st) := fun H locs ls hm hS hl => lv_if_le B.1 B.2.1 d ht (fun h => kt h H locs ls hm hS hl) (fun h => kf h H locs ls hm hS hl)
theorem Gk_icmp_le (B : gk_B p s m args meth c Y Γ cc nL own) {x y : Int32} {off : Int} {tgt : Nat} (d : decode cc pc = .ok (.if_icmp .le off, 3)) (ht : (pc : Int) + off = (tgt : Int)) (kt : x ≤ y → Gk p l e R s m args below meth c Y Γ nL Q k n M tgt L st) (kf : ¬ x ≤ y → Gk p l e R s m args below meth c Y Γ nL Q k n M (pc + 3) L st) : Gk p l e R s m args below meth c Y Γ nL Q k n M pc L (.int y :: .int x :: st) := fun H locs ls hm hS hl => lv_icmp_le B.1 B.2.1 d ht (fun h => kt h H locs ls hm hS hl) (fun h => kf h H locs ls hm hS hl)
theorem Gk_goto (B : gk_B p s m args meth c Y Γ cc nL own) {off : Int} {tgt : Nat} (d : decode cc pc = .ok (.goto off, 3)) (ht : (pc : Int) + off = (tgt : Int)) (kk : Gk p l e R s m args below meth c Y Γ nL Q k n M tgt L st) : Gk p l e R s m args below meth c Y Γ nL Q k n M pc L st := fun H locs ls hm hS hl => lv_goto B.1 B.2.1 d ht (kk H locs ls hm hS hl)
theorem Gk_ifnull (B : gk_B p s m args meth c Y Γ cc nL own) {r : Option Nat} {off : Int} {tgt : Nat} (d : decode cc pc = .ok (.ifnull off, 3)) (ht : (pc : Int) + off = (tgt : Int)) (kt : r = none → Gk p l e R s m args below meth c Y Γ nL Q k n M tgt L st) (kf : ¬ r = none → Gk p l e R s m args below meth c Y Γ nL Q k n M (pc + 3) L st) : Gk p l e R s m args below meth c Y Γ nL Q k n M pc L (va_rf r :: st) := by
  intro H locs ls hm hS hl
  cases r with
  | none => exact lv_ifnullN B.1 B.2.1 d ht (kt rfl H locs ls hm hS hl)
  | some a => exact lv_ifnull B.1 B.2.1 d (kf (by simp) H locs ls hm hS hl)
theorem Gk_ifnonnull (B : gk_B p s m args meth c Y Γ cc nL own) {r : Option Nat} {off : Int} {tgt : Nat} (d : decode cc pc = .ok (.ifnonnull off, 3)) (ht : (pc : Int) + off = (tgt : Int)) (kt : ¬ r = none → Gk p l e R s m args below meth c Y Γ nL Q k n M tgt L st) (kf : r = none → Gk p l e R s m args below meth c Y Γ nL Q k n M (pc + 3) L st) : Gk p l e R s m args below meth c Y Γ nL Q k n M pc L (va_rf r :: st) := by
  intro H locs ls hm hS hl
  cases r with
  | none => exact lv_ifnonnullN B.1 B.2.1 d (kf rfl H locs ls hm hS hl)
  | some a => exact lv_ifnonnull B.1 B.2.1 d ht (kt (by simp) H locs ls hm hS hl)
theorem Gk_acmp_eq (B : gk_B p s m args meth c Y Γ cc nL own) {rx ry : Option Nat} {off : Int} {tgt : Nat} (d : decode cc pc = .ok (.if_acmp .eq off, 3)) (ht : (pc : Int) + off = (tgt : Int)) (kt : rx = ry → Gk p l e R s m args below meth c Y Γ nL Q k n M tgt L st) (kf : ¬ rx = ry → Gk p l e R s m args below meth c Y Γ nL Q k n M (pc + 3) L st) : Gk p l e R s m args below meth c Y Γ nL Q k n M pc L (va_rf ry :: va_rf rx :: st) := fun H locs ls hm hS hl => lv_acmp_eq B.1 B.2.1 d ht (fun h => kt h H locs ls hm hS hl) (fun h => kf h H locs ls hm hS hl)
theorem Gk_acmp_ne (B : gk_B p s m args meth c Y Γ cc nL own) {rx ry : Option Nat} {off : Int} {tgt : Nat} (d : decode cc pc = .ok (.if_acmp .ne off, 3)) (ht : (pc : Int) + off = (tgt : Int)) (kt : ¬ rx = ry → Gk p l e R s m args below meth c Y Γ nL Q k n M tgt L st) (kf : rx = ry → Gk p l e R s m args below meth c Y Γ nL Q k n M (pc + 3) L st) : Gk p l e R s m args below meth c Y Γ nL Q k n M pc L (va_rf ry :: va_rf rx :: st) := fun H locs ls hm hS hl => lv_acmp_ne B.1 B.2.1 d ht (fun h => kt h H locs ls hm hS hl) (fun h => kf h H locs ls hm hS hl)
theorem Gk_weak (b : List Bool) {L' : List (Option Value)} (hL : gk_mask b L = L') (kk : Gk p l e R s m args below meth c Y Γ nL Q k n M pc L' st) : Gk p l e R s m args below meth c Y Γ nL Q k n M pc L st := by
  subst hL
  exact fun H locs ls hm hS hl => kk H locs ls hm hS (hl.mask b)
theorem Gk_widen {k' n' : Nat} (h1 : k ≤ k') (h2 : n ≤ n') (kk : Gk p l e R s m args below meth c Y Γ nL Q k' n' M pc L st) : Gk p l e R s m args below meth c Y Γ nL Q k n M pc L st := fun H locs ls hm hS hl => W.widen h1 h2 (kk H locs ls hm hS hl)
theorem Gk_ldc (B : gk_B p s m args meth c Y Γ cc nL own) {index : Nat} {v : Int32} (d : decode cc pc = .ok (.ldc index, 2)) (hw : Cond.constant own index v ∈ Y.2.2.2) (kk : Gk p l e R s m args below meth c Y Γ nL Q k n M (pc + 2) L (.int v :: st)) : Gk p l e R s m args below meth c Y Γ nL Q k n M pc L st := fun H locs ls hm hS hl => lv_ldc B.1 B.2.1 B.2.2.2.1 (B.2.2.2.2.1 _ hw) d (kk H locs ls hm hS hl)
theorem Gk_ldcw (B : gk_B p s m args meth c Y Γ cc nL own) {index : Nat} {v : Int32} (d : decode cc pc = .ok (.ldc_w index, 3)) (hw : Cond.constant own index v ∈ Y.2.2.2) (kk : Gk p l e R s m args below meth c Y Γ nL Q k n M (pc + 3) L (.int v :: st)) : Gk p l e R s m args below meth c Y Γ nL Q k n M pc L st := fun H locs ls hm hS hl => lv_ldcw B.1 B.2.1 B.2.2.2.1 (B.2.2.2.2.1 _ hw) d (kk H locs ls hm hS hl)
theorem Gk_ldc2 (B : gk_B p s m args meth c Y Γ cc nL own) {index : Nat} {v : Int64} (d : decode cc pc = .ok (.ldc2_w index, 3)) (hw : Cond.constantLong own index v ∈ Y.2.2.2) (kk : Gk p l e R s m args below meth c Y Γ nL Q k n M (pc + 3) L (.long v :: st)) : Gk p l e R s m args below meth c Y Γ nL Q k n M pc L st := fun H locs ls hm hS hl => lv_ldc2 B.1 B.2.1 B.2.2.2.1 (B.2.2.2.2.1 _ hw) d (kk H locs ls hm hS hl)
theorem Gk_get (B : gk_B p s m args meth c Y Γ cc nL own) {ci j index N : Nat} {C ref : String} {T : u_T} {r : Option Nat} {fs : List Value} {v : Value} (d : decode cc pc = .ok (.getfield index, 3)) (hin : ∀ w ∈ u_ws C T N, w ∈ Y.2.2.2) (hc : Y.1[ci]? = some (C, T, N)) (hj : j < N) (hlink : Cond.fieldLink own index ref (T j).2.1 (T j).2.2.1 ∈ Y.2.2.2) (hsame : (T j).1 = ref) (ho : gk_ob M ci r = some fs) (hv : fs[j]? = some v) (kk : Gk p l e R s m args below meth c Y Γ nL Q k n M (pc + 3) L (v :: st)) : Gk p l e R s m args below meth c Y Γ nL Q k n M pc L (va_rf r :: st) := by
  obtain ⟨a, rfl, ha⟩ := gk_ob_eq ho
  subst hsame
  intro H locs ls hm hS hl
  exact va_get (D := Γ.1) B.1 B.2.1 B.2.2.2.2.1 hin B.2.2.2.1 B.2.2.2.2.2.1.obj (hm.cel ha) 0 rfl hc j hj (B.2.2.2.2.1 _ hlink) (fun _ h => h) hv d (kk H locs ls hm hS hl)
theorem Gk_getN (B : gk_B p s m args meth c Y Γ cc nL own) {ci j index N : Nat} {C ref host : String} {T : u_T} {r : Option Nat} {fs : List Value} {v : Value} (d : decode cc pc = .ok (.getfield index, 3)) (hin : ∀ w ∈ u_ws C T N, w ∈ Y.2.2.2) (hc : Y.1[ci]? = some (C, T, N)) (hj : j < N) (hlink : Cond.fieldLinkNest own index ref (T j).2.1 (T j).2.2.1 host ∈ Y.2.2.1) (hsame : (T j).1 = ref) (ho : gk_ob M ci r = some fs) (hv : fs[j]? = some v) (kk : Gk p l e R s m args below meth c Y Γ nL Q k n M (pc + 3) L (v :: st)) : Gk p l e R s m args below meth c Y Γ nL Q k n M pc L (va_rf r :: st) := by
  obtain ⟨a, rfl, ha⟩ := gk_ob_eq ho
  subst hsame
  intro H locs ls hm hS hl
  exact va_getN (D := Γ.1) B.1 B.2.1 B.2.2.2.2.1 hin B.2.2.2.1 B.2.2.2.2.2.1.obj (hm.cel ha) 0 rfl hc j hj (va_Nw.use rfl (B.2.2.2.2.2.1.2.2 _ hlink).2) (fun _ h => h) hv d (kk H locs ls hm hS hl)
theorem Gk_getI (B : gk_B p s m args meth c Y Γ cc nL own) {ci j index N : Nat} {C ref : String} {T : u_T} {r : Option Nat} {x : Int32} (d : decode cc pc = .ok (.getfield index, 3)) (hin : ∀ w ∈ u_ws C T N, w ∈ Y.2.2.2) (hc : Y.1[ci]? = some (C, T, N)) (hj : j < N) (hlink : Cond.fieldLink own index ref (T j).2.1 (T j).2.2.1 ∈ Y.2.2.2) (hsame : (T j).1 = ref) (h : gk_gi M ci j r = some x) (kk : Gk p l e R s m args below meth c Y Γ nL Q k n M (pc + 3) L (.int x :: st)) : Gk p l e R s m args below meth c Y Γ nL Q k n M pc L (va_rf r :: st) := by
  obtain ⟨fs, ho, h⟩ := gk_bind h
  obtain ⟨v, hv, h⟩ := gk_bind h
  have e := gk_int_eq h
  subst e
  exact Gk_get B d hin hc hj hlink hsame ho hv kk
theorem Gk_getR (B : gk_B p s m args meth c Y Γ cc nL own) {ci j index N : Nat} {C ref : String} {T : u_T} {r x : Option Nat} (d : decode cc pc = .ok (.getfield index, 3)) (hin : ∀ w ∈ u_ws C T N, w ∈ Y.2.2.2) (hc : Y.1[ci]? = some (C, T, N)) (hj : j < N) (hlink : Cond.fieldLink own index ref (T j).2.1 (T j).2.2.1 ∈ Y.2.2.2) (hsame : (T j).1 = ref) (h : gk_gr M ci j r = some x) (kk : Gk p l e R s m args below meth c Y Γ nL Q k n M (pc + 3) L (va_rf x :: st)) : Gk p l e R s m args below meth c Y Γ nL Q k n M pc L (va_rf r :: st) := by
  obtain ⟨fs, ho, h⟩ := gk_bind h
  obtain ⟨v, hv, h⟩ := gk_bind h
  have e := gk_ref_eq h
  subst e
  exact Gk_get B d hin hc hj hlink hsame ho hv kk
theorem Gk_getJ (B : gk_B p s m args meth c Y Γ cc nL own) {ci j index N : Nat} {C ref : String} {T : u_T} {r : Option Nat} {x : Int64} (d : decode cc pc = .ok (.getfield index, 3)) (hin : ∀ w ∈ u_ws C T N, w ∈ Y.2.2.2) (hc : Y.1[ci]? = some (C, T, N)) (hj : j < N) (hlink : Cond.fieldLink own index ref (T j).2.1 (T j).2.2.1 ∈ Y.2.2.2) (hsame : (T j).1 = ref) (h : gk_gl M ci j r = some x) (kk : Gk p l e R s m args below meth c Y Γ nL Q k n M (pc + 3) L (.long x :: st)) : Gk p l e R s m args below meth c Y Γ nL Q k n M pc L (va_rf r :: st) := by
  obtain ⟨fs, ho, h⟩ := gk_bind h
  obtain ⟨v, hv, h⟩ := gk_bind h
  have e := gk_lng_eq h
  subst e
  exact Gk_get B d hin hc hj hlink hsame ho hv kk
theorem Gk_getIN (B : gk_B p s m args meth c Y Γ cc nL own) {ci j index N : Nat} {C ref host : String} {T : u_T} {r : Option Nat} {x : Int32} (d : decode cc pc = .ok (.getfield index, 3)) (hin : ∀ w ∈ u_ws C T N, w ∈ Y.2.2.2) (hc : Y.1[ci]? = some (C, T, N)) (hj : j < N) (hlink : Cond.fieldLinkNest own index ref (T j).2.1 (T j).2.2.1 host ∈ Y.2.2.1) (hsame : (T j).1 = ref) (h : gk_gi M ci j r = some x) (kk : Gk p l e R s m args below meth c Y Γ nL Q k n M (pc + 3) L (.int x :: st)) : Gk p l e R s m args below meth c Y Γ nL Q k n M pc L (va_rf r :: st) := by
  obtain ⟨fs, ho, h⟩ := gk_bind h
  obtain ⟨v, hv, h⟩ := gk_bind h
  have e := gk_int_eq h
  subst e
  exact Gk_getN B d hin hc hj hlink hsame ho hv kk
theorem Gk_getRN (B : gk_B p s m args meth c Y Γ cc nL own) {ci j index N : Nat} {C ref host : String} {T : u_T} {r x : Option Nat} (d : decode cc pc = .ok (.getfield index, 3)) (hin : ∀ w ∈ u_ws C T N, w ∈ Y.2.2.2) (hc : Y.1[ci]? = some (C, T, N)) (hj : j < N) (hlink : Cond.fieldLinkNest own index ref (T j).2.1 (T j).2.2.1 host ∈ Y.2.2.1) (hsame : (T j).1 = ref) (h : gk_gr M ci j r = some x) (kk : Gk p l e R s m args below meth c Y Γ nL Q k n M (pc + 3) L (va_rf x :: st)) : Gk p l e R s m args below meth c Y Γ nL Q k n M pc L (va_rf r :: st) := by
  obtain ⟨fs, ho, h⟩ := gk_bind h
  obtain ⟨v, hv, h⟩ := gk_bind h
  have e := gk_ref_eq h
  subst e
  exact Gk_getN B d hin hc hj hlink hsame ho hv kk
theorem Gk_put (B : gk_B p s m args meth c Y Γ cc nL own) {ci j index N : Nat} {C ref : String} {T : u_T} {r : Option Nat} {v : Value} {M' : gk_M} {ty : FieldType} (d : decode cc pc = .ok (.putfield index, 3)) (hin : ∀ w ∈ u_ws C T N, w ∈ Y.2.2.2) (ty0 : Nat → FieldType) (hty : ∀ k, k < N → parseFieldDescriptor (T k).2.2.1 = some (ty0 k)) (hnm : ∀ a, a < N → ∀ b, b < N → a ≠ b → (T a).2.1 ≠ (T b).2.1) (hc : Y.1[ci]? = some (C, T, N)) (hj : j < N) (hlink : Cond.fieldLink own index ref (T j).2.1 (T j).2.2.1 ∈ Y.2.2.2) (hsame : (T j).1 = ref) (hfin : (T j).2.2.2 = false) (hd : ty0 j = ty) (hn : narrow ty v = v) (hfit : fits ty v = true) (h : gk_pf M ci j r v = some M') (kk : Gk p l e R s m args below meth c Y Γ nL Q k n M' (pc + 3) L st) : Gk p l e R s m args below meth c Y Γ nL Q k n M pc L (v :: va_rf r :: st) := by
  obtain ⟨fs, ho, h⟩ := gk_bind h
  obtain ⟨hl, h⟩ := gk_if h
  obtain ⟨a, rfl, ha⟩ := gk_ob_eq ho
  cases h
  subst hsame
  subst hd
  intro H locs ls hm hS hlv
  have hK := B.2.2.2.2.2.1.obj
  have hts := B.2.2.2.2.1
  have hown := B.2.2.2.1
  have hap := va_apart (own := own) hts hin ty0 hty hnm hK hc
  obtain ⟨r, h1, cell, q1, q2, q3, q4⟩ := (hm.2 a _ ha).2
  have hr : r = (C, T, N) := Option.some.inj (h1.symm.trans hc)
  subst hr
  obtain ⟨hSl, hfc, kC, hkC, hkind⟩ := hK.1 ci _ hc
  obtain ⟨cf, kf, fi, f, hi, hsl⟩ := hSl j hj
  have hlay := hts _ (hin _ (u_in_lay hj))
  unfold u_lay at hlay
  rw [if_neg (by rw [hfin]; decide)] at hlay
  have hst := (u_facts hfc hkC (u_lays hts hin hj) hi).1
  have h6 := u_store hfc hkC hkind hlay hi (hty j hj) hn hfit
  refine W.putK B.1 B.2.1 (f := f) ⟨hown, hts _ hlink, ⟨_, _, _, hi⟩, hst⟩ (by rw [q2]; exact h6) q1 q3 (by rw [hsl]; exact k2_hasslot (q4 j hj)) rfl rfl d fun H' e1 e2 e3 => ?_
  rw [hsl] at e1 ⊢
  exact kk H' _ ls (hm.set ha ⟨_, hc, t_OB.to (V := updV (vp_V fs) j v) ⟨_, e1, q2, q3, t_set q4 hap hj v⟩ (fun i _ => vp_updV_set hl v i)⟩ e2 e3) (hS.put e2 e3 (hm.2 a _ ha).1) hlv
theorem Gk_putF (B : gk_B p s m args meth c Y Γ cc nL own) (hin2 : meth.name = "<init>") {ci j index N : Nat} {C ref : String} {T : u_T} {r : Option Nat} {v : Value} {M' : gk_M} {ty : FieldType} (d : decode cc pc = .ok (.putfield index, 3)) (hin : ∀ w ∈ u_ws C T N, w ∈ Y.2.2.2) (ty0 : Nat → FieldType) (hty : ∀ k, k < N → parseFieldDescriptor (T k).2.2.1 = some (ty0 k)) (hnm : ∀ a, a < N → ∀ b, b < N → a ≠ b → (T a).2.1 ≠ (T b).2.1) (hc : Y.1[ci]? = some (C, T, N)) (hj : j < N) (hlink : Cond.fieldLink own index ref (T j).2.1 (T j).2.2.1 ∈ Y.2.2.2) (hsame : (T j).1 = ref) (hfin : (T j).2.2.2 = true) (hdecl : (T j).1 = own) (hd : ty0 j = ty) (hn : narrow ty v = v) (hfit : fits ty v = true) (h : gk_pf M ci j r v = some M') (kk : Gk p l e R s m args below meth c Y Γ nL Q k n M' (pc + 3) L st) : Gk p l e R s m args below meth c Y Γ nL Q k n M pc L (v :: va_rf r :: st) := by
  obtain ⟨fs, ho, h⟩ := gk_bind h
  obtain ⟨hl, h⟩ := gk_if h
  obtain ⟨a, rfl, ha⟩ := gk_ob_eq ho
  cases h
  subst hsame
  subst hd
  intro H locs ls hm hS hlv
  have hK := B.2.2.2.2.2.1.obj
  have hts := B.2.2.2.2.1
  have hown := B.2.2.2.1
  have hap := va_apart (own := own) hts hin ty0 hty hnm hK hc
  obtain ⟨r, h1, cell, q1, q2, q3, q4⟩ := (hm.2 a _ ha).2
  have hr : r = (C, T, N) := Option.some.inj (h1.symm.trans hc)
  subst hr
  obtain ⟨hSl, hfc, kC, hkC, hkind⟩ := hK.1 ci _ hc
  obtain ⟨cf, kf, fi, f, hi, hsl⟩ := hSl j hj
  have hlay := hts _ (hin _ (u_in_lay hj))
  unfold u_lay at hlay
  rw [if_pos hfin] at hlay
  have hst := (u_facts hfc hkC (u_lays hts hin hj) hi).1
  have hcf : m.cls = cf := by
    obtain ⟨_, _, c', _, _, _, -, -, hf', -, -, -, hown2, -⟩ := Cond.laysFinal_spec hlay
    have e1 : c' = cf := by have := hi.symm.trans hf'; simp at this; exact this.1.symm
    rw [hdecl] at hown2
    rw [← e1]; exact Option.some.inj (hown.symm.trans hown2)
  have h6 := u_fits hfc hkC hkind (Or.inr hlay) hi (hty j hj) hn hfit
  refine W.putFinK B.1 B.2.1 hown (hts _ hlink) hi hst hcf hin2 (by rw [q2]; exact h6) q1 q3 (by rw [hsl]; exact k2_hasslot (q4 j hj)) rfl rfl d fun H' e1 e2 e3 => ?_
  rw [hsl] at e1 ⊢
  exact kk H' _ ls (hm.set ha ⟨_, hc, t_OB.to (V := updV (vp_V fs) j v) ⟨_, e1, q2, q3, t_set q4 hap hj v⟩ (fun i _ => vp_updV_set hl v i)⟩ e2 e3) (hS.put e2 e3 (hm.2 a _ ha).1) hlv
theorem Gk_iaload (B : gk_B p s m args meth c Y Γ cc nL own) {t : Nat} {r : Option Nat} {i x : Int32} (d : decode cc pc = .ok (.iaload, 1)) (ht : Y.2.1[t]? = some .int) (h : gk_il M t r i = some x) (kk : Gk p l e R s m args below meth c Y Γ nL Q k n M (pc + 1) L (.int x :: st)) : Gk p l e R s m args below meth c Y Γ nL Q k n M pc L (.int i :: va_rf r :: st) := by
  obtain ⟨⟨n', f⟩, ho, h1⟩ := gk_bind h
  clear h
  obtain ⟨a, rfl, ha⟩ := gk_ia_eq ho
  obtain ⟨hin, h2⟩ := gk_if h1
  cases h2
  exact fun H locs ls hm hS hl => va_iald (D := Γ.1) B.1 B.2.1 (B.2.2.2.2.2.1.arr ht) (hm.cel ha) 0 0 rfl rfl hin d (kk H locs ls hm hS hl)
theorem Gk_caload (B : gk_B p s m args meth c Y Γ cc nL own) {t : Nat} {r : Option Nat} {i x : Int32} (d : decode cc pc = .ok (.caload, 1)) (ht : Y.2.1[t]? = some .char) (h : gk_il M t r i = some x) (kk : Gk p l e R s m args below meth c Y Γ nL Q k n M (pc + 1) L (.int x :: st)) : Gk p l e R s m args below meth c Y Γ nL Q k n M pc L (.int i :: va_rf r :: st) := by
  obtain ⟨⟨n', f⟩, ho, h1⟩ := gk_bind h
  clear h
  obtain ⟨a, rfl, ha⟩ := gk_ia_eq ho
  obtain ⟨hin, h2⟩ := gk_if h1
  cases h2
  exact fun H locs ls hm hS hl => va_cald (D := Γ.1) B.1 B.2.1 (B.2.2.2.2.2.1.arr ht) (hm.cel ha) 0 0 rfl rfl hin d (kk H locs ls hm hS hl)
theorem Gk_zaload (B : gk_B p s m args meth c Y Γ cc nL own) {t : Nat} {r : Option Nat} {i x : Int32} (d : decode cc pc = .ok (.baload, 1)) (ht : Y.2.1[t]? = some .boolean) (h : gk_il M t r i = some x) (kk : Gk p l e R s m args below meth c Y Γ nL Q k n M (pc + 1) L (.int x :: st)) : Gk p l e R s m args below meth c Y Γ nL Q k n M pc L (.int i :: va_rf r :: st) := by
  obtain ⟨⟨n', f⟩, ho, h1⟩ := gk_bind h
  clear h
  obtain ⟨a, rfl, ha⟩ := gk_ia_eq ho
  obtain ⟨hin, h2⟩ := gk_if h1
  cases h2
  exact fun H locs ls hm hS hl => va_zald (D := Γ.1) B.1 B.2.1 (B.2.2.2.2.2.1.arr ht) (hm.cel ha) 0 0 rfl rfl hin d (kk H locs ls hm hS hl)
theorem Gk_aaload (B : gk_B p s m args meth c Y Γ cc nL own) {t : Nat} {C : String} {r x : Option Nat} {i : Int32} (d : decode cc pc = .ok (.aaload, 1)) (ht : Y.2.1[t]? = some (.object C)) (h : gk_al M t r i = some x) (kk : Gk p l e R s m args below meth c Y Γ nL Q k n M (pc + 1) L (va_rf x :: st)) : Gk p l e R s m args below meth c Y Γ nL Q k n M pc L (.int i :: va_rf r :: st) := by
  obtain ⟨⟨n', f⟩, ho, h1⟩ := gk_bind h
  clear h
  obtain ⟨a, rfl, ha⟩ := gk_ra_eq ho
  obtain ⟨hin, h2⟩ := gk_if h1
  cases h2
  exact fun H locs ls hm hS hl => va_aldq (D := Γ.1) B.1 B.2.1 (B.2.2.2.2.2.1.arr ht) (hm.cel ha) 0 0 rfl rfl hin d (kk H locs ls hm hS hl)
theorem Gk_alen (B : gk_B p s m args meth c Y Γ cc nL own) {t : Nat} {ty : FieldType} {r : Option Nat} {x : Int32} (d : decode cc pc = .ok (.arraylength, 1)) (ht : Y.2.1[t]? = some ty) (h : gk_ln M t r = some x) (kk : Gk p l e R s m args below meth c Y Γ nL Q k n M (pc + 1) L (.int x :: st)) : Gk p l e R s m args below meth c Y Γ nL Q k n M pc L (va_rf r :: st) := by
  cases r with
  | none => simp [gk_ln] at h
  | some a =>
    simp only [gk_ln] at h
    split at h
    · rename_i t' n' f' ha
      split at h
      · rename_i hc
        cases h
        subst hc
        exact fun H locs ls hm hS hl => va_alen (D := Γ.1) B.1 B.2.1 (B.2.2.2.2.2.1.arr ht) (hm.cel ha) 0 0 rfl rfl rfl d (kk H locs ls hm hS hl)
      · cases h
    · cases h
theorem Gk_iastore (B : gk_B p s m args meth c Y Γ cc nL own) {t : Nat} {r : Option Nat} {i x : Int32} {M' : gk_M} (d : decode cc pc = .ok (.iastore, 1)) (ht : Y.2.1[t]? = some .int) (h : gk_is M t .int r i x = some M') (kk : Gk p l e R s m args below meth c Y Γ nL Q k n M' (pc + 1) L st) : Gk p l e R s m args below meth c Y Γ nL Q k n M pc L (.int x :: .int i :: va_rf r :: st) := by
  obtain ⟨⟨n', f⟩, ho, h⟩ := gk_bind h
  obtain ⟨hin, h⟩ := gk_if h
  obtain ⟨a, rfl, ha⟩ := gk_ia_eq ho
  cases h
  intro H locs ls hm hS hl
  refine W.iast B.1 B.2.1 (hm.2 a _ ha).2 (((B.2.2.2.2.2.1.arr ht).2 0 _ rfl).1 n' (fun j => .int (f j))) (fun q => by cases q) (by show ¬ (i < 0 ∨ (arrV _ _ _).slots.size ≤ _); rw [arrV_size]; exact hin) rfl rfl d fun H1 e1 z oq => ?_
  refine kk H1 _ ls (hm.set ha ?_ z oq) (hS.put z oq (hm.2 a _ ha).1) hl
  show H1[a]? = some (vp_cell _ _)
  rw [e1]
  show some ((vp_cell (Γ.2.1 t) (n', .inl f)).setSlot i.toNatClampNeg (.int x)) = some (vp_cell (Γ.2.1 t) (n', .inl (upd f i.toNatClampNeg (vp_nar .int x))))
  rw [vp_cell_i, vp_cell_i, arrV_store]
  congr 2
  funext q
  by_cases hq : q = i.toNatClampNeg
  · subst hq
    simp [updV, upd, vp_nar, narrow]
  · simp [updV, upd, hq]
theorem Gk_castore (B : gk_B p s m args meth c Y Γ cc nL own) {t : Nat} {r : Option Nat} {i x : Int32} {M' : gk_M} (d : decode cc pc = .ok (.castore, 1)) (ht : Y.2.1[t]? = some .char) (h : gk_is M t .char r i x = some M') (kk : Gk p l e R s m args below meth c Y Γ nL Q k n M' (pc + 1) L st) : Gk p l e R s m args below meth c Y Γ nL Q k n M pc L (.int x :: .int i :: va_rf r :: st) := by
  obtain ⟨⟨n', f⟩, ho, h⟩ := gk_bind h
  obtain ⟨hin, h⟩ := gk_if h
  obtain ⟨a, rfl, ha⟩ := gk_ia_eq ho
  cases h
  intro H locs ls hm hS hl
  refine W.cast B.1 B.2.1 (hm.2 a _ ha).2 (((B.2.2.2.2.2.1.arr ht).2 0 _ rfl).1 n' (fun j => .int (f j))) (fun q => by cases q) (by show ¬ (i < 0 ∨ (arrV _ _ _).slots.size ≤ _); rw [arrV_size]; exact hin) rfl rfl d fun H1 e1 z oq => ?_
  refine kk H1 _ ls (hm.set ha ?_ z oq) (hS.put z oq (hm.2 a _ ha).1) hl
  show H1[a]? = some (vp_cell _ _)
  rw [e1]
  show some ((vp_cell (Γ.2.1 t) (n', .inl f)).setSlot i.toNatClampNeg (narrow .char (.int x))) = some (vp_cell (Γ.2.1 t) (n', .inl (upd f i.toNatClampNeg (vp_nar .char x))))
  rw [vp_cell_i, vp_cell_i, arrV_store]
  congr 2
  funext q
  by_cases hq : q = i.toNatClampNeg
  · subst hq
    simp [updV, upd, vp_nar]
    try rfl
  · simp [updV, upd, hq]
theorem Gk_zastore (B : gk_B p s m args meth c Y Γ cc nL own) {t : Nat} {r : Option Nat} {i x : Int32} {M' : gk_M} (d : decode cc pc = .ok (.bastore, 1)) (ht : Y.2.1[t]? = some .boolean) (h : gk_is M t .boolean r i x = some M') (kk : Gk p l e R s m args below meth c Y Γ nL Q k n M' (pc + 1) L st) : Gk p l e R s m args below meth c Y Γ nL Q k n M pc L (.int x :: .int i :: va_rf r :: st) := by
  obtain ⟨⟨n', f⟩, ho, h⟩ := gk_bind h
  obtain ⟨hin, h⟩ := gk_if h
  obtain ⟨a, rfl, ha⟩ := gk_ia_eq ho
  cases h
  intro H locs ls hm hS hl
  refine W.zast B.1 B.2.1 (hm.2 a _ ha).2 (((B.2.2.2.2.2.1.arr ht).2 0 _ rfl).1 n' (fun j => .int (f j))) (fun q => by cases q) (by show ¬ (i < 0 ∨ (arrV _ _ _).slots.size ≤ _); rw [arrV_size]; exact hin) rfl rfl d fun H1 e1 z oq => ?_
  refine kk H1 _ ls (hm.set ha ?_ z oq) (hS.put z oq (hm.2 a _ ha).1) hl
  show H1[a]? = some (vp_cell _ _)
  rw [e1]
  show some ((vp_cell (Γ.2.1 t) (n', .inl f)).setSlot i.toNatClampNeg (narrow .boolean (.int x))) = some (vp_cell (Γ.2.1 t) (n', .inl (upd f i.toNatClampNeg (vp_nar .boolean x))))
  rw [vp_cell_i, vp_cell_i, arrV_store]
  congr 2
  funext q
  by_cases hq : q = i.toNatClampNeg
  · subst hq
    simp [updV, upd, vp_nar]
    try rfl
  · simp [updV, upd, hq]
theorem Gk_aastore (B : gk_B p s m args meth c Y Γ cc nL own) {t ci : Nat} {q : vw_C} {r v : Option Nat} {i : Int32} {M' : gk_M} (d : decode cc pc = .ok (.aastore, 1)) (ht : Y.2.1[t]? = some (.object q.1)) (hc : Y.1[ci]? = some q) (h : gk_sr M t ci r i v = some M') (kk : Gk p l e R s m args below meth c Y Γ nL Q k n M' (pc + 1) L st) : Gk p l e R s m args below meth c Y Γ nL Q k n M pc L (va_rf v :: .int i :: va_rf r :: st) := by
  obtain ⟨⟨n', f⟩, ho, h⟩ := gk_bind h
  obtain ⟨⟨hin, hv⟩, h⟩ := gk_if h
  obtain ⟨a, rfl, ha⟩ := gk_ra_eq ho
  cases h
  intro H locs ls hm hS hl
  have hK := B.2.2.2.2.2.1.arr ht
  cases v with
  | none =>
    refine va_WaastN (C := q.1) B.1 B.2.1 (hm.2 a _ ha).2 ((hK.2 0 _ rfl).1 n' (fun j => va_rf (f j))) (fun h => by cases h) (by show ¬ (i < 0 ∨ (arrV _ _ _).slots.size ≤ _); rw [arrV_size]; exact hin) rfl rfl d fun H1 e1 z oq => ?_
    refine kk H1 _ ls (hm.set ha ?_ z oq) (hS.put z oq (hm.2 a _ ha).1) hl
    show H1[a]? = some (vp_cell _ _)
    rw [e1]
    show some ((vp_cell (Γ.2.1 t) (n', .inr (.inr (.inr (.inr f))))).setSlot i.toNatClampNeg .null) = some (vp_cell (Γ.2.1 t) (n', .inr (.inr (.inr (.inr (va_up f i.toNatClampNeg none))))))
    rw [vp_cell_q, vp_cell_q, arrV_store]
    congr 2
    funext z
    by_cases hq : z = i.toNatClampNeg
    · subst hq
      simp [updV, va_up, va_rf]
    · simp [updV, va_up, hq]
  | some b =>
    have hlt : i.toNatClampNeg < n' := Nat.not_le.mp fun z => hin (Or.inr z)
    have h0 : ¬ i < 0 := fun z => hin (Or.inl z)
    have hb : (gk_ob M ci (some b)).isSome = true := hv.resolve_left (fun z => by cases z)
    obtain ⟨fs, hfs⟩ := Option.isSome_iff_exists.mp hb
    obtain ⟨b', hbb, hMb⟩ := gk_ob_eq hfs
    cases hbb
    obtain ⟨r', hr', cellV, g1, g2, g3, -⟩ := (hm.2 b _ hMb).2
    have hcls := (hK.1 ci q hc).2
    obtain ⟨kA, comp, k1, k2, k3, -⟩ := (hK.2 0 _ rfl).2
    have hcomp : comp = Γ.1.1 ci := Option.some.inj (k3.symm.trans hcls.1)
    subst hcomp
    obtain ⟨kC, hkC, -⟩ := hcls.2
    refine W.aast B.1 B.2.1 (hm.2 a _ ha).2 (fun q h => by cases h) (fun h => by cases h) k1 k2 rfl hkC ⟨h0, by show _ < (arrV _ _ _).slots.size; rw [arrV_size]; exact hlt⟩ g1 (fun q h => by rw [g3] at h; cases h) (by rw [g2]; exact hkC) (by rw [g2]; exact va_assign hcls) rfl rfl d fun H1 e1 z oq => ?_
    refine kk H1 _ ls (hm.set ha ?_ z oq) (hS.put z oq (hm.2 a _ ha).1) hl
    show H1[a]? = some (vp_cell _ _)
    rw [e1]
    show some ((vp_cell (Γ.2.1 t) (n', .inr (.inr (.inr (.inr f))))).setSlot i.toNatClampNeg (.ref b)) = some (vp_cell (Γ.2.1 t) (n', .inr (.inr (.inr (.inr (va_up f i.toNatClampNeg (some b)))))))
    rw [vp_cell_q, vp_cell_q, arrV_store]
    congr 2
    funext z
    by_cases hq : z = i.toNatClampNeg
    · subst hq
      simp [updV, va_up, va_rf]
    · simp [updV, va_up, hq]
theorem gk_lo (B : gk_B p s m args meth c Y Γ cc nL own) {H : Heap} {locs : List Loc} (hm : gk_ok Y.1 Γ M H) (hS : va_S (fun q => Γ.2.2 ≤ q) s.heap H locs) : Γ.2.2 ≤ M.2 := by
  rw [← hm.1]
  exact Nat.le_trans B.2.2.2.2.2.2.2 hS.1
theorem Gk_newarray (B : gk_B p s m args meth c Y Γ cc nL own) {t cap : Nat} {atype : ArrayType} {ty : FieldType} {i : Int32} {M' : gk_M} (d : decode cc pc = .ok (.newarray atype, 2)) (hty : newarray.typeOf atype = ty) (ht : Y.2.1[t]? = some ty) (harr : Cond.arrayClass ty ∈ Y.2.2.2) (hz : defaultValue ty = .int 0) (hcap : cap * componentBytes ty ≤ 536870912) (h : gk_na M t cap i = some M') (hk : k + 1 ≤ R.cells) (hs : n + cap ≤ R.slots) (kk : Gk p l e R s m args below meth c Y Γ nL Q (k + 1) (n + cap) M' (pc + 2) L (va_rf (some M.2) :: st)) : Gk p l e R s m args below meth c Y Γ nL Q k n M pc L (.int i :: st) := by
  obtain ⟨⟨h0, hle⟩, h⟩ := gk_if h
  cases h
  subst hty
  intro H locs ls hm hS hl
  have hlo := gk_lo B hm hS
  refine va_newaK B.1 B.2.1 (B.2.2.2.2.1 _ harr) rfl d rfl h0 rfl (Nat.le_trans (Nat.mul_le_mul_right _ hle) hcap) hk (Nat.le_trans (Nat.add_le_add_left hle _) hs) hm.1 fun H1 cA e1 z1 o1 hAr hNm => ?_
  have hRA := (B.2.2.2.2.2.1.2.1 t _ ht).2
  have hcA : cA = Γ.2.1 t := by
    cases atype <;> exact Option.some.inj (hNm.symm.trans hRA)
  subst hcA
  refine W.widen (Nat.le_refl _) (Nat.add_le_add_left hle _) ?_
  refine kk H1 locs ls (hm.push hlo ?_ (by rw [z1, hm.1]) (fun q hq => o1 q (by rw [← hm.1]; exact hq))) ⟨Nat.le_trans hS.1 (by rw [z1, hm.1]; omega), fun x g1 g2 => (o1 x (by rw [← hm.1]; exact Nat.lt_of_lt_of_le g1 hS.1)).trans (hS.2.1 x g1 g2), hS.2.2⟩ hl
  show H1[M.2]? = some (vp_cell _ _)
  rw [e1, hz]
  rfl
theorem Gk_anewarray (B : gk_B p s m args meth c Y Γ cc nL own) {t cap index : Nat} {C : String} {i : Int32} {M' : gk_M} (d : decode cc pc = .ok (.anewarray index, 3)) (ht : Y.2.1[t]? = some (.object C)) (hcl : Cond.classLink own index C ∈ Y.2.2.2) (hov : Cond.arrayOver (.object C) ∈ Y.2.2.1) (hcap : cap * 4 ≤ 536870912) (h : gk_nr M t cap i = some M') (hk : k + 1 ≤ R.cells) (hs : n + cap ≤ R.slots) (kk : Gk p l e R s m args below meth c Y Γ nL Q (k + 1) (n + cap) M' (pc + 3) L (va_rf (some M.2) :: st)) : Gk p l e R s m args below meth c Y Γ nL Q k n M pc L (.int i :: st) := by
  obtain ⟨⟨h0, hle⟩, h⟩ := gk_if h
  cases h
  intro H locs ls hm hS hl
  have hlo := gk_lo B hm hS
  refine W.anew B.1 B.2.1 B.2.2.2.1 (B.2.2.2.2.1 _ hcl) (va_AO.use (B.2.2.2.2.2.1.2.2 _ hov).2) rfl d rfl h0 (Nat.le_trans (Nat.mul_le_mul_right _ hle) hcap) hk (Nat.le_trans (Nat.add_le_add_left hle _) hs) fun cA kA comp f1 f2 f3 f4 => ?_
  generalize hH1 : H.push ({ cls := cA, slots := Array.replicate i.toNatClampNeg .null, vm := .none } : Cell) = H1
  have z1 : H1.size = H.size + 1 := by rw [← hH1, Array.size_push]
  have e1 : H1[H.size]? = some (arrV cA i.toNatClampNeg (fun _ => .null)) := by rw [← hH1, Array.getElem?_push_size, ← arrV_new]
  have o1 : ∀ q : Nat, q < H.size → H1[q]? = H[q]? := fun q hq => by rw [← hH1, Array.getElem?_push, if_neg (Nat.ne_of_lt hq)]
  obtain ⟨kA', comp', g1, g2, g3, g4⟩ := (B.2.2.2.2.2.1.2.1 t _ ht).2
  have hcA : cA = Γ.2.1 t := Option.some.inj (f1.symm.trans g4)
  subst hcA
  refine W.widen (Nat.le_refl _) (Nat.add_le_add_left hle _) ?_
  refine W.eq (g2 := F0 m (pc + 3) ls (va_rf (some M.2) :: st)) (by rw [← hm.1]; rfl) ?_
  refine kk H1 locs ls (hm.push hlo ?_ z1 o1) ⟨Nat.le_trans hS.1 (by omega), fun x g1 g2 => (o1 x (Nat.lt_of_lt_of_le g1 hS.1)).trans (hS.2.1 x g1 g2), hS.2.2⟩ hl
  show H1[M.2]? = some (vp_cell _ _)
  rw [← hm.1, e1]
  rfl
theorem Gk_new (B : gk_B p s m args meth c Y Γ cc nL own) {ci index N : Nat} {C : String} {T : u_T} {fs : List Value} (d : decode cc pc = .ok (.new index, 3)) (hin : ∀ w ∈ u_ws C T N, w ∈ Y.2.2.2) (ty0 : Nat → FieldType) (hty : ∀ k, k < N → parseFieldDescriptor (T k).2.2.1 = some (ty0 k)) (hcl : Cond.classLink own index C ∈ Y.2.2.2) (hinst : Cond.instantiable C N ∈ Y.2.2.2) (hini : Cond.initialized C ∈ Y.2.2.2) (hc : Y.1[ci]? = some (C, T, N)) (hfs : ∀ j, j < N → defaultValue (ty0 j) = vp_V fs j) (hk : k + 1 ≤ R.cells) (hs : n + N ≤ R.slots) (kk : Gk p l e R s m args below meth c Y Γ nL Q (k + 1) (n + N) (gk_nw M (.inr (ci, fs))) (pc + 3) L (va_rf (some M.2) :: st)) : Gk p l e R s m args below meth c Y Γ nL Q k n M pc L st := by
  intro H locs ls hm hS hl
  have hlo := gk_lo B hm hS
  have hts := B.2.2.2.2.1
  have hKn := B.2.2.2.2.2.1.1 ci _ hc
  refine W.newcK B.1 B.2.1 B.2.2.2.1 (hts _ hcl) (hts _ hinst) (hts _ hini) rfl d hk hs hKn.2.1 hm.1 fun H1 kC hkC e1 z1 o1 => ?_
  refine kk H1 locs ls (hm.push hlo ?_ (by rw [z1, hm.1]) (fun q hq => o1 q (by rw [← hm.1]; exact hq))) ⟨Nat.le_trans hS.1 (by rw [z1, hm.1]; omega), fun x g1 g2 => (o1 x (by rw [← hm.1]; exact Nat.lt_of_lt_of_le g1 hS.1)).trans (hS.2.1 x g1 g2), hS.2.2⟩ hl
  exact ⟨_, hc, (u_born ty0 hts hin hKn hkC e1 hty).to hfs⟩
theorem Gk_objInit (B : gk_B p s m args meth c Y Γ cc nL own) {index a : Nat} {r : Option Nat} (d : decode cc pc = .ok (.invokespecial index, 3)) (hlink : Cond.methodLink own index Lib.objectInit ∈ Y.2.2.2) (hinst : Cond.instanceMethod Lib.objectInit ∈ Y.2.2.2) (hcode : Cond.code Lib.objectInit ⟨#[0xb1]⟩ 1 none ∈ Y.2.2.2) (ho : r = some a) (hfr : 1 ≤ R.frames) (hlo : (st.map fun v => v.category).sum + 12 ≤ R.locals) (kk : Gk p l e R s m args below meth c Y Γ nL Q k n M (pc + 3) L st) : Gk p l e R s m args below meth c Y Γ nL Q k n M pc L (va_rf r :: st) := by
  subst ho
  intro H locs ls hm hS hl
  exact W.objInit B.1 B.2.1 B.2.2.2.1 (B.2.2.2.2.1 _ hlink) (B.2.2.2.2.1 _ hinst) (B.2.2.2.2.1 _ hcode) rfl (by rw [B.2.2.1]; exact hl.1) rfl d hfr (by show 2 * 0 + _ + 12 ≤ _; omega) (kk H locs ls hm hS hl)
theorem Gk_run {mc ms : Nat} {r : Option Value} {M' : gk_M} {a : Array Value} {rest st0 : List Value} (hr : ∀ (H : Heap) (locs : List Loc) (ls : Array Slot), gk_ok Y.1 Γ M H → va_S (fun q => Γ.2.2 ≤ q) s.heap H locs → gk_lv ls nL L → va_Run p l e R s m args below meth c H locs k n mc ms (F0 m pc ls st0) rest (gk_Q Y Γ r M' a) (fun q => Γ.2.2 ≤ q)) (kk : Gk p l e R s m args below meth c Y Γ nL Q (k + mc) (n + ms) M' (pc + 3) L (r.toList ++ rest)) : Gk p l e R s m args below meth c Y Γ nL Q k n M pc L st0 := by
  intro H locs ls hm hS hl T hT X
  obtain ⟨v, st₀, t, T', Lc, h0, X', hL, e1, e2, ⟨hv, hok, hz, hk⟩, stp⟩ := hr H locs ls hm hS hl T hT X
  cases hv
  rw [h0] at hz hk
  obtain ⟨t2, a1, b1⟩ := kk T'.heap (locs ++ Lc) ls (by rw [e1]; exact hok) ⟨Nat.le_trans hS.1 (by rw [e1]; exact hz), fun q g1 g2 => by rw [e1, hk q (Nat.lt_of_lt_of_le g1 hS.1) g2]; exact hS.2.1 q g1 g2, fun q hq => by
      rcases List.mem_append.mp hq with h | h
      · exact hS.2.2 q h
      · exact hL q h⟩ hl T' rfl X'
  exact ⟨t2, stp t2 a1, b1⟩
theorem gk_preU (B : gk_B p s m args meth c Y Γ cc nL own) {vs : List Value} {H : Heap} {locs : List Loc} (hm : gk_ok Y.1 Γ M H) (hS : va_S (fun q => Γ.2.2 ≤ q) s.heap H locs) : ∀ U : State, U.heap = H → s.WarmedH U.vm → gk_Pc Y Γ vs M vs.toArray U := fun U hU hW => ⟨rfl, by rw [hU]; exact hm, B.2.2.2.2.2.1.moved hW, by rw [hU]; exact Nat.le_trans B.2.2.2.2.2.2.2 hS.1⟩
/-- every word of the table is one that a contract's head keeps -/
def gk_gT (Y : gk_S) : Prop := ∀ w ∈ Y.2.2.2, ((w.onTables && w.keeps) = true ∨ ∃ ty, w = .arrayClass ty)
theorem gk_good {Y : gk_S} (hG : gk_gT Y) {w1 : Cond} (h1 : w1 ∈ Y.2.2.2) : GoodIn Y.2.2.2 (w1 :: Y.2.2.2) := fun w hw => by
  rcases List.mem_cons.mp hw with rfl | h
  · exact ⟨h1, hG _ h1⟩
  · exact ⟨h, hG _ h⟩
/-- what a call asks of the callee's name: decided once for each method -/
def gk_nm (y : MethodName) (na : Nat) : Prop := y.cls ≠ "java/lang/invoke/MethodHandle" ∧ y.cls ≠ "java/lang/invoke/VarHandle" ∧ (parseMethodDescriptor y.desc).map (fun d => d.parameters.length) = some na
theorem Gk_callV (B : gk_B p s m args meth c Y Γ cc nL own) (hG : gk_gT Y) {y : MethodName} {bytes : ByteArray} {maxL index na ci N : Nat} {C : String} {T : u_T} {ret : Option FieldType} {rm : Room} {r0 : Option Nat} {fs : List Value} {As rest : List Value} {r : Option Value} {M' : gk_M} (d : decode cc pc = .ok (.invokevirtual index, 3)) (hM : gk_Met l Y Γ y (.code y bytes maxL ret :: Y.2.2.2) rm (va_rf r0 :: As) M r M') (ho : gk_ob M ci r0 = some fs) (hc : Y.1[ci]? = some (C, T, N)) (hcode : Cond.code y bytes maxL ret ∈ Y.2.2.2) (hlink : Cond.methodLink own index y ∈ Y.2.2.2) (hinst : Cond.instanceMethod y ∈ Y.2.2.2) (hsel : Cond.selects C y y ∈ Y.2.2.2) (hini : Cond.initialized y.cls ∈ Y.2.2.2) (hy : gk_nm y na) (hn : As.length = na) (hst : (rest.map fun v => v.category).sum ≤ 8) (hR : rm.frames + 1 ≤ R.frames ∧ 8 + (maxL + 11) + rm.locals ≤ R.locals) (hf : k + rm.cells ≤ R.cells ∧ n + rm.slots ≤ R.slots) {st0 : List Value} (hs0 : As.reverse ++ va_rf r0 :: rest = st0) {st1 : List Value} {k1 n1 : Nat} (hs1 : r.toList ++ rest = st1) (hk1 : k + rm.cells = k1) (hn1 : n + rm.slots = n1) (kk : Gk p l e R s m args below meth c Y Γ nL Q k1 n1 M' (pc + 3) L st1) : Gk p l e R s m args below meth c Y Γ nL Q k n M pc L st0 := by
  obtain ⟨a, rfl, ha⟩ := gk_ob_eq ho
  subst hs0
  subst hs1
  subst hk1
  subst hn1
  have hts := B.2.2.2.2.1
  refine Gk_run (a := (Value.ref a :: As).toArray) (fun H locs ls hm hS hl => ?_) kk
  refine va_runV ⟨B.1, B.2.1, B.2.2.1, B.2.2.2.1, hts⟩ hM ⟨callB_of na hts (gk_good hG hcode) rfl rfl rfl (hts _ hini) (hts _ hlink) hy hR, hts _ hinst, hts _ hsel⟩ ⟨gk_Pc.blind, va_recv (q0 := 0) B.2.2.2.2.2.1.obj (hm.cel ha) hc rfl, gk_preU B hm hS⟩ rfl hn hl.1 rfl (lv_room hst) d hf
theorem Gk_callVN (B : gk_B p s m args meth c Y Γ cc nL own) (hG : gk_gT Y) {y : MethodName} {bytes : ByteArray} {maxL index na ci N : Nat} {C host : String} {T : u_T} {ret : Option FieldType} {rm : Room} {r0 : Option Nat} {fs : List Value} {As rest : List Value} {r : Option Value} {M' : gk_M} (d : decode cc pc = .ok (.invokevirtual index, 3)) (hM : gk_Met l Y Γ y (.code y bytes maxL ret :: Y.2.2.2) rm (va_rf r0 :: As) M r M') (ho : gk_ob M ci r0 = some fs) (hc : Y.1[ci]? = some (C, T, N)) (hcode : Cond.code y bytes maxL ret ∈ Y.2.2.2) (hlink : Cond.methodLinkNest own index y host ∈ Y.2.2.1) (hinst : Cond.instanceMethod y ∈ Y.2.2.2) (hsel : Cond.selects C y y ∈ Y.2.2.2) (hini : Cond.initialized y.cls ∈ Y.2.2.2) (hy : gk_nm y na) (hn : As.length = na) (hst : (rest.map fun v => v.category).sum ≤ 8) (hR : rm.frames + 1 ≤ R.frames ∧ 8 + (maxL + 11) + rm.locals ≤ R.locals) (hf : k + rm.cells ≤ R.cells ∧ n + rm.slots ≤ R.slots) {st0 : List Value} (hs0 : As.reverse ++ va_rf r0 :: rest = st0) {st1 : List Value} {k1 n1 : Nat} (hs1 : r.toList ++ rest = st1) (hk1 : k + rm.cells = k1) (hn1 : n + rm.slots = n1) (kk : Gk p l e R s m args below meth c Y Γ nL Q k1 n1 M' (pc + 3) L st1) : Gk p l e R s m args below meth c Y Γ nL Q k n M pc L st0 := by
  obtain ⟨a, rfl, ha⟩ := gk_ob_eq ho
  subst hs0
  subst hs1
  subst hk1
  subst hn1
  have hts := B.2.2.2.2.1
  refine Gk_run (a := (Value.ref a :: As).toArray) (fun H locs ls hm hS hl => ?_) kk
  refine va_runVN ⟨B.1, B.2.1, B.2.2.1, B.2.2.2.1, hts⟩ hM ⟨va_cnB na hts (gk_good hG hcode) rfl rfl rfl (B.2.2.2.2.2.1.2.2 _ hlink).2 (hts _ hini) hy hR, hts _ hinst, hts _ hsel⟩ ⟨gk_Pc.blind, va_recv (q0 := 0) B.2.2.2.2.2.1.obj (hm.cel ha) hc rfl, gk_preU B hm hS⟩ rfl hn hl.1 rfl (lv_room hst) d hf
theorem Gk_callS (B : gk_B p s m args meth c Y Γ cc nL own) (hG : gk_gT Y) {y : MethodName} {bytes : ByteArray} {maxL index na : Nat} {ret : Option FieldType} {rm : Room} {As rest : List Value} {r : Option Value} {M' : gk_M} (d : decode cc pc = .ok (.invokestatic index, 3)) (hM : gk_Met l Y Γ y (.code y bytes maxL ret :: Y.2.2.2) rm As M r M') (hcode : Cond.code y bytes maxL ret ∈ Y.2.2.2) (hlink : Cond.methodLink own index y ∈ Y.2.2.2) (hstat : Cond.static y ∈ Y.2.2.2) (hini : Cond.initialized y.cls ∈ Y.2.2.2) (hy : gk_nm y na) (hn : As.length = na) (hst : (rest.map fun v => v.category).sum ≤ 8) (hR : rm.frames + 1 ≤ R.frames ∧ 8 + (maxL + 11) + rm.locals ≤ R.locals) (hf : k + rm.cells ≤ R.cells ∧ n + rm.slots ≤ R.slots) {st0 : List Value} (hs0 : As.reverse ++ rest = st0) {st1 : List Value} {k1 n1 : Nat} (hs1 : r.toList ++ rest = st1) (hk1 : k + rm.cells = k1) (hn1 : n + rm.slots = n1) (kk : Gk p l e R s m args below meth c Y Γ nL Q k1 n1 M' (pc + 3) L st1) : Gk p l e R s m args below meth c Y Γ nL Q k n M pc L st0 := by
  subst hs0
  subst hs1
  subst hk1
  subst hn1
  have hts := B.2.2.2.2.1
  refine Gk_run (a := As.toArray) (fun H locs ls hm hS hl => ?_) kk
  refine va_runS ⟨B.1, B.2.1, B.2.2.1, B.2.2.2.1, hts⟩ hM ⟨callB_of na hts (gk_good hG hcode) rfl rfl rfl (hts _ hini) (hts _ hlink) hy hR, hts _ hstat⟩ ⟨gk_Pc.blind, gk_preU B hm hS⟩ rfl hn hl.1 rfl (lv_room hst) d hf
theorem Gk_callSN (B : gk_B p s m args meth c Y Γ cc nL own) (hG : gk_gT Y) {y : MethodName} {bytes : ByteArray} {maxL index na : Nat} {host : String} {ret : Option FieldType} {rm : Room} {As rest : List Value} {r : Option Value} {M' : gk_M} (d : decode cc pc = .ok (.invokestatic index, 3)) (hM : gk_Met l Y Γ y (.code y bytes maxL ret :: Y.2.2.2) rm As M r M') (hcode : Cond.code y bytes maxL ret ∈ Y.2.2.2) (hlink : Cond.methodLinkNest own index y host ∈ Y.2.2.1) (hstat : Cond.static y ∈ Y.2.2.2) (hini : Cond.initialized y.cls ∈ Y.2.2.2) (hy : gk_nm y na) (hn : As.length = na) (hst : (rest.map fun v => v.category).sum ≤ 8) (hR : rm.frames + 1 ≤ R.frames ∧ 8 + (maxL + 11) + rm.locals ≤ R.locals) (hf : k + rm.cells ≤ R.cells ∧ n + rm.slots ≤ R.slots) {st0 : List Value} (hs0 : As.reverse ++ rest = st0) {st1 : List Value} {k1 n1 : Nat} (hs1 : r.toList ++ rest = st1) (hk1 : k + rm.cells = k1) (hn1 : n + rm.slots = n1) (kk : Gk p l e R s m args below meth c Y Γ nL Q k1 n1 M' (pc + 3) L st1) : Gk p l e R s m args below meth c Y Γ nL Q k n M pc L st0 := by
  subst hs0
  subst hs1
  subst hk1
  subst hn1
  have hts := B.2.2.2.2.1
  refine Gk_run (a := As.toArray) (fun H locs ls hm hS hl => ?_) kk
  refine va_runSN ⟨B.1, B.2.1, B.2.2.1, B.2.2.2.1, hts⟩ hM ⟨va_cnB na hts (gk_good hG hcode) rfl rfl rfl (B.2.2.2.2.2.1.2.2 _ hlink).2 (hts _ hini) hy hR, hts _ hstat, trivial⟩ ⟨gk_Pc.blind, gk_preU B hm hS⟩ rfl hn hl.1 rfl (lv_room hst) d hf
theorem Gk_callI (B : gk_B p s m args meth c Y Γ cc nL own) (hG : gk_gT Y) {y : MethodName} {bytes : ByteArray} {maxL index na a : Nat} {rm : Room} {r0 : Option Nat} {As rest : List Value} {M' : gk_M} (d : decode cc pc = .ok (.invokespecial index, 3)) (hM : gk_Met l Y Γ y (.code y bytes maxL none :: Y.2.2.2) rm (va_rf r0 :: As) M none M') (ho : r0 = some a) (hyn : y.name = "<init>") (hcode : Cond.code y bytes maxL none ∈ Y.2.2.2) (hlink : Cond.methodLink own index y ∈ Y.2.2.2) (hinst : Cond.instanceMethod y ∈ Y.2.2.2) (hini : Cond.initialized y.cls ∈ Y.2.2.2) (hy : gk_nm y na) (hn : As.length = na) (hst : (rest.map fun v => v.category).sum ≤ 8) (hR : rm.frames + 1 ≤ R.frames ∧ 8 + (maxL + 11) + rm.locals ≤ R.locals) (hf : k + rm.cells ≤ R.cells ∧ n + rm.slots ≤ R.slots) {st0 : List Value} (hs0 : As.reverse ++ va_rf r0 :: rest = st0) {st1 : List Value} {k1 n1 : Nat} (hs1 : rest = st1) (hk1 : k + rm.cells = k1) (hn1 : n + rm.slots = n1) (kk : Gk p l e R s m args below meth c Y Γ nL Q k1 n1 M' (pc + 3) L st1) : Gk p l e R s m args below meth c Y Γ nL Q k n M pc L st0 := by
  subst ho
  subst hs0
  subst hs1
  subst hk1
  subst hn1
  have hts := B.2.2.2.2.1
  refine Gk_run (a := (Value.ref a :: As).toArray) (r := none) (fun H locs ls hm hS hl => ?_) kk
  refine va_runI ⟨B.1, B.2.1, B.2.2.1, B.2.2.2.1, hts⟩ hM ⟨callB_of na hts (gk_good hG hcode) rfl rfl rfl (hts _ hini) (hts _ hlink) hy hR, hyn, hts _ hinst⟩ ⟨gk_Pc.blind, gk_preU B hm hS⟩ rfl hn hl.1 rfl (lv_room hst) d hf
theorem Gk_callIN (B : gk_B p s m args meth c Y Γ cc nL own) (hG : gk_gT Y) {y : MethodName} {bytes : ByteArray} {maxL index na a : Nat} {host : String} {rm : Room} {r0 : Option Nat} {As rest : List Value} {M' : gk_M} (d : decode cc pc = .ok (.invokespecial index, 3)) (hM : gk_Met l Y Γ y (.code y bytes maxL none :: Y.2.2.2) rm (va_rf r0 :: As) M none M') (ho : r0 = some a) (hyn : y.name = "<init>") (hcode : Cond.code y bytes maxL none ∈ Y.2.2.2) (hlink : Cond.methodLinkNest own index y host ∈ Y.2.2.1) (hinst : Cond.instanceMethod y ∈ Y.2.2.2) (hini : Cond.initialized y.cls ∈ Y.2.2.2) (hy : gk_nm y na) (hn : As.length = na) (hst : (rest.map fun v => v.category).sum ≤ 8) (hR : rm.frames + 1 ≤ R.frames ∧ 8 + (maxL + 11) + rm.locals ≤ R.locals) (hf : k + rm.cells ≤ R.cells ∧ n + rm.slots ≤ R.slots) {st0 : List Value} (hs0 : As.reverse ++ va_rf r0 :: rest = st0) {st1 : List Value} {k1 n1 : Nat} (hs1 : rest = st1) (hk1 : k + rm.cells = k1) (hn1 : n + rm.slots = n1) (kk : Gk p l e R s m args below meth c Y Γ nL Q k1 n1 M' (pc + 3) L st1) : Gk p l e R s m args below meth c Y Γ nL Q k n M pc L st0 := by
  subst ho
  subst hs0
  subst hs1
  subst hk1
  subst hn1
  have hts := B.2.2.2.2.1
  refine Gk_run (a := (Value.ref a :: As).toArray) (r := none) (fun H locs ls hm hS hl => ?_) kk
  refine va_runIN ⟨B.1, B.2.1, B.2.2.1, B.2.2.2.1, hts⟩ hM ⟨va_cnB na hts (gk_good hG hcode) rfl rfl rfl (B.2.2.2.2.2.1.2.2 _ hlink).2 (hts _ hini) hy hR, hyn, hts _ hinst⟩ ⟨gk_Pc.blind, gk_preU B hm hS⟩ rfl hn hl.1 rfl (lv_room hst) d hf
theorem Gk_mmin (B : gk_B p s m args meth c Y Γ cc nL own) {index : Nat} {x y : Int32} (d : decode cc pc = .ok (.invokestatic index, 3)) (hlink : Cond.methodLink own index Lib.Math.min.name ∈ Y.2.2.2) (hstat : Cond.static Lib.Math.min.name ∈ Y.2.2.2) (hini : Cond.initialized "java/lang/Math" ∈ Y.2.2.2) (hcode : Cond.code Lib.Math.min.name Lib.Math.min.code 2 (some .int) ∈ Y.2.2.2) (hfr : 1 ≤ R.frames) (hlo : (st.map fun v => v.category).sum + 13 ≤ R.locals) (hk : k ≤ R.cells) (hs : n ≤ R.slots) (kk : Gk p l e R s m args below meth c Y Γ nL Q k n M (pc + 3) L (.int (if y < x then y else x) :: st)) : Gk p l e R s m args below meth c Y Γ nL Q k n M pc L (.int y :: .int x :: st) := fun H locs ls hm hS hl => va_mmin B.1 B.2.1 (by rw [B.2.2.1]; exact hl.1.symm) B.2.2.2.1 (B.2.2.2.2.1 _ hlink) (B.2.2.2.2.1 _ hstat) (B.2.2.2.2.1 _ hini) (B.2.2.2.2.1 _ hcode) hfr hlo hk hs d (kk H locs ls hm hS hl)
theorem Gk_mmax (B : gk_B p s m args meth c Y Γ cc nL own) {index : Nat} {x y : Int32} (d : decode cc pc = .ok (.invokestatic index, 3)) (hlink : Cond.methodLink own index Lib.Math.max.name ∈ Y.2.2.2) (hstat : Cond.static Lib.Math.max.name ∈ Y.2.2.2) (hini : Cond.initialized "java/lang/Math" ∈ Y.2.2.2) (hcode : Cond.code Lib.Math.max.name Lib.Math.max.code 2 (some .int) ∈ Y.2.2.2) (hfr : 1 ≤ R.frames) (hlo : (st.map fun v => v.category).sum + 13 ≤ R.locals) (hk : k ≤ R.cells) (hs : n ≤ R.slots) (kk : Gk p l e R s m args below meth c Y Γ nL Q k n M (pc + 3) L (.int (if x < y then y else x) :: st)) : Gk p l e R s m args below meth c Y Γ nL Q k n M pc L (.int y :: .int x :: st) := fun H locs ls hm hS hl => va_mmax B.1 B.2.1 (by rw [B.2.2.1]; exact hl.1.symm) B.2.2.2.1 (B.2.2.2.2.1 _ hlink) (B.2.2.2.2.1 _ hstat) (B.2.2.2.2.1 _ hini) (B.2.2.2.2.1 _ hcode) hfr hlo hk hs d (kk H locs ls hm hS hl)
theorem Gk_mabs (B : gk_B p s m args meth c Y Γ cc nL own) {index : Nat} {x : Int32} (d : decode cc pc = .ok (.invokestatic index, 3)) (hlink : Cond.methodLink own index Lib.Math.abs.name ∈ Y.2.2.2) (hstat : Cond.static Lib.Math.abs.name ∈ Y.2.2.2) (hini : Cond.initialized "java/lang/Math" ∈ Y.2.2.2) (hcode : Cond.code Lib.Math.abs.name Lib.Math.abs.code 1 (some .int) ∈ Y.2.2.2) (hfr : 1 ≤ R.frames) (hlo : (st.map fun v => v.category).sum + 13 ≤ R.locals) (hk : k ≤ R.cells) (hs : n ≤ R.slots) (kk : Gk p l e R s m args below meth c Y Γ nL Q k n M (pc + 3) L (.int (if 0 ≤ x then x else 0 - x) :: st)) : Gk p l e R s m args below meth c Y Γ nL Q k n M pc L (.int x :: st) := fun H locs ls hm hS hl => va_mabs B.1 B.2.1 (by rw [B.2.2.1]; exact hl.1.symm) B.2.2.2.1 (B.2.2.2.2.1 _ hlink) (B.2.2.2.2.1 _ hstat) (B.2.2.2.2.1 _ hini) (B.2.2.2.2.1 _ hcode) hfr hlo hk hs d (kk H locs ls hm hS hl)
theorem Gk_mminL (B : gk_B p s m args meth c Y Γ cc nL own) {index : Nat} {x y : Int64} (d : decode cc pc = .ok (.invokestatic index, 3)) (hlink : Cond.methodLink own index Lib.MathLoose.min_long.x ∈ Y.2.2.2) (hstat : Cond.static Lib.MathLoose.min_long.x ∈ Y.2.2.2) (hini : Cond.initialized "java/lang/Math" ∈ Y.2.2.2) (hcode : Cond.code Lib.MathLoose.min_long.x Lib.MathLoose.min_long.code 4 (some .long) ∈ Y.2.2.2) (hfr : 1 ≤ R.frames) (hlo : (st.map fun v => v.category).sum + 15 ≤ R.locals) (hk : k ≤ R.cells) (hs : n ≤ R.slots) (kk : Gk p l e R s m args below meth c Y Γ nL Q k n M (pc + 3) L (.long (if y < x then y else x) :: st)) : Gk p l e R s m args below meth c Y Γ nL Q k n M pc L (.long y :: .long x :: st) := fun H locs ls hm hS hl => va_mmin_long B.1 B.2.1 (by rw [B.2.2.1]; exact hl.1.symm) B.2.2.2.1 (B.2.2.2.2.1 _ hlink) (B.2.2.2.2.1 _ hstat) (B.2.2.2.2.1 _ hini) (B.2.2.2.2.1 _ hcode) hfr hlo hk hs d (kk H locs ls hm hS hl)
theorem gk_clampI {z : Int32} (hz : ¬ z < 0) : z.toInt = (z.toNatClampNeg : Int) := by
  have hz0 : (0 : Int) ≤ z.toInt := by
    have := Int32.not_lt.mp hz
    simpa using Int32.le_iff_toInt_le.mp this
  show z.toInt = ((z.toInt.toNat : Nat) : Int)
  omega
theorem Gk_copy (B : gk_B p s m args meth c Y Γ cc nL own) {index t : Nat} {ty : FieldType} {r0 r1 : Option Nat} {sp dp i : Int32} {M' : gk_M} (d : decode cc pc = .ok (.invokestatic index, 3)) (ht : Y.2.1[t]? = some ty) (hprim : refKind ty = false) (hlink : Cond.methodLink own index arraycopyName ∈ Y.2.2.2) (hnat : Cond.native arraycopyName ∈ Y.2.2.2) (hstat : Cond.static arraycopyName ∈ Y.2.2.2) (hini : Cond.initialized "java/lang/System" ∈ Y.2.2.2) (hfr : 1 ≤ R.frames) (hlo : (st.map fun v => v.category).sum + (nativeFrameWords "java/lang/System" "arraycopy" 5 + 11) ≤ R.locals) (h : gk_cp M t ty r0 sp r1 dp i = some M') (kk : Gk p l e R s m args below meth c Y Γ nL Q k n M' (pc + 3) L st) : Gk p l e R s m args below meth c Y Γ nL Q k n M pc L (.int i :: .int dp :: va_rf r1 :: .int sp :: va_rf r0 :: st) := by
  obtain ⟨⟨n0, f⟩, ho0, h01⟩ := gk_bind h
  clear h
  obtain ⟨a0, rfl, ha0⟩ := gk_ia_eq ho0
  obtain ⟨⟨n1, g⟩, ho1, h02⟩ := gk_bind h01
  clear h01
  obtain ⟨a, rfl, ha⟩ := gk_ia_eq ho1
  obtain ⟨⟨h1, h2, h3, h4, h5, hfit⟩, h03⟩ := gk_if h02
  cases h03
  simp only at h4 h5 hfit
  intro H locs ls hm hS hl T hT X
  have hc0 : H[a0]? = some (vp_cell (Γ.2.1 t) (n0, .inl f)) := (hm.2 a0 _ ha0).2
  have hc1 : H[a]? = some (vp_cell (Γ.2.1 t) (n1, .inl g)) := (hm.2 a _ ha).2
  have hK := B.2.2.2.2.2.1.arr ht
  obtain ⟨-, k0, hk0, cm0, hkk0⟩ := (hK.2 0 _ rfl).1 n0 (fun j => .int (f j))
  obtain ⟨-, k1, hk1, cm1, hkk1⟩ := (hK.2 0 _ rfl).1 n1 (fun j => .int (g j))
  obtain ⟨vm', X', step⟩ := X.arraycopy B.1 B.2.2.2.1 (B.2.2.2.2.1 _ hlink) (B.2.2.2.2.1 _ hnat) (B.2.2.2.2.1 _ hstat) (B.2.2.2.2.1 _ hini) (src := a0) (dst := a) (cs := vp_cell (Γ.2.1 t) (n0, .inl f)) (cd := vp_cell (Γ.2.1 t) (n1, .inl g)) (srcPos := sp) (destPos := dp) (n := i) (by rw [hT]; exact hc0) (by rw [hT]; exact hc1)
    (fun _ h => by cases h) (fun _ h => by cases h) (fun h => by cases h) (fun h => by cases h) hk0 hk1 hkk0 hkk1 (by simp [hprim]) h1 h2 h3
    (by rw [gk_clampI h1, gk_clampI h3]; show ¬ _ > ((arrV (Γ.2.1 t) n0 (fun j => .int (f j))).slots.size : Int); rw [arrV_size]; omega)
    (by rw [gk_clampI h2, gk_clampI h3]; show ¬ _ > ((arrV (Γ.2.1 t) n1 (fun j => .int (g j))).slots.size : Int); rw [arrV_size]; omega)
    (fun vm₁ _ j hj => by
      have e : (vp_cell (Γ.2.1 t) (n0, .inl f)).slots.getD (sp.toNatClampNeg + j) .null = .int (f (sp.toNatClampNeg + j)) := by
        show (arrV (Γ.2.1 t) n0 (fun j => .int (f j))).slots.getD _ _ = _
        rw [Array.getD_eq_getD_getElem?, arrV_read _ _ (by omega)]
        rfl
      refine ⟨?_, ?_⟩
      · rw [e]
        exact List.all_eq_true.mp hfit j (List.mem_range.mpr hj)
      · rw [e]
        exact trivial)
    (g := F0 m pc ls (.int i :: .int dp :: .ref a :: .int sp :: .ref a0 :: st)) rfl (by rw [B.2.2.1]; exact hl.1) (rest := st) rfl (by rw [B.2.1]; exact d) hfr (by show 2 * 0 + _ + _ ≤ _; omega)
  have e1 : copied (vp_cell (Γ.2.1 t) (n0, .inl f)) (vp_cell (Γ.2.1 t) (n1, .inl g)) sp dp i = vp_cell (Γ.2.1 t) (n1, .inl (va_cpy f g sp.toNatClampNeg dp.toNatClampNeg i.toNatClampNeg)) := va_copied (fun z => .int z) _ _ f g h4
  rw [e1] at X' step
  have hla : a < H.size := (Array.getElem?_eq_some_iff.mp hc1).1
  have hheap : ((T.setVm vm').setCell a (vp_cell (Γ.2.1 t) (n1, .inl (va_cpy f g sp.toNatClampNeg dp.toNatClampNeg i.toNatClampNeg)))).heap = H.setIfInBounds a (vp_cell (Γ.2.1 t) (n1, .inl (va_cpy f g sp.toNatClampNeg dp.toNatClampNeg i.toNatClampNeg))) := by rw [← hT]; rfl
  have oq : ∀ q : Nat, q ≠ a → (H.setIfInBounds a (vp_cell (Γ.2.1 t) (n1, .inl (va_cpy f g sp.toNatClampNeg dp.toNatClampNeg i.toNatClampNeg))))[q]? = H[q]? := fun q hq => by simp [Array.getElem?_setIfInBounds, Ne.symm hq]
  obtain ⟨t2, a1, b1⟩ := kk _ _ ls (hm.set ha (show (H.setIfInBounds a _)[a]? = some _ by simp [Array.getElem?_setIfInBounds, hla]) (by simp) oq) ⟨by simp; exact hS.1, fun q g1 g2 => by
      rw [oq q (fun e => g2 (by rw [e]; exact (hm.2 a _ ha).1))]
      exact hS.2.1 q g1 g2, fun q hq => by
      rcases List.mem_append.mp hq with h | h
      · exact hS.2.2 q h
      · obtain ⟨z, -, hz⟩ := List.mem_map.mp h
        rw [← hz]
        exact (hm.2 a _ ha).1⟩ hl _ hheap X'
  exact ⟨t2, step t2 a1, b1⟩
theorem Gk_tabOut (B : gk_B p s m args meth c Y Γ cc nL own) {dflt lo hi : Int} {offs : Array Int} {len : Nat} {x : Int32} {tgt : Nat} (d : decode cc pc = .ok (.tableswitch dflt lo hi offs, len)) (h : x.toInt < lo ∨ hi < x.toInt) (ht : (pc : Int) + dflt = (tgt : Int)) (kk : Gk p l e R s m args below meth c Y Γ nL Q k n M tgt L st) : Gk p l e R s m args below meth c Y Γ nL Q k n M pc L (.int x :: st) := fun H locs ls hm hS hl => lv_tableOut B.1 B.2.1 d h ht (kk H locs ls hm hS hl)
theorem Gk_tabIn (B : gk_B p s m args meth c Y Γ cc nL own) {dflt lo hi : Int} {offs : Array Int} {len : Nat} {x : Int32} {off : Int} {tgt : Nat} (d : decode cc pc = .ok (.tableswitch dflt lo hi offs, len)) (h1 : ¬ x.toInt < lo) (h2 : ¬ hi < x.toInt) (ho : offs[(x.toInt - lo).toNat]? = some off) (ht : (pc : Int) + off = (tgt : Int)) (kk : Gk p l e R s m args below meth c Y Γ nL Q k n M tgt L st) : Gk p l e R s m args below meth c Y Γ nL Q k n M pc L (.int x :: st) := fun H locs ls hm hS hl => lv_tableIn B.1 B.2.1 d h1 h2 ho ht (kk H locs ls hm hS hl)
theorem Gk_lookup (B : gk_B p s m args meth c Y Γ cc nL own) {dflt : Int} {ps : Array (Int × Int)} {len : Nat} {x : Int32} {off : Int} {tgt : Nat} (d : decode cc pc = .ok (.lookupswitch dflt ps, len)) (hp : (ps.toList.zip (ps.toList.drop 1)).all (fun (a, next) => a.1 < next.1) = true) (ho : Op.lookupswitch.offset ps.toList dflt x.toInt = off) (ht : (pc : Int) + off = (tgt : Int)) (kk : Gk p l e R s m args below meth c Y Γ nL Q k n M tgt L st) : Gk p l e R s m args below meth c Y Γ nL Q k n M pc L (.int x :: st) := fun H locs ls hm hS hl => lv_lookup B.1 B.2.1 d hp ho ht (kk H locs ls hm hS hl)
/-! ends -/
theorem Gk_iret (B : gk_B p s m args meth c Y Γ cc nL own) {mc ms : Nat} {x : Int32} {ty : FieldType} {M' : gk_M} (hr : meth.sig.returnType = some ty) (d : decode cc pc = .ok (.ireturn, 1)) (hn : narrow ty (.int x) = .int x) (h1 : k ≤ mc) (h2 : n ≤ ms) (he : M = M') : Gk p l e R s m args below meth c Y Γ nL (MQ below (gk_Q Y Γ (some (.int x)) M') args s mc ms (fun q => Γ.2.2 ≤ q)) k n M pc L [.int x] := by
  subst he
  exact fun H locs ls hm hS hl => W.widen h1 h2 (W.zret B.1 B.2.1 hr hn (fun t ht hW => ⟨rfl, by rw [ht]; exact hm, hS.F ht⟩) hS.2.2 d B.2.2.2.2.2.2.1)
theorem Gk_vret (B : gk_B p s m args meth c Y Γ cc nL own) {mc ms : Nat} {M' : gk_M} (hr : meth.sig.returnType = none) (d : decode cc pc = .ok (.return_, 1)) (h1 : k ≤ mc) (h2 : n ≤ ms) (he : M = M') : Gk p l e R s m args below meth c Y Γ nL (MQ below (gk_Q Y Γ none M') args s mc ms (fun q => Γ.2.2 ≤ q)) k n M pc L [] := by
  subst he
  exact fun H locs ls hm hS hl => W.widen h1 h2 (W.vret B.1 B.2.1 hr (fun t ht hW => ⟨rfl, by rw [ht]; exact hm, hS.F ht⟩) hS.2.2 d B.2.2.2.2.2.2.1)
theorem Gk_aret (B : gk_B p s m args meth c Y Γ cc nL own) {mc ms : Nat} {r : Option Nat} {rt : FieldType} {M' : gk_M} (hr : meth.sig.returnType = some rt) (d : decode cc pc = .ok (.areturn, 1)) (hrt : (∃ n, rt = .object n) ∨ ∃ t, rt = .array t) (h1 : k ≤ mc) (h2 : n ≤ ms) (he : M = M') : Gk p l e R s m args below meth c Y Γ nL (MQ below (gk_Q Y Γ (some (va_rf r)) M') args s mc ms (fun q => Γ.2.2 ≤ q)) k n M pc L [va_rf r] := by
  subst he
  exact fun H locs ls hm hS hl => W.widen h1 h2 (W.aret B.1 B.2.1 hr hrt (by cases r; exact Or.inl rfl; exact Or.inr ⟨_, rfl⟩) (fun t ht hW => ⟨rfl, by rw [ht]; exact hm, hS.F ht⟩) hS.2.2 d B.2.2.2.2.2.2.1)
end GKR
/-- a method's contract out of the walk of its body -/
theorem gk_start {l : Launch} {Y : gk_S} {Γ : gk_G} {y : MethodName} {rm : Room} {vs : List Value} {M M' : gk_M} {r : Option Value} {cc : ByteArray} {maxL : Nat} {ret : Option FieldType} (hy : plainName y.cls = true) (hn : (lg_sl vs).length ≤ maxL) (L : List (Option Value)) (hL : ∀ q ∈ gk_as L 0, q ∈ lv_args 0 vs)
    (body : ∀ (p : Program) (e : Env) (s : State) (m : MethodId) (args : Array Value) (below : List Frame) (meth : Method) (c : Code), gk_B p s m args meth c Y Γ cc maxL y.cls → meth.sig.returnType = ret → meth.name = y.name → Gk p l e rm s m args below meth c Y Γ maxL (MQ below (gk_Q Y Γ r M') args s rm.cells rm.slots (fun q => Γ.2.2 ≤ q)) 0 0 M 0 L []) : gk_Met l Y Γ y (.code y cc maxL ret :: Y.2.2.2) rm vs M r M' := by
  refine Met.ofW (cc := cc) (maxL := maxL) (ret := ret) hy rfl ?_
  intro p e s m args below meth c s₁ B hml hv
  obtain ⟨rfl, hm, hK, hlo⟩ := hv
  have hts := atoms_spec (ws := .code y cc maxL ret :: Y.2.2.2) B.pre
  have hown : s.vm.findClass y.cls = some m.cls := findClass_of_methodNamed B.named
  have hin : meth.name = y.name := (name_of_methodNamed B.named B.method).1
  have hl := lv_entry vs (n := maxL) hn
  rw [lg_entry_eq]
  exact body p e s m vs.toArray below meth c ⟨B.exec, B.bytes, hml, hown, fun w hw => hts w (List.mem_cons_of_mem _ hw), hK, B.notSynchronized, hlo⟩ B.returns hin s.heap [] _ hm va_S.rf ⟨hl.1, hl.2.1, fun q hq => hl.2.2 q (hL q hq)⟩

