theorem d_Mo_keep_0 : decode c_Mo_keep 0 = .ok (.aload_n 0, 1) := by decide +kernel
theorem d_Mo_keep_1 : decode c_Mo_keep 1 = .ok (.getfield 16, 3) := by decide +kernel
theorem d_Mo_keep_4 : decode c_Mo_keep 4 = .ok (.iload_n 1, 1) := by decide +kernel
theorem d_Mo_keep_5 : decode c_Mo_keep 5 = .ok (.iload_n 2, 1) := by decide +kernel
theorem d_Mo_keep_6 : decode c_Mo_keep 6 = .ok (.ifCond .eq 10, 3) := by decide +kernel
theorem d_Mo_keep_9 : decode c_Mo_keep 9 = .ok (.aload_n 0, 1) := by decide +kernel
theorem d_Mo_keep_10 : decode c_Mo_keep 10 = .ok (.getfield 118, 3) := by decide +kernel
theorem d_Mo_keep_13 : decode c_Mo_keep 13 = .ok (.goto 4, 3) := by decide +kernel
theorem d_Mo_keep_16 : decode c_Mo_keep 16 = .ok (.iconst 0, 1) := by decide +kernel
theorem d_Mo_keep_17 : decode c_Mo_keep 17 = .ok (.iastore, 1) := by decide +kernel
theorem d_Mo_keep_18 : decode c_Mo_keep 18 = .ok (.iconst 0, 1) := by decide +kernel
theorem d_Mo_keep_19 : decode c_Mo_keep 19 = .ok (.istore_n 3, 1) := by decide +kernel
theorem d_Mo_keep_20 : decode c_Mo_keep 20 = .ok (.iload_n 3, 1) := by decide +kernel
theorem d_Mo_keep_21 : decode c_Mo_keep 21 = .ok (.aload_n 0, 1) := by decide +kernel
theorem d_Mo_keep_22 : decode c_Mo_keep 22 = .ok (.getfield 16, 3) := by decide +kernel
theorem d_Mo_keep_25 : decode c_Mo_keep 25 = .ok (.iload_n 1, 1) := by decide +kernel
theorem d_Mo_keep_26 : decode c_Mo_keep 26 = .ok (.iaload, 1) := by decide +kernel
theorem d_Mo_keep_27 : decode c_Mo_keep 27 = .ok (.if_icmp .ge 26, 3) := by decide +kernel
theorem d_Mo_keep_30 : decode c_Mo_keep 30 = .ok (.aload_n 0, 1) := by decide +kernel
theorem d_Mo_keep_31 : decode c_Mo_keep 31 = .ok (.getfield 13, 3) := by decide +kernel
theorem d_Mo_keep_34 : decode c_Mo_keep 34 = .ok (.bipush 24, 2) := by decide +kernel
theorem d_Mo_keep_36 : decode c_Mo_keep 36 = .ok (.iload_n 1, 1) := by decide +kernel
theorem d_Mo_keep_37 : decode c_Mo_keep 37 = .ok (.imul, 1) := by decide +kernel
theorem d_Mo_keep_38 : decode c_Mo_keep 38 = .ok (.iload_n 3, 1) := by decide +kernel
theorem d_Mo_keep_39 : decode c_Mo_keep 39 = .ok (.iadd, 1) := by decide +kernel
theorem d_Mo_keep_40 : decode c_Mo_keep 40 = .ok (.aload_n 0, 1) := by decide +kernel
theorem d_Mo_keep_41 : decode c_Mo_keep 41 = .ok (.getfield 7, 3) := by decide +kernel
theorem d_Mo_keep_44 : decode c_Mo_keep 44 = .ok (.iload_n 3, 1) := by decide +kernel
theorem d_Mo_keep_45 : decode c_Mo_keep 45 = .ok (.caload, 1) := by decide +kernel
theorem d_Mo_keep_46 : decode c_Mo_keep 46 = .ok (.castore, 1) := by decide +kernel
theorem d_Mo_keep_47 : decode c_Mo_keep 47 = .ok (.iinc 3 1, 3) := by decide +kernel
theorem d_Mo_keep_50 : decode c_Mo_keep 50 = .ok (.goto (-30), 3) := by decide +kernel
theorem d_Mo_keep_53 : decode c_Mo_keep 53 = .ok (.return_, 1) := by decide +kernel
set_option maxHeartbeats 4000000 in
set_option maxRecDepth 100000 in
theorem sn_Mo_keep_20_bd {l : Launch} {Γ : gk_G} {p : Program} {e : Env} {s : State} {m : MethodId} {args : Array Value} {below : List Frame} {meth : Method} {c : Code} (B : gk_B p s m args meth c gk_Y Γ c_Mo_keep 4 "StageDispatcherModel") (hr : meth.sig.returnType = none) {ρ : gk_M} {k20 : Option Nat → Int32 → Int32 → gk_M → Option (gk_M)} (H20 : ∀ (a0 : Option Nat) (x1 : Int32) (x3 : Int32) (M : gk_M), k20 a0 x1 x3 M = some ρ → Gk p l e rm_Mo_keep s m args below meth c gk_Y Γ 4 (MQ below (gk_Q gk_Y Γ none ρ) args s rm_Mo_keep.cells rm_Mo_keep.slots (fun q => Γ.2.2 ≤ q)) 0 0 M 20 [some (va_rf a0), some (.int x1), none, some (.int x3)] []) {a0 : Option Nat} {x1 : Int32} {x3 : Int32} {M : gk_M} (h : fn_Mo_keep_20_bd k20 a0 x1 x3 M = some ρ) : Gk p l e rm_Mo_keep s m args below meth c gk_Y Γ 4 (MQ below (gk_Q gk_Y Γ none ρ) args s rm_Mo_keep.cells rm_Mo_keep.slots (fun q => Γ.2.2 ≤ q)) 0 0 M 20 [some (va_rf a0), some (.int x1), none, some (.int x3)] [] := by
  unfold fn_Mo_keep_20_bd at h
  refine Gk_iload_n (i := 3) (x := x3) B d_Mo_keep_20 rfl rfl ?_
  refine Gk_aload_n (i := 0) (r := a0) B d_Mo_keep_21 rfl rfl ?_
  obtain ⟨v22, h22, h⟩ := gk_bind h
  refine Gk_getR (j := 3) B d_Mo_keep_22 in_Mo cl_Mo (by decide) tw_758 rfl h22 ?_
  refine Gk_iload_n (i := 1) (x := x1) B d_Mo_keep_25 rfl rfl ?_
  obtain ⟨v26, h26, h⟩ := gk_bind h
  refine Gk_iaload B d_Mo_keep_26 ty_0 h26 ?_
  refine Gk_icmp_ge (tgt := 53) B d_Mo_keep_27 rfl (fun c27 => ?_) (fun c27 => ?_)
  · rw [if_pos c27] at h
    cases h
    exact Gk_vret B hr d_Mo_keep_53 (by decide) (by decide) rfl
  rw [if_neg c27] at h
  refine Gk_aload_n (i := 0) (r := a0) B d_Mo_keep_30 rfl rfl ?_
  obtain ⟨v31, h31, h⟩ := gk_bind h
  refine Gk_getR (j := 2) B d_Mo_keep_31 in_Mo cl_Mo (by decide) tw_757 rfl h31 ?_
  refine Gk_bipush (v := 24) B d_Mo_keep_34 (by decide) ?_
  refine Gk_iload_n (i := 1) (x := x1) B d_Mo_keep_36 rfl rfl ?_
  refine Gk_imul B d_Mo_keep_37 ?_
  refine Gk_iload_n (i := 3) (x := x3) B d_Mo_keep_38 rfl rfl ?_
  refine Gk_iadd B d_Mo_keep_39 ?_
  refine Gk_aload_n (i := 0) (r := a0) B d_Mo_keep_40 rfl rfl ?_
  obtain ⟨v41, h41, h⟩ := gk_bind h
  refine Gk_getR (j := 0) B d_Mo_keep_41 in_Mo cl_Mo (by decide) tw_755 rfl h41 ?_
  refine Gk_iload_n (i := 3) (x := x3) B d_Mo_keep_44 rfl rfl ?_
  obtain ⟨v45, h45, h⟩ := gk_bind h
  refine Gk_caload B d_Mo_keep_45 ty_1 h45 ?_
  obtain ⟨M46, h46, h⟩ := gk_bind h
  refine Gk_castore B d_Mo_keep_46 ty_1 h46 ?_
  refine Gk_iinc (x := x3) (v := (x3 + 1)) (L' := [some (va_rf a0), some (.int x1), none, some (.int (x3 + 1))]) B d_Mo_keep_47 rfl (congrArg (fun z => x3 + z) (by decide : Int32.ofInt 1 = 1)) (by decide) (gk_c1_n rfl) rfl ?_
  refine Gk_goto (tgt := 20) B d_Mo_keep_50 rfl ?_
  exact H20 a0 x1 (x3 + 1) M46 h
set_option maxHeartbeats 4000000 in
set_option maxRecDepth 100000 in
theorem sn_Mo_keep_20 {l : Launch} {Γ : gk_G} {p : Program} {e : Env} {s : State} {m : MethodId} {args : Array Value} {below : List Frame} {meth : Method} {c : Code} (B : gk_B p s m args meth c gk_Y Γ c_Mo_keep 4 "StageDispatcherModel") (hr : meth.sig.returnType = none) {ρ : gk_M}   {a0 : Option Nat} {x1 : Int32} {x3 : Int32} {M : gk_M} (h : fn_Mo_keep_20  a0 x1 x3 M = some ρ) : Gk p l e rm_Mo_keep s m args below meth c gk_Y Γ 4 (MQ below (gk_Q gk_Y Γ none ρ) args s rm_Mo_keep.cells rm_Mo_keep.slots (fun q => Γ.2.2 ≤ q)) 0 0 M 20 [some (va_rf a0), some (.int x1), none, some (.int x3)] [] := by
  unfold fn_Mo_keep_20 at h
  exact gk_loop_sound (α := Option Nat × Int32 × Int32 × gk_M) (P := fun a => Gk p l e rm_Mo_keep s m args below meth c gk_Y Γ 4 (MQ below (gk_Q gk_Y Γ none ρ) args s rm_Mo_keep.cells rm_Mo_keep.slots (fun q => Γ.2.2 ≤ q)) 0 0 a.2.2.2 20 [some (va_rf a.1), some (.int a.2.1), none, some (.int a.2.2.1)] []) (fun kk a Hk hb => sn_Mo_keep_20_bd B hr (fun a0 x1 x3 M hh => Hk (a0, x1, x3, M) hh) hb) _ _ h
set_option maxHeartbeats 4000000 in
set_option maxRecDepth 100000 in
theorem sn_Mo_keep_17 {l : Launch} {Γ : gk_G} {p : Program} {e : Env} {s : State} {m : MethodId} {args : Array Value} {below : List Frame} {meth : Method} {c : Code} (B : gk_B p s m args meth c gk_Y Γ c_Mo_keep 4 "StageDispatcherModel") (hr : meth.sig.returnType = none) {ρ : gk_M}   {a0 : Option Nat} {x1 : Int32} {s0 : Option Nat} {s1 : Int32} {s2 : Int32} {M : gk_M} (h : fn_Mo_keep_17  a0 x1 s0 s1 s2 M = some ρ) : Gk p l e rm_Mo_keep s m args below meth c gk_Y Γ 4 (MQ below (gk_Q gk_Y Γ none ρ) args s rm_Mo_keep.cells rm_Mo_keep.slots (fun q => Γ.2.2 ≤ q)) 0 0 M 17 [some (va_rf a0), some (.int x1), none, none] [.int s2, .int s1, va_rf s0] := by
  unfold fn_Mo_keep_17 at h
  obtain ⟨M17, h17, h⟩ := gk_bind h
  refine Gk_iastore B d_Mo_keep_17 ty_0 h17 ?_
  refine Gk_iconst (v := 0) B d_Mo_keep_18 (by decide) ?_
  refine Gk_istore_n (i := 3) (L' := [some (va_rf a0), some (.int x1), none, some (.int 0)]) B d_Mo_keep_19 rfl (by decide) (gk_c1_n rfl) rfl ?_
  exact sn_Mo_keep_20 B hr h
set_option maxHeartbeats 4000000 in
set_option maxRecDepth 100000 in
theorem sn_Mo_keep_0 {l : Launch} {Γ : gk_G} {p : Program} {e : Env} {s : State} {m : MethodId} {args : Array Value} {below : List Frame} {meth : Method} {c : Code} (B : gk_B p s m args meth c gk_Y Γ c_Mo_keep 4 "StageDispatcherModel") (hr : meth.sig.returnType = none) {ρ : gk_M}   {a0 : Option Nat} {x1 : Int32} {x2 : Int32} {M : gk_M} (h : fn_Mo_keep  a0 x1 x2 M = some ρ) : Gk p l e rm_Mo_keep s m args below meth c gk_Y Γ 4 (MQ below (gk_Q gk_Y Γ none ρ) args s rm_Mo_keep.cells rm_Mo_keep.slots (fun q => Γ.2.2 ≤ q)) 0 0 M 0 [some (va_rf a0), some (.int x1), some (.int x2), none] [] := by
  unfold fn_Mo_keep at h
  refine Gk_aload_n (i := 0) (r := a0) B d_Mo_keep_0 rfl rfl ?_
  obtain ⟨v1, h1, h⟩ := gk_bind h
  refine Gk_getR (j := 3) B d_Mo_keep_1 in_Mo cl_Mo (by decide) tw_758 rfl h1 ?_
  refine Gk_iload_n (i := 1) (x := x1) B d_Mo_keep_4 rfl rfl ?_
  refine Gk_iload_n (i := 2) (x := x2) B d_Mo_keep_5 rfl rfl ?_
  refine Gk_if_eq (tgt := 16) B d_Mo_keep_6 rfl (fun c6 => ?_) (fun c6 => ?_)
  · rw [if_pos c6] at h
    refine Gk_iconst (v := 0) B d_Mo_keep_16 (by decide) ?_
    refine Gk_weak [true, true, false, false] (L' := [some (va_rf a0), some (.int x1), none, none]) rfl ?_
    exact sn_Mo_keep_17 B hr h
  rw [if_neg c6] at h
  refine Gk_aload_n (i := 0) (r := a0) B d_Mo_keep_9 rfl rfl ?_
  obtain ⟨v10, h10, h⟩ := gk_bind h
  refine Gk_getI (j := 1) B d_Mo_keep_10 in_Mo cl_Mo (by decide) tw_756 rfl h10 ?_
  refine Gk_goto (tgt := 17) B d_Mo_keep_13 rfl ?_
  refine Gk_weak [true, true, false, false] (L' := [some (va_rf a0), some (.int x1), none, none]) rfl ?_
  exact sn_Mo_keep_17 B hr h
theorem sn_Mo_keep {l : Launch} {Γ : gk_G} {a0 : Option Nat} {x1 : Int32} {x2 : Int32} {M : gk_M} {ρ : gk_M} (h : fn_Mo_keep a0 x1 x2 M = some ρ) : gk_Met l gk_Y Γ y_Mo_keep (.code y_Mo_keep c_Mo_keep 4 none :: gk_Y.2.2.2) rm_Mo_keep [va_rf a0, .int x1, .int x2] M none ρ :=
  gk_start (by decide) (by simp [lg_sl, gk_rc, gk_ic, gk_jc]) [some (va_rf a0), some (.int x1), some (.int x2), none] (by simp [gk_as, lv_args, gk_rc, gk_ic, gk_jc]) (fun p e s m args below meth c B hr hin => sn_Mo_keep_0 B hr h)
theorem d_Mo_resource_0 : decode c_Mo_resource 0 = .ok (.aload_n 0, 1) := by decide +kernel
theorem d_Mo_resource_1 : decode c_Mo_resource 1 = .ok (.getfield 156, 3) := by decide +kernel
theorem d_Mo_resource_4 : decode c_Mo_resource 4 = .ok (.bipush 6, 2) := by decide +kernel
theorem d_Mo_resource_6 : decode c_Mo_resource 6 = .ok (.if_icmp .ge 18, 3) := by decide +kernel
theorem d_Mo_resource_9 : decode c_Mo_resource 9 = .ok (.iload_n 1, 1) := by decide +kernel
theorem d_Mo_resource_10 : decode c_Mo_resource 10 = .ok (.ifCond .eq 10, 3) := by decide +kernel
theorem d_Mo_resource_13 : decode c_Mo_resource 13 = .ok (.aload_n 0, 1) := by decide +kernel
theorem d_Mo_resource_14 : decode c_Mo_resource 14 = .ok (.invokevirtual 159, 3) := by decide +kernel
theorem d_Mo_resource_17 : decode c_Mo_resource 17 = .ok (.ifCond .eq 7, 3) := by decide +kernel
theorem d_Mo_resource_20 : decode c_Mo_resource 20 = .ok (.iconst 1, 1) := by decide +kernel
theorem d_Mo_resource_21 : decode c_Mo_resource 21 = .ok (.goto 4, 3) := by decide +kernel
theorem d_Mo_resource_24 : decode c_Mo_resource 24 = .ok (.iconst 0, 1) := by decide +kernel
theorem d_Mo_resource_25 : decode c_Mo_resource 25 = .ok (.istore_n 2, 1) := by decide +kernel
theorem d_Mo_resource_26 : decode c_Mo_resource 26 = .ok (.iload_n 2, 1) := by decide +kernel
theorem d_Mo_resource_27 : decode c_Mo_resource 27 = .ok (.ifCond .eq 12, 3) := by decide +kernel
theorem d_Mo_resource_30 : decode c_Mo_resource 30 = .ok (.aload_n 0, 1) := by decide +kernel
theorem d_Mo_resource_31 : decode c_Mo_resource 31 = .ok (.aload_n 0, 1) := by decide +kernel
theorem d_Mo_resource_32 : decode c_Mo_resource 32 = .ok (.getfield 156, 3) := by decide +kernel
theorem d_Mo_resource_35 : decode c_Mo_resource 35 = .ok (.iload_n 1, 1) := by decide +kernel
theorem d_Mo_resource_36 : decode c_Mo_resource 36 = .ok (.invokevirtual 163, 3) := by decide +kernel
theorem d_Mo_resource_39 : decode c_Mo_resource 39 = .ok (.aload_n 0, 1) := by decide +kernel
theorem d_Mo_resource_40 : decode c_Mo_resource 40 = .ok (.iconst 0, 1) := by decide +kernel
theorem d_Mo_resource_41 : decode c_Mo_resource 41 = .ok (.putfield 118, 3) := by decide +kernel
theorem d_Mo_resource_44 : decode c_Mo_resource 44 = .ok (.aload_n 0, 1) := by decide +kernel
theorem d_Mo_resource_45 : decode c_Mo_resource 45 = .ok (.iload_n 2, 1) := by decide +kernel
theorem d_Mo_resource_46 : decode c_Mo_resource 46 = .ok (.ifCond .eq 12, 3) := by decide +kernel
theorem d_Mo_resource_49 : decode c_Mo_resource 49 = .ok (.aload_n 0, 1) := by decide +kernel
theorem d_Mo_resource_50 : decode c_Mo_resource 50 = .ok (.getfield 156, 3) := by decide +kernel
theorem d_Mo_resource_53 : decode c_Mo_resource 53 = .ok (.iconst 1, 1) := by decide +kernel
theorem d_Mo_resource_54 : decode c_Mo_resource 54 = .ok (.iadd, 1) := by decide +kernel
theorem d_Mo_resource_55 : decode c_Mo_resource 55 = .ok (.goto 7, 3) := by decide +kernel
theorem d_Mo_resource_58 : decode c_Mo_resource 58 = .ok (.aload_n 0, 1) := by decide +kernel
theorem d_Mo_resource_59 : decode c_Mo_resource 59 = .ok (.getfield 156, 3) := by decide +kernel
theorem d_Mo_resource_62 : decode c_Mo_resource 62 = .ok (.putfield 156, 3) := by decide +kernel
theorem d_Mo_resource_65 : decode c_Mo_resource 65 = .ok (.iload_n 2, 1) := by decide +kernel
theorem d_Mo_resource_66 : decode c_Mo_resource 66 = .ok (.ifCond .eq 12, 3) := by decide +kernel
theorem d_Mo_resource_69 : decode c_Mo_resource 69 = .ok (.aload_n 0, 1) := by decide +kernel
theorem d_Mo_resource_70 : decode c_Mo_resource 70 = .ok (.getfield 156, 3) := by decide +kernel
theorem d_Mo_resource_73 : decode c_Mo_resource 73 = .ok (.iconst 1, 1) := by decide +kernel
theorem d_Mo_resource_74 : decode c_Mo_resource 74 = .ok (.isub, 1) := by decide +kernel
theorem d_Mo_resource_75 : decode c_Mo_resource 75 = .ok (.goto 4, 3) := by decide +kernel
theorem d_Mo_resource_78 : decode c_Mo_resource 78 = .ok (.iconst (-1), 1) := by decide +kernel
theorem d_Mo_resource_79 : decode c_Mo_resource 79 = .ok (.ireturn, 1) := by decide +kernel
set_option maxHeartbeats 4000000 in
set_option maxRecDepth 100000 in
theorem sn_Mo_resource_62 {l : Launch} {Γ : gk_G} {p : Program} {e : Env} {s : State} {m : MethodId} {args : Array Value} {below : List Frame} {meth : Method} {c : Code} (B : gk_B p s m args meth c gk_Y Γ c_Mo_resource 3 "StageDispatcherModel") (hr : meth.sig.returnType = (some .int)) {ρ : Int32 × gk_M}   {a0 : Option Nat} {x2 : Int32} {s0 : Option Nat} {s1 : Int32} {M : gk_M} (h : fn_Mo_resource_62  a0 x2 s0 s1 M = some ρ) : Gk p l e rm_Mo_resource s m args below meth c gk_Y Γ 3 (MQ below (gk_Q gk_Y Γ (some (.int ρ.1)) ρ.2) args s rm_Mo_resource.cells rm_Mo_resource.slots (fun q => Γ.2.2 ≤ q)) 0 0 M 62 [some (va_rf a0), none, some (.int x2)] [.int s1, va_rf s0] := by
  unfold fn_Mo_resource_62 at h
  obtain ⟨M62, h62, h⟩ := gk_bind h
  refine Gk_put (j := 4) (ty := .int) B d_Mo_resource_62 in_Mo t_Mo t_Mo_ok n_Mo cl_Mo (by decide) tw_759 rfl rfl rfl rfl rfl h62 ?_
  refine Gk_iload_n (i := 2) (x := x2) B d_Mo_resource_65 rfl rfl ?_
  refine Gk_if_eq (tgt := 78) B d_Mo_resource_66 rfl (fun c66 => ?_) (fun c66 => ?_)
  · rw [if_pos c66] at h
    refine Gk_iconst (v := (-1)) B d_Mo_resource_78 (by decide) ?_
    cases h
    exact Gk_iret B hr d_Mo_resource_79 rfl (by decide) (by decide) rfl
  rw [if_neg c66] at h
  refine Gk_aload_n (i := 0) (r := a0) B d_Mo_resource_69 rfl rfl ?_
  obtain ⟨v70, h70, h⟩ := gk_bind h
  refine Gk_getI (j := 4) B d_Mo_resource_70 in_Mo cl_Mo (by decide) tw_759 rfl h70 ?_
  refine Gk_iconst (v := 1) B d_Mo_resource_73 (by decide) ?_
  refine Gk_isub B d_Mo_resource_74 ?_
  refine Gk_goto (tgt := 79) B d_Mo_resource_75 rfl ?_
  cases h
  exact Gk_iret B hr d_Mo_resource_79 rfl (by decide) (by decide) rfl
set_option maxHeartbeats 4000000 in
set_option maxRecDepth 100000 in
theorem sn_Mo_resource_39 {l : Launch} {Γ : gk_G} {p : Program} {e : Env} {s : State} {m : MethodId} {args : Array Value} {below : List Frame} {meth : Method} {c : Code} (B : gk_B p s m args meth c gk_Y Γ c_Mo_resource 3 "StageDispatcherModel") (hr : meth.sig.returnType = (some .int)) {ρ : Int32 × gk_M}   {a0 : Option Nat} {x2 : Int32} {M : gk_M} (h : fn_Mo_resource_39  a0 x2 M = some ρ) : Gk p l e rm_Mo_resource s m args below meth c gk_Y Γ 3 (MQ below (gk_Q gk_Y Γ (some (.int ρ.1)) ρ.2) args s rm_Mo_resource.cells rm_Mo_resource.slots (fun q => Γ.2.2 ≤ q)) 0 0 M 39 [some (va_rf a0), none, some (.int x2)] [] := by
  unfold fn_Mo_resource_39 at h
  refine Gk_aload_n (i := 0) (r := a0) B d_Mo_resource_39 rfl rfl ?_
  refine Gk_iconst (v := 0) B d_Mo_resource_40 (by decide) ?_
  obtain ⟨M41, h41, h⟩ := gk_bind h
  refine Gk_put (j := 1) (ty := .int) B d_Mo_resource_41 in_Mo t_Mo t_Mo_ok n_Mo cl_Mo (by decide) tw_756 rfl rfl rfl rfl rfl h41 ?_
  refine Gk_aload_n (i := 0) (r := a0) B d_Mo_resource_44 rfl rfl ?_
  refine Gk_iload_n (i := 2) (x := x2) B d_Mo_resource_45 rfl rfl ?_
  refine Gk_if_eq (tgt := 58) B d_Mo_resource_46 rfl (fun c46 => ?_) (fun c46 => ?_)
  · rw [if_pos c46] at h
    refine Gk_aload_n (i := 0) (r := a0) B d_Mo_resource_58 rfl rfl ?_
    obtain ⟨v59, h59, h⟩ := gk_bind h
    refine Gk_getI (j := 4) B d_Mo_resource_59 in_Mo cl_Mo (by decide) tw_759 rfl h59 ?_
    exact sn_Mo_resource_62 B hr h
  rw [if_neg c46] at h
  refine Gk_aload_n (i := 0) (r := a0) B d_Mo_resource_49 rfl rfl ?_
  obtain ⟨v50, h50, h⟩ := gk_bind h
  refine Gk_getI (j := 4) B d_Mo_resource_50 in_Mo cl_Mo (by decide) tw_759 rfl h50 ?_
  refine Gk_iconst (v := 1) B d_Mo_resource_53 (by decide) ?_
  refine Gk_iadd B d_Mo_resource_54 ?_
  refine Gk_goto (tgt := 62) B d_Mo_resource_55 rfl ?_
  exact sn_Mo_resource_62 B hr h
set_option maxHeartbeats 4000000 in
set_option maxRecDepth 100000 in
theorem sn_Mo_resource_25 {l : Launch} {Γ : gk_G} {p : Program} {e : Env} {s : State} {m : MethodId} {args : Array Value} {below : List Frame} {meth : Method} {c : Code} (B : gk_B p s m args meth c gk_Y Γ c_Mo_resource 3 "StageDispatcherModel") (hr : meth.sig.returnType = (some .int)) {ρ : Int32 × gk_M}   {a0 : Option Nat} {x1 : Int32} {s0 : Int32} {M : gk_M} (h : fn_Mo_resource_25  a0 x1 s0 M = some ρ) : Gk p l e rm_Mo_resource s m args below meth c gk_Y Γ 3 (MQ below (gk_Q gk_Y Γ (some (.int ρ.1)) ρ.2) args s rm_Mo_resource.cells rm_Mo_resource.slots (fun q => Γ.2.2 ≤ q)) 0 0 M 25 [some (va_rf a0), some (.int x1), none] [.int s0] := by
  unfold fn_Mo_resource_25 at h
  refine Gk_istore_n (i := 2) (L' := [some (va_rf a0), some (.int x1), some (.int s0)]) B d_Mo_resource_25 rfl (by decide) (gk_c1_i rfl) rfl ?_
  refine Gk_iload_n (i := 2) (x := s0) B d_Mo_resource_26 rfl rfl ?_
  refine Gk_if_eq (tgt := 39) B d_Mo_resource_27 rfl (fun c27 => ?_) (fun c27 => ?_)
  · rw [if_pos c27] at h
    refine Gk_weak [true, false, true] (L' := [some (va_rf a0), none, some (.int s0)]) rfl ?_
    exact sn_Mo_resource_39 B hr h
  rw [if_neg c27] at h
  refine Gk_aload_n (i := 0) (r := a0) B d_Mo_resource_30 rfl rfl ?_
  refine Gk_aload_n (i := 0) (r := a0) B d_Mo_resource_31 rfl rfl ?_
  obtain ⟨v32, h32, h⟩ := gk_bind h
  refine Gk_getI (j := 4) B d_Mo_resource_32 in_Mo cl_Mo (by decide) tw_759 rfl h32 ?_
  refine Gk_iload_n (i := 1) (x := x1) B d_Mo_resource_35 rfl rfl ?_
  obtain ⟨o36, g36, h⟩ := gk_bind h
  obtain ⟨w36, h36, h⟩ := gk_bind h
  refine Gk_callV (As := [.int v32, .int x1]) (rest := []) (st1 := []) (k1 := 0) (n1 := 0) B gk_hG d_Mo_resource_36 (sn_Mo_keep h36) g36 cl_Mo tw_947 tw_944 tw_946 tw_15 tw_48 nm_Mo_keep rfl (by decide) ⟨by decide, by decide⟩ ⟨by decide, by decide⟩ rfl rfl rfl rfl ?_
  refine Gk_weak [true, false, true] (L' := [some (va_rf a0), none, some (.int s0)]) rfl ?_
  exact sn_Mo_resource_39 B hr h
set_option maxHeartbeats 4000000 in
set_option maxRecDepth 100000 in
theorem sn_Mo_resource_24 {l : Launch} {Γ : gk_G} {p : Program} {e : Env} {s : State} {m : MethodId} {args : Array Value} {below : List Frame} {meth : Method} {c : Code} (B : gk_B p s m args meth c gk_Y Γ c_Mo_resource 3 "StageDispatcherModel") (hr : meth.sig.returnType = (some .int)) {ρ : Int32 × gk_M}   {a0 : Option Nat} {x1 : Int32} {M : gk_M} (h : fn_Mo_resource_24  a0 x1 M = some ρ) : Gk p l e rm_Mo_resource s m args below meth c gk_Y Γ 3 (MQ below (gk_Q gk_Y Γ (some (.int ρ.1)) ρ.2) args s rm_Mo_resource.cells rm_Mo_resource.slots (fun q => Γ.2.2 ≤ q)) 0 0 M 24 [some (va_rf a0), some (.int x1), none] [] := by
  unfold fn_Mo_resource_24 at h
  refine Gk_iconst (v := 0) B d_Mo_resource_24 (by decide) ?_
  exact sn_Mo_resource_25 B hr h
set_option maxHeartbeats 4000000 in
set_option maxRecDepth 100000 in
theorem sn_Mo_resource_20 {l : Launch} {Γ : gk_G} {p : Program} {e : Env} {s : State} {m : MethodId} {args : Array Value} {below : List Frame} {meth : Method} {c : Code} (B : gk_B p s m args meth c gk_Y Γ c_Mo_resource 3 "StageDispatcherModel") (hr : meth.sig.returnType = (some .int)) {ρ : Int32 × gk_M}   {a0 : Option Nat} {x1 : Int32} {M : gk_M} (h : fn_Mo_resource_20  a0 x1 M = some ρ) : Gk p l e rm_Mo_resource s m args below meth c gk_Y Γ 3 (MQ below (gk_Q gk_Y Γ (some (.int ρ.1)) ρ.2) args s rm_Mo_resource.cells rm_Mo_resource.slots (fun q => Γ.2.2 ≤ q)) 0 0 M 20 [some (va_rf a0), some (.int x1), none] [] := by
  unfold fn_Mo_resource_20 at h
  refine Gk_iconst (v := 1) B d_Mo_resource_20 (by decide) ?_
  refine Gk_goto (tgt := 25) B d_Mo_resource_21 rfl ?_
  exact sn_Mo_resource_25 B hr h
set_option maxHeartbeats 4000000 in
set_option maxRecDepth 100000 in
theorem sn_Mo_resource_0 {l : Launch} {Γ : gk_G} {p : Program} {e : Env} {s : State} {m : MethodId} {args : Array Value} {below : List Frame} {meth : Method} {c : Code} (B : gk_B p s m args meth c gk_Y Γ c_Mo_resource 3 "StageDispatcherModel") (hr : meth.sig.returnType = (some .int)) {ρ : Int32 × gk_M}   {a0 : Option Nat} {x1 : Int32} {M : gk_M} (h : fn_Mo_resource  a0 x1 M = some ρ) : Gk p l e rm_Mo_resource s m args below meth c gk_Y Γ 3 (MQ below (gk_Q gk_Y Γ (some (.int ρ.1)) ρ.2) args s rm_Mo_resource.cells rm_Mo_resource.slots (fun q => Γ.2.2 ≤ q)) 0 0 M 0 [some (va_rf a0), some (.int x1), none] [] := by
  unfold fn_Mo_resource at h
  refine Gk_aload_n (i := 0) (r := a0) B d_Mo_resource_0 rfl rfl ?_
  obtain ⟨v1, h1, h⟩ := gk_bind h
  refine Gk_getI (j := 4) B d_Mo_resource_1 in_Mo cl_Mo (by decide) tw_759 rfl h1 ?_
  refine Gk_bipush (v := 6) B d_Mo_resource_4 (by decide) ?_
  refine Gk_icmp_ge (tgt := 24) B d_Mo_resource_6 rfl (fun c6 => ?_) (fun c6 => ?_)
  · rw [if_pos c6] at h
    exact sn_Mo_resource_24 B hr h
  rw [if_neg c6] at h
  refine Gk_iload_n (i := 1) (x := x1) B d_Mo_resource_9 rfl rfl ?_
  refine Gk_if_eq (tgt := 20) B d_Mo_resource_10 rfl (fun c10 => ?_) (fun c10 => ?_)
  · rw [if_pos c10] at h
    exact sn_Mo_resource_20 B hr h
  rw [if_neg c10] at h
  refine Gk_aload_n (i := 0) (r := a0) B d_Mo_resource_13 rfl rfl ?_
  obtain ⟨o14, g14, h⟩ := gk_bind h
  obtain ⟨w14, h14, h⟩ := gk_bind h
  refine Gk_callV (As := []) (rest := []) (st1 := [.int w14.1]) (k1 := 0) (n1 := 0) B gk_hG d_Mo_resource_14 (sn_Mo_goodTemplate h14) g14 cl_Mo tw_939 tw_936 tw_938 tw_13 tw_48 nm_Mo_goodTemplate rfl (by decide) ⟨by decide, by decide⟩ ⟨by decide, by decide⟩ rfl rfl rfl rfl ?_
  refine Gk_if_eq (tgt := 24) B d_Mo_resource_17 rfl (fun c17 => ?_) (fun c17 => ?_)
  · rw [if_pos c17] at h
    exact sn_Mo_resource_24 B hr h
  rw [if_neg c17] at h
  exact sn_Mo_resource_20 B hr h
theorem sn_Mo_resource {l : Launch} {Γ : gk_G} {a0 : Option Nat} {x1 : Int32} {M : gk_M} {ρ : Int32 × gk_M} (h : fn_Mo_resource a0 x1 M = some ρ) : gk_Met l gk_Y Γ y_Mo_resource (.code y_Mo_resource c_Mo_resource 3 (some .int) :: gk_Y.2.2.2) rm_Mo_resource [va_rf a0, .int x1] M (some (.int ρ.1)) ρ.2 :=
  gk_start (by decide) (by simp [lg_sl, gk_rc, gk_ic, gk_jc]) [some (va_rf a0), some (.int x1), none] (by simp [gk_as, lv_args, gk_rc, gk_ic, gk_jc]) (fun p e s m args below meth c B hr hin => sn_Mo_resource_0 B hr h)
theorem d_SD_isWithin_0 : decode c_SD_isWithin 0 = .ok (.iload_n 0, 1) := by decide +kernel
theorem d_SD_isWithin_1 : decode c_SD_isWithin 1 = .ok (.iload_n 1, 1) := by decide +kernel
theorem d_SD_isWithin_2 : decode c_SD_isWithin 2 = .ok (.if_icmp .lt 12, 3) := by decide +kernel
theorem d_SD_isWithin_5 : decode c_SD_isWithin 5 = .ok (.iload_n 0, 1) := by decide +kernel
theorem d_SD_isWithin_6 : decode c_SD_isWithin 6 = .ok (.iload_n 2, 1) := by decide +kernel
theorem d_SD_isWithin_7 : decode c_SD_isWithin 7 = .ok (.if_icmp .gt 7, 3) := by decide +kernel
theorem d_SD_isWithin_10 : decode c_SD_isWithin 10 = .ok (.iconst 1, 1) := by decide +kernel
theorem d_SD_isWithin_11 : decode c_SD_isWithin 11 = .ok (.goto 4, 3) := by decide +kernel
theorem d_SD_isWithin_14 : decode c_SD_isWithin 14 = .ok (.iconst 0, 1) := by decide +kernel
theorem d_SD_isWithin_15 : decode c_SD_isWithin 15 = .ok (.ireturn, 1) := by decide +kernel
set_option maxHeartbeats 4000000 in
set_option maxRecDepth 100000 in
theorem sn_SD_isWithin_14 {l : Launch} {Γ : gk_G} {p : Program} {e : Env} {s : State} {m : MethodId} {args : Array Value} {below : List Frame} {meth : Method} {c : Code} (B : gk_B p s m args meth c gk_Y Γ c_SD_isWithin 3 "StageDispatcher") (hr : meth.sig.returnType = (some .boolean)) {ρ : Int32 × gk_M}    {M : gk_M} (h : fn_SD_isWithin_14   M = some ρ) : Gk p l e rm_SD_isWithin s m args below meth c gk_Y Γ 3 (MQ below (gk_Q gk_Y Γ (some (.int ρ.1)) ρ.2) args s rm_SD_isWithin.cells rm_SD_isWithin.slots (fun q => Γ.2.2 ≤ q)) 0 0 M 14 [none, none, none] [] := by
  unfold fn_SD_isWithin_14 at h
  refine Gk_iconst (v := 0) B d_SD_isWithin_14 (by decide) ?_
  obtain ⟨z, hz, h⟩ := gk_bind h
  obtain ⟨hz1, hz2⟩ := gk_z_eq hz
  cases h
  subst hz1
  exact Gk_iret B hr d_SD_isWithin_15 (gk_nz hz2) (by decide) (by decide) rfl
set_option maxHeartbeats 4000000 in
set_option maxRecDepth 100000 in
theorem sn_SD_isWithin_0 {l : Launch} {Γ : gk_G} {p : Program} {e : Env} {s : State} {m : MethodId} {args : Array Value} {below : List Frame} {meth : Method} {c : Code} (B : gk_B p s m args meth c gk_Y Γ c_SD_isWithin 3 "StageDispatcher") (hr : meth.sig.returnType = (some .boolean)) {ρ : Int32 × gk_M}   {x0 : Int32} {x1 : Int32} {x2 : Int32} {M : gk_M} (h : fn_SD_isWithin  x0 x1 x2 M = some ρ) : Gk p l e rm_SD_isWithin s m args below meth c gk_Y Γ 3 (MQ below (gk_Q gk_Y Γ (some (.int ρ.1)) ρ.2) args s rm_SD_isWithin.cells rm_SD_isWithin.slots (fun q => Γ.2.2 ≤ q)) 0 0 M 0 [some (.int x0), some (.int x1), some (.int x2)] [] := by
  unfold fn_SD_isWithin at h
  refine Gk_iload_n (i := 0) (x := x0) B d_SD_isWithin_0 rfl rfl ?_
  refine Gk_iload_n (i := 1) (x := x1) B d_SD_isWithin_1 rfl rfl ?_
  refine Gk_icmp_lt (tgt := 14) B d_SD_isWithin_2 rfl (fun c2 => ?_) (fun c2 => ?_)
  · rw [if_pos c2] at h
    refine Gk_weak [false, false, false] (L' := [none, none, none]) rfl ?_
    exact sn_SD_isWithin_14 B hr h
  rw [if_neg c2] at h
  refine Gk_iload_n (i := 0) (x := x0) B d_SD_isWithin_5 rfl rfl ?_
  refine Gk_iload_n (i := 2) (x := x2) B d_SD_isWithin_6 rfl rfl ?_
  refine Gk_icmp_gt (tgt := 14) B d_SD_isWithin_7 rfl (fun c7 => ?_) (fun c7 => ?_)
  · rw [if_pos c7] at h
    refine Gk_weak [false, false, false] (L' := [none, none, none]) rfl ?_
    exact sn_SD_isWithin_14 B hr h
  rw [if_neg c7] at h
  refine Gk_iconst (v := 1) B d_SD_isWithin_10 (by decide) ?_
  refine Gk_goto (tgt := 15) B d_SD_isWithin_11 rfl ?_
  obtain ⟨z, hz, h⟩ := gk_bind h
  obtain ⟨hz1, hz2⟩ := gk_z_eq hz
  cases h
  subst hz1
  exact Gk_iret B hr d_SD_isWithin_15 (gk_nz hz2) (by decide) (by decide) rfl
theorem sn_SD_isWithin {l : Launch} {Γ : gk_G} {x0 : Int32} {x1 : Int32} {x2 : Int32} {M : gk_M} {ρ : Int32 × gk_M} (h : fn_SD_isWithin x0 x1 x2 M = some ρ) : gk_Met l gk_Y Γ y_SD_isWithin (.code y_SD_isWithin c_SD_isWithin 3 (some .boolean) :: gk_Y.2.2.2) rm_SD_isWithin [.int x0, .int x1, .int x2] M (some (.int ρ.1)) ρ.2 :=
  gk_start (by decide) (by simp [lg_sl, gk_rc, gk_ic, gk_jc]) [some (.int x0), some (.int x1), some (.int x2)] (by simp [gk_as, lv_args, gk_rc, gk_ic, gk_jc]) (fun p e s m args below meth c B hr hin => sn_SD_isWithin_0 B hr h)
theorem d_Catalog_isResource_0 : decode c_Catalog_isResource 0 = .ok (.iload_n 1, 1) := by decide +kernel
theorem d_Catalog_isResource_1 : decode c_Catalog_isResource 1 = .ok (.iconst 0, 1) := by decide +kernel
theorem d_Catalog_isResource_2 : decode c_Catalog_isResource 2 = .ok (.aload_n 0, 1) := by decide +kernel
theorem d_Catalog_isResource_3 : decode c_Catalog_isResource 3 = .ok (.getfield 29, 3) := by decide +kernel
theorem d_Catalog_isResource_6 : decode c_Catalog_isResource 6 = .ok (.iconst 1, 1) := by decide +kernel
theorem d_Catalog_isResource_7 : decode c_Catalog_isResource 7 = .ok (.isub, 1) := by decide +kernel
theorem d_Catalog_isResource_8 : decode c_Catalog_isResource 8 = .ok (.invokestatic 39, 3) := by decide +kernel
theorem d_Catalog_isResource_11 : decode c_Catalog_isResource 11 = .ok (.ireturn, 1) := by decide +kernel
set_option maxHeartbeats 4000000 in
set_option maxRecDepth 100000 in
theorem sn_Catalog_isResource_0 {l : Launch} {Γ : gk_G} {p : Program} {e : Env} {s : State} {m : MethodId} {args : Array Value} {below : List Frame} {meth : Method} {c : Code} (B : gk_B p s m args meth c gk_Y Γ c_Catalog_isResource 2 "StageDispatcher$Catalog") (hr : meth.sig.returnType = (some .boolean)) {ρ : Int32 × gk_M}   {a0 : Option Nat} {x1 : Int32} {M : gk_M} (h : fn_Catalog_isResource  a0 x1 M = some ρ) : Gk p l e rm_Catalog_isResource s m args below meth c gk_Y Γ 2 (MQ below (gk_Q gk_Y Γ (some (.int ρ.1)) ρ.2) args s rm_Catalog_isResource.cells rm_Catalog_isResource.slots (fun q => Γ.2.2 ≤ q)) 0 0 M 0 [some (va_rf a0), some (.int x1)] [] := by
  unfold fn_Catalog_isResource at h
  refine Gk_iload_n (i := 1) (x := x1) B d_Catalog_isResource_0 rfl rfl ?_
  refine Gk_iconst (v := 0) B d_Catalog_isResource_1 (by decide) ?_
  refine Gk_aload_n (i := 0) (r := a0) B d_Catalog_isResource_2 rfl rfl ?_
  obtain ⟨v3, h3, h⟩ := gk_bind h
  refine Gk_getI (j := 3) B d_Catalog_isResource_3 in_Catalog cl_Catalog (by decide) tw_104 rfl h3 ?_
  refine Gk_iconst (v := 1) B d_Catalog_isResource_6 (by decide) ?_
  refine Gk_isub B d_Catalog_isResource_7 ?_
  obtain ⟨w8, h8, h⟩ := gk_bind h
  refine Gk_callSN (As := [.int x1, .int 0, .int (v3 - (1 : Int32))]) (rest := []) (st1 := [.int w8.1]) (k1 := 0) (n1 := 0) B gk_hG d_Catalog_isResource_8 (sn_SD_isWithin h8) tw_373 nw_371 tw_372 tw_40 nm_SD_isWithin rfl (by decide) ⟨by decide, by decide⟩ ⟨by decide, by decide⟩ rfl rfl rfl rfl ?_
  obtain ⟨z, hz, h⟩ := gk_bind h
  obtain ⟨hz1, hz2⟩ := gk_z_eq hz
  cases h
  subst hz1
  exact Gk_iret B hr d_Catalog_isResource_11 (gk_nz hz2) (by decide) (by decide) rfl
theorem sn_Catalog_isResource {l : Launch} {Γ : gk_G} {a0 : Option Nat} {x1 : Int32} {M : gk_M} {ρ : Int32 × gk_M} (h : fn_Catalog_isResource a0 x1 M = some ρ) : gk_Met l gk_Y Γ y_Catalog_isResource (.code y_Catalog_isResource c_Catalog_isResource 2 (some .boolean) :: gk_Y.2.2.2) rm_Catalog_isResource [va_rf a0, .int x1] M (some (.int ρ.1)) ρ.2 :=
  gk_start (by decide) (by simp [lg_sl, gk_rc, gk_ic, gk_jc]) [some (va_rf a0), some (.int x1)] (by simp [gk_as, lv_args, gk_rc, gk_ic, gk_jc]) (fun p e s m args below meth c B hr hin => sn_Catalog_isResource_0 B hr h)
theorem d_SD_isVerb_0 : decode c_SD_isVerb 0 = .ok (.iload_n 0, 1) := by decide +kernel
theorem d_SD_isVerb_1 : decode c_SD_isVerb 1 = .ok (.iconst 0, 1) := by decide +kernel
theorem d_SD_isVerb_2 : decode c_SD_isVerb 2 = .ok (.iconst 5, 1) := by decide +kernel
theorem d_SD_isVerb_3 : decode c_SD_isVerb 3 = .ok (.invokestatic 95, 3) := by decide +kernel
theorem d_SD_isVerb_6 : decode c_SD_isVerb 6 = .ok (.ireturn, 1) := by decide +kernel
set_option maxHeartbeats 4000000 in
set_option maxRecDepth 100000 in
theorem sn_SD_isVerb_0 {l : Launch} {Γ : gk_G} {p : Program} {e : Env} {s : State} {m : MethodId} {args : Array Value} {below : List Frame} {meth : Method} {c : Code} (B : gk_B p s m args meth c gk_Y Γ c_SD_isVerb 1 "StageDispatcher") (hr : meth.sig.returnType = (some .boolean)) {ρ : Int32 × gk_M}   {x0 : Int32} {M : gk_M} (h : fn_SD_isVerb  x0 M = some ρ) : Gk p l e rm_SD_isVerb s m args below meth c gk_Y Γ 1 (MQ below (gk_Q gk_Y Γ (some (.int ρ.1)) ρ.2) args s rm_SD_isVerb.cells rm_SD_isVerb.slots (fun q => Γ.2.2 ≤ q)) 0 0 M 0 [some (.int x0)] [] := by
  unfold fn_SD_isVerb at h
  refine Gk_iload_n (i := 0) (x := x0) B d_SD_isVerb_0 rfl rfl ?_
  refine Gk_iconst (v := 0) B d_SD_isVerb_1 (by decide) ?_
  refine Gk_iconst (v := 5) B d_SD_isVerb_2 (by decide) ?_
  obtain ⟨w3, h3, h⟩ := gk_bind h
  refine Gk_callS (As := [.int x0, .int 0, .int 5]) (rest := []) (st1 := [.int w3.1]) (k1 := 0) (n1 := 0) B gk_hG d_SD_isVerb_3 (sn_SD_isWithin h3) tw_373 tw_377 tw_372 tw_40 nm_SD_isWithin rfl (by decide) ⟨by decide, by decide⟩ ⟨by decide, by decide⟩ rfl rfl rfl rfl ?_
  obtain ⟨z, hz, h⟩ := gk_bind h
  obtain ⟨hz1, hz2⟩ := gk_z_eq hz
  cases h
  subst hz1
  exact Gk_iret B hr d_SD_isVerb_6 (gk_nz hz2) (by decide) (by decide) rfl
theorem sn_SD_isVerb {l : Launch} {Γ : gk_G} {x0 : Int32} {M : gk_M} {ρ : Int32 × gk_M} (h : fn_SD_isVerb x0 M = some ρ) : gk_Met l gk_Y Γ y_SD_isVerb (.code y_SD_isVerb c_SD_isVerb 1 (some .boolean) :: gk_Y.2.2.2) rm_SD_isVerb [.int x0] M (some (.int ρ.1)) ρ.2 :=
  gk_start (by decide) (by simp [lg_sl, gk_rc, gk_ic, gk_jc]) [some (.int x0)] (by simp [gk_as, lv_args, gk_rc, gk_ic, gk_jc]) (fun p e s m args below meth c B hr hin => sn_SD_isVerb_0 B hr h)
theorem d_SD_isType_0 : decode c_SD_isType 0 = .ok (.iload_n 0, 1) := by decide +kernel
theorem d_SD_isType_1 : decode c_SD_isType 1 = .ok (.ifCond .eq 14, 3) := by decide +kernel
theorem d_SD_isType_4 : decode c_SD_isType 4 = .ok (.iload_n 0, 1) := by decide +kernel
theorem d_SD_isType_5 : decode c_SD_isType 5 = .ok (.bipush 16, 2) := by decide +kernel
theorem d_SD_isType_7 : decode c_SD_isType 7 = .ok (.bipush 51, 2) := by decide +kernel
theorem d_SD_isType_9 : decode c_SD_isType 9 = .ok (.invokestatic 95, 3) := by decide +kernel
theorem d_SD_isType_12 : decode c_SD_isType 12 = .ok (.ifCond .eq 7, 3) := by decide +kernel
theorem d_SD_isType_15 : decode c_SD_isType 15 = .ok (.iconst 1, 1) := by decide +kernel
theorem d_SD_isType_16 : decode c_SD_isType 16 = .ok (.goto 4, 3) := by decide +kernel
theorem d_SD_isType_19 : decode c_SD_isType 19 = .ok (.iconst 0, 1) := by decide +kernel
theorem d_SD_isType_20 : decode c_SD_isType 20 = .ok (.istore_n 1, 1) := by decide +kernel
theorem d_SD_isType_21 : decode c_SD_isType 21 = .ok (.iload_n 1, 1) := by decide +kernel
theorem d_SD_isType_22 : decode c_SD_isType 22 = .ok (.ifCond .eq 15, 3) := by decide +kernel
theorem d_SD_isType_25 : decode c_SD_isType 25 = .ok (.iload_n 0, 1) := by decide +kernel
theorem d_SD_isType_26 : decode c_SD_isType 26 = .ok (.bipush 15, 2) := by decide +kernel
theorem d_SD_isType_28 : decode c_SD_isType 28 = .ok (.iand, 1) := by decide +kernel
theorem d_SD_isType_29 : decode c_SD_isType 29 = .ok (.iconst 3, 1) := by decide +kernel
theorem d_SD_isType_30 : decode c_SD_isType 30 = .ok (.if_icmp .gt 7, 3) := by decide +kernel
theorem d_SD_isType_33 : decode c_SD_isType 33 = .ok (.iconst 1, 1) := by decide +kernel
theorem d_SD_isType_34 : decode c_SD_isType 34 = .ok (.goto 4, 3) := by decide +kernel
theorem d_SD_isType_37 : decode c_SD_isType 37 = .ok (.iconst 0, 1) := by decide +kernel
theorem d_SD_isType_38 : decode c_SD_isType 38 = .ok (.ireturn, 1) := by decide +kernel
set_option maxHeartbeats 4000000 in
set_option maxRecDepth 100000 in
theorem sn_SD_isType_37 {l : Launch} {Γ : gk_G} {p : Program} {e : Env} {s : State} {m : MethodId} {args : Array Value} {below : List Frame} {meth : Method} {c : Code} (B : gk_B p s m args meth c gk_Y Γ c_SD_isType 2 "StageDispatcher") (hr : meth.sig.returnType = (some .boolean)) {ρ : Int32 × gk_M}    {M : gk_M} (h : fn_SD_isType_37   M = some ρ) : Gk p l e rm_SD_isType s m args below meth c gk_Y Γ 2 (MQ below (gk_Q gk_Y Γ (some (.int ρ.1)) ρ.2) args s rm_SD_isType.cells rm_SD_isType.slots (fun q => Γ.2.2 ≤ q)) 0 0 M 37 [none, none] [] := by
  unfold fn_SD_isType_37 at h
  refine Gk_iconst (v := 0) B d_SD_isType_37 (by decide) ?_
  obtain ⟨z, hz, h⟩ := gk_bind h
  obtain ⟨hz1, hz2⟩ := gk_z_eq hz
  cases h
  subst hz1
  exact Gk_iret B hr d_SD_isType_38 (gk_nz hz2) (by decide) (by decide) rfl
set_option maxHeartbeats 4000000 in
set_option maxRecDepth 100000 in
theorem sn_SD_isType_20 {l : Launch} {Γ : gk_G} {p : Program} {e : Env} {s : State} {m : MethodId} {args : Array Value} {below : List Frame} {meth : Method} {c : Code} (B : gk_B p s m args meth c gk_Y Γ c_SD_isType 2 "StageDispatcher") (hr : meth.sig.returnType = (some .boolean)) {ρ : Int32 × gk_M}   {x0 : Int32} {s0 : Int32} {M : gk_M} (h : fn_SD_isType_20  x0 s0 M = some ρ) : Gk p l e rm_SD_isType s m args below meth c gk_Y Γ 2 (MQ below (gk_Q gk_Y Γ (some (.int ρ.1)) ρ.2) args s rm_SD_isType.cells rm_SD_isType.slots (fun q => Γ.2.2 ≤ q)) 0 0 M 20 [some (.int x0), none] [.int s0] := by
  unfold fn_SD_isType_20 at h
  refine Gk_istore_n (i := 1) (L' := [some (.int x0), some (.int s0)]) B d_SD_isType_20 rfl (by decide) (gk_c1_i rfl) rfl ?_
  refine Gk_iload_n (i := 1) (x := s0) B d_SD_isType_21 rfl rfl ?_
  refine Gk_if_eq (tgt := 37) B d_SD_isType_22 rfl (fun c22 => ?_) (fun c22 => ?_)
  · rw [if_pos c22] at h
    refine Gk_weak [false, false] (L' := [none, none]) rfl ?_
    exact sn_SD_isType_37 B hr h
  rw [if_neg c22] at h
  refine Gk_iload_n (i := 0) (x := x0) B d_SD_isType_25 rfl rfl ?_
  refine Gk_bipush (v := 15) B d_SD_isType_26 (by decide) ?_
  refine Gk_iand B d_SD_isType_28 ?_
  refine Gk_iconst (v := 3) B d_SD_isType_29 (by decide) ?_
  refine Gk_icmp_gt (tgt := 37) B d_SD_isType_30 rfl (fun c30 => ?_) (fun c30 => ?_)
  · rw [if_pos c30] at h
    refine Gk_weak [false, false] (L' := [none, none]) rfl ?_
    exact sn_SD_isType_37 B hr h
  rw [if_neg c30] at h
  refine Gk_iconst (v := 1) B d_SD_isType_33 (by decide) ?_
  refine Gk_goto (tgt := 38) B d_SD_isType_34 rfl ?_
  obtain ⟨z, hz, h⟩ := gk_bind h
  obtain ⟨hz1, hz2⟩ := gk_z_eq hz
  cases h
  subst hz1
  exact Gk_iret B hr d_SD_isType_38 (gk_nz hz2) (by decide) (by decide) rfl
set_option maxHeartbeats 4000000 in
set_option maxRecDepth 100000 in
theorem sn_SD_isType_15 {l : Launch} {Γ : gk_G} {p : Program} {e : Env} {s : State} {m : MethodId} {args : Array Value} {below : List Frame} {meth : Method} {c : Code} (B : gk_B p s m args meth c gk_Y Γ c_SD_isType 2 "StageDispatcher") (hr : meth.sig.returnType = (some .boolean)) {ρ : Int32 × gk_M}   {x0 : Int32} {M : gk_M} (h : fn_SD_isType_15  x0 M = some ρ) : Gk p l e rm_SD_isType s m args below meth c gk_Y Γ 2 (MQ below (gk_Q gk_Y Γ (some (.int ρ.1)) ρ.2) args s rm_SD_isType.cells rm_SD_isType.slots (fun q => Γ.2.2 ≤ q)) 0 0 M 15 [some (.int x0), none] [] := by
  unfold fn_SD_isType_15 at h
  refine Gk_iconst (v := 1) B d_SD_isType_15 (by decide) ?_
  refine Gk_goto (tgt := 20) B d_SD_isType_16 rfl ?_
  exact sn_SD_isType_20 B hr h
set_option maxHeartbeats 4000000 in
set_option maxRecDepth 100000 in
theorem sn_SD_isType_0 {l : Launch} {Γ : gk_G} {p : Program} {e : Env} {s : State} {m : MethodId} {args : Array Value} {below : List Frame} {meth : Method} {c : Code} (B : gk_B p s m args meth c gk_Y Γ c_SD_isType 2 "StageDispatcher") (hr : meth.sig.returnType = (some .boolean)) {ρ : Int32 × gk_M}   {x0 : Int32} {M : gk_M} (h : fn_SD_isType  x0 M = some ρ) : Gk p l e rm_SD_isType s m args below meth c gk_Y Γ 2 (MQ below (gk_Q gk_Y Γ (some (.int ρ.1)) ρ.2) args s rm_SD_isType.cells rm_SD_isType.slots (fun q => Γ.2.2 ≤ q)) 0 0 M 0 [some (.int x0), none] [] := by
  unfold fn_SD_isType at h
  refine Gk_iload_n (i := 0) (x := x0) B d_SD_isType_0 rfl rfl ?_
  refine Gk_if_eq (tgt := 15) B d_SD_isType_1 rfl (fun c1 => ?_) (fun c1 => ?_)
  · rw [if_pos c1] at h
    exact sn_SD_isType_15 B hr h
  rw [if_neg c1] at h
  refine Gk_iload_n (i := 0) (x := x0) B d_SD_isType_4 rfl rfl ?_
  refine Gk_bipush (v := 16) B d_SD_isType_5 (by decide) ?_
  refine Gk_bipush (v := 51) B d_SD_isType_7 (by decide) ?_
  obtain ⟨w9, h9, h⟩ := gk_bind h
  refine Gk_callS (As := [.int x0, .int 16, .int 51]) (rest := []) (st1 := [.int w9.1]) (k1 := 0) (n1 := 0) B gk_hG d_SD_isType_9 (sn_SD_isWithin h9) tw_373 tw_377 tw_372 tw_40 nm_SD_isWithin rfl (by decide) ⟨by decide, by decide⟩ ⟨by decide, by decide⟩ rfl rfl rfl rfl ?_
  refine Gk_if_eq (tgt := 19) B d_SD_isType_12 rfl (fun c12 => ?_) (fun c12 => ?_)
  · rw [if_pos c12] at h
    refine Gk_iconst (v := 0) B d_SD_isType_19 (by decide) ?_
    exact sn_SD_isType_20 B hr h
  rw [if_neg c12] at h
  exact sn_SD_isType_15 B hr h
theorem sn_SD_isType {l : Launch} {Γ : gk_G} {x0 : Int32} {M : gk_M} {ρ : Int32 × gk_M} (h : fn_SD_isType x0 M = some ρ) : gk_Met l gk_Y Γ y_SD_isType (.code y_SD_isType c_SD_isType 2 (some .boolean) :: gk_Y.2.2.2) rm_SD_isType [.int x0] M (some (.int ρ.1)) ρ.2 :=
  gk_start (by decide) (by simp [lg_sl, gk_rc, gk_ic, gk_jc]) [some (.int x0), none] (by simp [gk_as, lv_args, gk_rc, gk_ic, gk_jc]) (fun p e s m args below meth c B hr hin => sn_SD_isType_0 B hr h)
theorem d_Method_init_0 : decode c_Method_init 0 = .ok (.aload_n 0, 1) := by decide +kernel
theorem d_Method_init_1 : decode c_Method_init 1 = .ok (.invokespecial 3, 3) := by decide +kernel
theorem d_Method_init_4 : decode c_Method_init 4 = .ok (.aload_n 0, 1) := by decide +kernel
theorem d_Method_init_5 : decode c_Method_init 5 = .ok (.iconst (-1), 1) := by decide +kernel
theorem d_Method_init_6 : decode c_Method_init 6 = .ok (.putfield 9, 3) := by decide +kernel
theorem d_Method_init_9 : decode c_Method_init 9 = .ok (.aload_n 0, 1) := by decide +kernel
theorem d_Method_init_10 : decode c_Method_init 10 = .ok (.iconst 0, 1) := by decide +kernel
theorem d_Method_init_11 : decode c_Method_init 11 = .ok (.putfield 15, 3) := by decide +kernel
theorem d_Method_init_14 : decode c_Method_init 14 = .ok (.aload_n 0, 1) := by decide +kernel
theorem d_Method_init_15 : decode c_Method_init 15 = .ok (.iconst 0, 1) := by decide +kernel
theorem d_Method_init_16 : decode c_Method_init 16 = .ok (.putfield 18, 3) := by decide +kernel
theorem d_Method_init_19 : decode c_Method_init 19 = .ok (.aload_n 0, 1) := by decide +kernel
theorem d_Method_init_20 : decode c_Method_init 20 = .ok (.iload_n 1, 1) := by decide +kernel
theorem d_Method_init_21 : decode c_Method_init 21 = .ok (.putfield 21, 3) := by decide +kernel
theorem d_Method_init_24 : decode c_Method_init 24 = .ok (.aload_n 0, 1) := by decide +kernel
theorem d_Method_init_25 : decode c_Method_init 25 = .ok (.aload_n 2, 1) := by decide +kernel
theorem d_Method_init_26 : decode c_Method_init 26 = .ok (.putfield 24, 3) := by decide +kernel
theorem d_Method_init_29 : decode c_Method_init 29 = .ok (.aload_n 0, 1) := by decide +kernel
theorem d_Method_init_30 : decode c_Method_init 30 = .ok (.iload_n 3, 1) := by decide +kernel
theorem d_Method_init_31 : decode c_Method_init 31 = .ok (.putfield 28, 3) := by decide +kernel
theorem d_Method_init_34 : decode c_Method_init 34 = .ok (.aload_n 0, 1) := by decide +kernel
theorem d_Method_init_35 : decode c_Method_init 35 = .ok (.iload 4, 2) := by decide +kernel
theorem d_Method_init_37 : decode c_Method_init 37 = .ok (.putfield 31, 3) := by decide +kernel
theorem d_Method_init_40 : decode c_Method_init 40 = .ok (.aload_n 0, 1) := by decide +kernel
theorem d_Method_init_41 : decode c_Method_init 41 = .ok (.iload 5, 2) := by decide +kernel
theorem d_Method_init_43 : decode c_Method_init 43 = .ok (.putfield 34, 3) := by decide +kernel
theorem d_Method_init_46 : decode c_Method_init 46 = .ok (.aload_n 0, 1) := by decide +kernel
theorem d_Method_init_47 : decode c_Method_init 47 = .ok (.iload 6, 2) := by decide +kernel
theorem d_Method_init_49 : decode c_Method_init 49 = .ok (.putfield 37, 3) := by decide +kernel
theorem d_Method_init_52 : decode c_Method_init 52 = .ok (.return_, 1) := by decide +kernel
set_option maxHeartbeats 4000000 in
set_option maxRecDepth 100000 in
theorem sn_Method_init_0 {l : Launch} {Γ : gk_G} {p : Program} {e : Env} {s : State} {m : MethodId} {args : Array Value} {below : List Frame} {meth : Method} {c : Code} (B : gk_B p s m args meth c gk_Y Γ c_Method_init 7 "StageDispatcher$Method") (hr : meth.sig.returnType = none) (hin : meth.name = "<init>") {ρ : gk_M}   {a0 : Option Nat} {x1 : Int32} {a2 : Option Nat} {x3 : Int32} {x4 : Int32} {x5 : Int32} {x6 : Int32} {M : gk_M} (h : fn_Method_init  a0 x1 a2 x3 x4 x5 x6 M = some ρ) : Gk p l e rm_Method_init s m args below meth c gk_Y Γ 7 (MQ below (gk_Q gk_Y Γ none ρ) args s rm_Method_init.cells rm_Method_init.slots (fun q => Γ.2.2 ≤ q)) 0 0 M 0 [some (va_rf a0), some (.int x1), some (va_rf a2), some (.int x3), some (.int x4), some (.int x5), some (.int x6)] [] := by
  unfold fn_Method_init at h
  refine Gk_aload_n (i := 0) (r := a0) B d_Method_init_0 rfl rfl ?_
  obtain ⟨o1, h1, h⟩ := gk_bind h
  refine Gk_objInit B d_Method_init_1 tw_386 tw_62 tw_63 h1 (by decide) (by decide) ?_
  refine Gk_aload_n (i := 0) (r := a0) B d_Method_init_4 rfl rfl ?_
  refine Gk_iconst (v := (-1)) B d_Method_init_5 (by decide) ?_
  obtain ⟨M6, h6, h⟩ := gk_bind h
  refine Gk_put (j := 6) (ty := .int) B d_Method_init_6 in_Method t_Method t_Method_ok n_Method cl_Method (by decide) tw_403 rfl rfl rfl rfl rfl h6 ?_
  refine Gk_aload_n (i := 0) (r := a0) B d_Method_init_9 rfl rfl ?_
  refine Gk_iconst (v := 0) B d_Method_init_10 (by decide) ?_
  obtain ⟨M11, h11, h⟩ := gk_bind h
  refine Gk_put (j := 7) (ty := .int) B d_Method_init_11 in_Method t_Method t_Method_ok n_Method cl_Method (by decide) tw_405 rfl rfl rfl rfl rfl h11 ?_
  refine Gk_aload_n (i := 0) (r := a0) B d_Method_init_14 rfl rfl ?_
  refine Gk_iconst (v := 0) B d_Method_init_15 (by decide) ?_
  obtain ⟨M16, h16, h⟩ := gk_bind h
  refine Gk_put (j := 8) (ty := .int) B d_Method_init_16 in_Method t_Method t_Method_ok n_Method cl_Method (by decide) tw_407 rfl rfl rfl rfl rfl h16 ?_
  refine Gk_aload_n (i := 0) (r := a0) B d_Method_init_19 rfl rfl ?_
  refine Gk_iload_n (i := 1) (x := x1) B d_Method_init_20 rfl rfl ?_
  obtain ⟨M21, h21, h⟩ := gk_bind h
  refine Gk_putF (j := 0) (ty := .int) B hin d_Method_init_21 in_Method t_Method t_Method_ok n_Method cl_Method (by decide) tw_387 rfl rfl rfl rfl rfl rfl h21 ?_
  refine Gk_aload_n (i := 0) (r := a0) B d_Method_init_24 rfl rfl ?_
  refine Gk_aload_n (i := 2) (r := a2) B d_Method_init_25 rfl rfl ?_
  obtain ⟨M26, h26, h⟩ := gk_bind h
  refine Gk_putF (j := 1) (ty := (.object "StageDispatcher$Template")) B hin d_Method_init_26 in_Method t_Method t_Method_ok n_Method cl_Method (by decide) tw_390 rfl rfl rfl rfl (gk_nfo _ _) (gk_ffo _ _) h26 ?_
  refine Gk_aload_n (i := 0) (r := a0) B d_Method_init_29 rfl rfl ?_
  refine Gk_iload_n (i := 3) (x := x3) B d_Method_init_30 rfl rfl ?_
  obtain ⟨M31, h31, h⟩ := gk_bind h
  refine Gk_putF (j := 2) (ty := .int) B hin d_Method_init_31 in_Method t_Method t_Method_ok n_Method cl_Method (by decide) tw_393 rfl rfl rfl rfl rfl rfl h31 ?_
  refine Gk_aload_n (i := 0) (r := a0) B d_Method_init_34 rfl rfl ?_
  refine Gk_iload (x := x4) B d_Method_init_35 rfl ?_
  obtain ⟨M37, h37, h⟩ := gk_bind h
  refine Gk_putF (j := 3) (ty := .int) B hin d_Method_init_37 in_Method t_Method t_Method_ok n_Method cl_Method (by decide) tw_395 rfl rfl rfl rfl rfl rfl h37 ?_
  refine Gk_aload_n (i := 0) (r := a0) B d_Method_init_40 rfl rfl ?_
  refine Gk_iload (x := x5) B d_Method_init_41 rfl ?_
  obtain ⟨M43, h43, h⟩ := gk_bind h
  refine Gk_putF (j := 4) (ty := .int) B hin d_Method_init_43 in_Method t_Method t_Method_ok n_Method cl_Method (by decide) tw_398 rfl rfl rfl rfl rfl rfl h43 ?_
  refine Gk_aload_n (i := 0) (r := a0) B d_Method_init_46 rfl rfl ?_
  refine Gk_iload (x := x6) B d_Method_init_47 rfl ?_
  obtain ⟨M49, h49, h⟩ := gk_bind h
  refine Gk_putF (j := 5) (ty := .int) B hin d_Method_init_49 in_Method t_Method t_Method_ok n_Method cl_Method (by decide) tw_401 rfl rfl rfl rfl rfl rfl h49 ?_
  cases h
  exact Gk_vret B hr d_Method_init_52 (by decide) (by decide) rfl
theorem sn_Method_init {l : Launch} {Γ : gk_G} {a0 : Option Nat} {x1 : Int32} {a2 : Option Nat} {x3 : Int32} {x4 : Int32} {x5 : Int32} {x6 : Int32} {M : gk_M} {ρ : gk_M} (h : fn_Method_init a0 x1 a2 x3 x4 x5 x6 M = some ρ) : gk_Met l gk_Y Γ y_Method_init (.code y_Method_init c_Method_init 7 none :: gk_Y.2.2.2) rm_Method_init [va_rf a0, .int x1, va_rf a2, .int x3, .int x4, .int x5, .int x6] M none ρ :=
  gk_start (by decide) (by simp [lg_sl, gk_rc, gk_ic, gk_jc]) [some (va_rf a0), some (.int x1), some (va_rf a2), some (.int x3), some (.int x4), some (.int x5), some (.int x6)] (by simp [gk_as, lv_args, gk_rc, gk_ic, gk_jc]) (fun p e s m args below meth c B hr hin => sn_Method_init_0 B hr hin h)
theorem d_Catalog_addMethod_0 : decode c_Catalog_addMethod 0 = .ok (.aload_n 0, 1) := by decide +kernel
theorem d_Catalog_addMethod_1 : decode c_Catalog_addMethod 1 = .ok (.getfield 19, 3) := by decide +kernel
theorem d_Catalog_addMethod_4 : decode c_Catalog_addMethod 4 = .ok (.aload_n 0, 1) := by decide +kernel
theorem d_Catalog_addMethod_5 : decode c_Catalog_addMethod 5 = .ok (.getfield 33, 3) := by decide +kernel
theorem d_Catalog_addMethod_8 : decode c_Catalog_addMethod 8 = .ok (.aload_n 1, 1) := by decide +kernel
theorem d_Catalog_addMethod_9 : decode c_Catalog_addMethod 9 = .ok (.aastore, 1) := by decide +kernel
theorem d_Catalog_addMethod_10 : decode c_Catalog_addMethod 10 = .ok (.aload_n 0, 1) := by decide +kernel
theorem d_Catalog_addMethod_11 : decode c_Catalog_addMethod 11 = .ok (.dup, 1) := by decide +kernel
theorem d_Catalog_addMethod_12 : decode c_Catalog_addMethod 12 = .ok (.getfield 33, 3) := by decide +kernel
theorem d_Catalog_addMethod_15 : decode c_Catalog_addMethod 15 = .ok (.iconst 1, 1) := by decide +kernel
theorem d_Catalog_addMethod_16 : decode c_Catalog_addMethod 16 = .ok (.iadd, 1) := by decide +kernel
theorem d_Catalog_addMethod_17 : decode c_Catalog_addMethod 17 = .ok (.putfield 33, 3) := by decide +kernel
theorem d_Catalog_addMethod_20 : decode c_Catalog_addMethod 20 = .ok (.aload_n 0, 1) := by decide +kernel
theorem d_Catalog_addMethod_21 : decode c_Catalog_addMethod 21 = .ok (.getfield 33, 3) := by decide +kernel
theorem d_Catalog_addMethod_24 : decode c_Catalog_addMethod 24 = .ok (.iconst 1, 1) := by decide +kernel
theorem d_Catalog_addMethod_25 : decode c_Catalog_addMethod 25 = .ok (.isub, 1) := by decide +kernel
theorem d_Catalog_addMethod_26 : decode c_Catalog_addMethod 26 = .ok (.ireturn, 1) := by decide +kernel
set_option maxHeartbeats 4000000 in
set_option maxRecDepth 100000 in
theorem sn_Catalog_addMethod_0 {l : Launch} {Γ : gk_G} {p : Program} {e : Env} {s : State} {m : MethodId} {args : Array Value} {below : List Frame} {meth : Method} {c : Code} (B : gk_B p s m args meth c gk_Y Γ c_Catalog_addMethod 2 "StageDispatcher$Catalog") (hr : meth.sig.returnType = (some .int)) {ρ : Int32 × gk_M}   {a0 : Option Nat} {a1 : Option Nat} {M : gk_M} (h : fn_Catalog_addMethod  a0 a1 M = some ρ) : Gk p l e rm_Catalog_addMethod s m args below meth c gk_Y Γ 2 (MQ below (gk_Q gk_Y Γ (some (.int ρ.1)) ρ.2) args s rm_Catalog_addMethod.cells rm_Catalog_addMethod.slots (fun q => Γ.2.2 ≤ q)) 0 0 M 0 [some (va_rf a0), some (va_rf a1)] [] := by
  unfold fn_Catalog_addMethod at h
  refine Gk_aload_n (i := 0) (r := a0) B d_Catalog_addMethod_0 rfl rfl ?_
  obtain ⟨v1, h1, h⟩ := gk_bind h
  refine Gk_getR (j := 1) B d_Catalog_addMethod_1 in_Catalog cl_Catalog (by decide) tw_99 rfl h1 ?_
  refine Gk_aload_n (i := 0) (r := a0) B d_Catalog_addMethod_4 rfl rfl ?_
  obtain ⟨v5, h5, h⟩ := gk_bind h
  refine Gk_getI (j := 4) B d_Catalog_addMethod_5 in_Catalog cl_Catalog (by decide) tw_107 rfl h5 ?_
  refine Gk_aload_n (i := 1) (r := a1) B d_Catalog_addMethod_8 rfl rfl ?_
  obtain ⟨M9, h9, h⟩ := gk_bind h
  refine Gk_aastore B d_Catalog_addMethod_9 ty_4 cl_Method h9 ?_
  refine Gk_aload_n (i := 0) (r := a0) B d_Catalog_addMethod_10 rfl rfl ?_
  refine Gk_dup B d_Catalog_addMethod_11 (gk_rc _) ?_
  obtain ⟨v12, h12, h⟩ := gk_bind h
  refine Gk_getI (j := 4) B d_Catalog_addMethod_12 in_Catalog cl_Catalog (by decide) tw_107 rfl h12 ?_
  refine Gk_iconst (v := 1) B d_Catalog_addMethod_15 (by decide) ?_
  refine Gk_iadd B d_Catalog_addMethod_16 ?_
  obtain ⟨M17, h17, h⟩ := gk_bind h
  refine Gk_put (j := 4) (ty := .int) B d_Catalog_addMethod_17 in_Catalog t_Catalog t_Catalog_ok n_Catalog cl_Catalog (by decide) tw_107 rfl rfl rfl rfl rfl h17 ?_
  refine Gk_aload_n (i := 0) (r := a0) B d_Catalog_addMethod_20 rfl rfl ?_
  obtain ⟨v21, h21, h⟩ := gk_bind h
  refine Gk_getI (j := 4) B d_Catalog_addMethod_21 in_Catalog cl_Catalog (by decide) tw_107 rfl h21 ?_
  refine Gk_iconst (v := 1) B d_Catalog_addMethod_24 (by decide) ?_
  refine Gk_isub B d_Catalog_addMethod_25 ?_
  cases h
  exact Gk_iret B hr d_Catalog_addMethod_26 rfl (by decide) (by decide) rfl
theorem sn_Catalog_addMethod {l : Launch} {Γ : gk_G} {a0 : Option Nat} {a1 : Option Nat} {M : gk_M} {ρ : Int32 × gk_M} (h : fn_Catalog_addMethod a0 a1 M = some ρ) : gk_Met l gk_Y Γ y_Catalog_addMethod (.code y_Catalog_addMethod c_Catalog_addMethod 2 (some .int) :: gk_Y.2.2.2) rm_Catalog_addMethod [va_rf a0, va_rf a1] M (some (.int ρ.1)) ρ.2 :=
  gk_start (by decide) (by simp [lg_sl, gk_rc, gk_ic, gk_jc]) [some (va_rf a0), some (va_rf a1)] (by simp [gk_as, lv_args, gk_rc, gk_ic, gk_jc]) (fun p e s m args below meth c B hr hin => sn_Catalog_addMethod_0 B hr h)
theorem d_SD_method_0 : decode c_SD_method 0 = .ok (.aload_n 0, 1) := by decide +kernel
theorem d_SD_method_1 : decode c_SD_method 1 = .ok (.getfield 19, 3) := by decide +kernel
theorem d_SD_method_4 : decode c_SD_method 4 = .ok (.getfield 79, 3) := by decide +kernel
theorem d_SD_method_7 : decode c_SD_method 7 = .ok (.bipush 12, 2) := by decide +kernel
theorem d_SD_method_9 : decode c_SD_method 9 = .ok (.if_icmp .ge 72, 3) := by decide +kernel
theorem d_SD_method_12 : decode c_SD_method 12 = .ok (.aload_n 0, 1) := by decide +kernel
theorem d_SD_method_13 : decode c_SD_method 13 = .ok (.getfield 10, 3) := by decide +kernel
theorem d_SD_method_16 : decode c_SD_method 16 = .ok (.getfield 82, 3) := by decide +kernel
theorem d_SD_method_19 : decode c_SD_method 19 = .ok (.ifCond .eq 13, 3) := by decide +kernel
theorem d_SD_method_22 : decode c_SD_method 22 = .ok (.aload_n 0, 1) := by decide +kernel
theorem d_SD_method_23 : decode c_SD_method 23 = .ok (.getfield 10, 3) := by decide +kernel
theorem d_SD_method_26 : decode c_SD_method 26 = .ok (.invokestatic 63, 3) := by decide +kernel
theorem d_SD_method_29 : decode c_SD_method 29 = .ok (.ifCond .eq 52, 3) := by decide +kernel
theorem d_SD_method_32 : decode c_SD_method 32 = .ok (.aload_n 0, 1) := by decide +kernel
theorem d_SD_method_33 : decode c_SD_method 33 = .ok (.getfield 19, 3) := by decide +kernel
theorem d_SD_method_36 : decode c_SD_method 36 = .ok (.iload_n 1, 1) := by decide +kernel
theorem d_SD_method_37 : decode c_SD_method 37 = .ok (.invokevirtual 85, 3) := by decide +kernel
theorem d_SD_method_40 : decode c_SD_method 40 = .ok (.ifCond .eq 41, 3) := by decide +kernel
theorem d_SD_method_43 : decode c_SD_method 43 = .ok (.iload_n 2, 1) := by decide +kernel
theorem d_SD_method_44 : decode c_SD_method 44 = .ok (.invokestatic 89, 3) := by decide +kernel
theorem d_SD_method_47 : decode c_SD_method 47 = .ok (.ifCond .eq 34, 3) := by decide +kernel
theorem d_SD_method_50 : decode c_SD_method 50 = .ok (.iload_n 3, 1) := by decide +kernel
theorem d_SD_method_51 : decode c_SD_method 51 = .ok (.invokestatic 92, 3) := by decide +kernel
theorem d_SD_method_54 : decode c_SD_method 54 = .ok (.ifCond .eq 27, 3) := by decide +kernel
theorem d_SD_method_57 : decode c_SD_method 57 = .ok (.iload 4, 2) := by decide +kernel
theorem d_SD_method_59 : decode c_SD_method 59 = .ok (.invokestatic 92, 3) := by decide +kernel
theorem d_SD_method_62 : decode c_SD_method 62 = .ok (.ifCond .eq 19, 3) := by decide +kernel
theorem d_SD_method_65 : decode c_SD_method 65 = .ok (.iload 5, 2) := by decide +kernel
theorem d_SD_method_67 : decode c_SD_method 67 = .ok (.iconst 0, 1) := by decide +kernel
theorem d_SD_method_68 : decode c_SD_method 68 = .ok (.sipush 1000, 3) := by decide +kernel
theorem d_SD_method_71 : decode c_SD_method 71 = .ok (.invokestatic 95, 3) := by decide +kernel
theorem d_SD_method_74 : decode c_SD_method 74 = .ok (.ifCond .eq 7, 3) := by decide +kernel
theorem d_SD_method_77 : decode c_SD_method 77 = .ok (.iconst 1, 1) := by decide +kernel
theorem d_SD_method_78 : decode c_SD_method 78 = .ok (.goto 4, 3) := by decide +kernel
theorem d_SD_method_81 : decode c_SD_method 81 = .ok (.iconst 0, 1) := by decide +kernel
theorem d_SD_method_82 : decode c_SD_method 82 = .ok (.istore 6, 2) := by decide +kernel
theorem d_SD_method_84 : decode c_SD_method 84 = .ok (.iconst (-1), 1) := by decide +kernel
theorem d_SD_method_85 : decode c_SD_method 85 = .ok (.istore 7, 2) := by decide +kernel
theorem d_SD_method_87 : decode c_SD_method 87 = .ok (.iload 6, 2) := by decide +kernel
theorem d_SD_method_89 : decode c_SD_method 89 = .ok (.ifCond .eq 55, 3) := by decide +kernel
theorem d_SD_method_92 : decode c_SD_method 92 = .ok (.aload_n 0, 1) := by decide +kernel
theorem d_SD_method_93 : decode c_SD_method 93 = .ok (.getfield 10, 3) := by decide +kernel
theorem d_SD_method_96 : decode c_SD_method 96 = .ok (.getfield 82, 3) := by decide +kernel
theorem d_SD_method_99 : decode c_SD_method 99 = .ok (.ifCond .ne 7, 3) := by decide +kernel
theorem d_SD_method_102 : decode c_SD_method 102 = .ok (.aconst_null, 1) := by decide +kernel
theorem d_SD_method_103 : decode c_SD_method 103 = .ok (.goto 14, 3) := by decide +kernel
theorem d_SD_method_106 : decode c_SD_method 106 = .ok (.new 64, 3) := by decide +kernel
theorem d_SD_method_109 : decode c_SD_method 109 = .ok (.dup, 1) := by decide +kernel
theorem d_SD_method_110 : decode c_SD_method 110 = .ok (.aload_n 0, 1) := by decide +kernel
theorem d_SD_method_111 : decode c_SD_method 111 = .ok (.getfield 10, 3) := by decide +kernel
theorem d_SD_method_114 : decode c_SD_method 114 = .ok (.invokespecial 69, 3) := by decide +kernel
theorem d_SD_method_117 : decode c_SD_method 117 = .ok (.astore 8, 2) := by decide +kernel
theorem d_SD_method_119 : decode c_SD_method 119 = .ok (.aload_n 0, 1) := by decide +kernel
theorem d_SD_method_120 : decode c_SD_method 120 = .ok (.getfield 19, 3) := by decide +kernel
theorem d_SD_method_123 : decode c_SD_method 123 = .ok (.new 99, 3) := by decide +kernel
theorem d_SD_method_126 : decode c_SD_method 126 = .ok (.dup, 1) := by decide +kernel
theorem d_SD_method_127 : decode c_SD_method 127 = .ok (.iload_n 1, 1) := by decide +kernel
theorem d_SD_method_128 : decode c_SD_method 128 = .ok (.aload 8, 2) := by decide +kernel
theorem d_SD_method_130 : decode c_SD_method 130 = .ok (.iload_n 2, 1) := by decide +kernel
theorem d_SD_method_131 : decode c_SD_method 131 = .ok (.iload_n 3, 1) := by decide +kernel
theorem d_SD_method_132 : decode c_SD_method 132 = .ok (.iload 4, 2) := by decide +kernel
theorem d_SD_method_134 : decode c_SD_method 134 = .ok (.iload 5, 2) := by decide +kernel
theorem d_SD_method_136 : decode c_SD_method 136 = .ok (.invokespecial 101, 3) := by decide +kernel
theorem d_SD_method_139 : decode c_SD_method 139 = .ok (.invokevirtual 104, 3) := by decide +kernel
theorem d_SD_method_142 : decode c_SD_method 142 = .ok (.istore 7, 2) := by decide +kernel
theorem d_SD_method_144 : decode c_SD_method 144 = .ok (.aload_n 0, 1) := by decide +kernel
theorem d_SD_method_145 : decode c_SD_method 145 = .ok (.getfield 10, 3) := by decide +kernel
theorem d_SD_method_148 : decode c_SD_method 148 = .ok (.invokevirtual 76, 3) := by decide +kernel
theorem d_SD_method_151 : decode c_SD_method 151 = .ok (.iload 7, 2) := by decide +kernel
theorem d_SD_method_153 : decode c_SD_method 153 = .ok (.ireturn, 1) := by decide +kernel
set_option maxHeartbeats 4000000 in
set_option maxRecDepth 100000 in
theorem sn_SD_method_144 {l : Launch} {Γ : gk_G} {p : Program} {e : Env} {s : State} {m : MethodId} {args : Array Value} {below : List Frame} {meth : Method} {c : Code} (B : gk_B p s m args meth c gk_Y Γ c_SD_method 9 "StageDispatcher") (hr : meth.sig.returnType = (some .int)) {ρ : Int32 × gk_M}   {a0 : Option Nat} {x7 : Int32} {M : gk_M} (h : fn_SD_method_144  a0 x7 M = some ρ) : Gk p l e rm_SD_method s m args below meth c gk_Y Γ 9 (MQ below (gk_Q gk_Y Γ (some (.int ρ.1)) ρ.2) args s rm_SD_method.cells rm_SD_method.slots (fun q => Γ.2.2 ≤ q)) 3 38 M 144 [some (va_rf a0), none, none, none, none, none, none, some (.int x7), none] [] := by
  unfold fn_SD_method_144 at h
  refine Gk_aload_n (i := 0) (r := a0) B d_SD_method_144 rfl rfl ?_
  obtain ⟨v145, h145, h⟩ := gk_bind h
  refine Gk_getR (j := 0) B d_SD_method_145 in_SD cl_SD (by decide) tw_278 rfl h145 ?_
  obtain ⟨o148, g148, h⟩ := gk_bind h
  obtain ⟨w148, h148, h⟩ := gk_bind h
  refine Gk_callV (As := []) (rest := []) (st1 := []) (k1 := 3) (n1 := 38) B gk_hG d_SD_method_148 (sn_Text_clear h148) g148 cl_Text tw_362 tw_359 tw_360 tw_361 tw_41 nm_Text_clear rfl (by decide) ⟨by decide, by decide⟩ ⟨by decide, by decide⟩ rfl rfl rfl rfl ?_
  refine Gk_iload (x := x7) B d_SD_method_151 rfl ?_
  cases h
  exact Gk_iret B hr d_SD_method_153 rfl (by decide) (by decide) rfl
set_option maxHeartbeats 4000000 in
set_option maxRecDepth 100000 in
theorem sn_SD_method_117 {l : Launch} {Γ : gk_G} {p : Program} {e : Env} {s : State} {m : MethodId} {args : Array Value} {below : List Frame} {meth : Method} {c : Code} (B : gk_B p s m args meth c gk_Y Γ c_SD_method 9 "StageDispatcher") (hr : meth.sig.returnType = (some .int)) {ρ : Int32 × gk_M}   {a0 : Option Nat} {x1 : Int32} {x2 : Int32} {x3 : Int32} {x4 : Int32} {x5 : Int32} {s0 : Option Nat} {M : gk_M} (h : fn_SD_method_117  a0 x1 x2 x3 x4 x5 s0 M = some ρ) : Gk p l e rm_SD_method s m args below meth c gk_Y Γ 9 (MQ below (gk_Q gk_Y Γ (some (.int ρ.1)) ρ.2) args s rm_SD_method.cells rm_SD_method.slots (fun q => Γ.2.2 ≤ q)) 2 29 M 117 [some (va_rf a0), some (.int x1), some (.int x2), some (.int x3), some (.int x4), some (.int x5), none, none, none] [va_rf s0] := by
  unfold fn_SD_method_117 at h
  refine Gk_astore (L' := [some (va_rf a0), some (.int x1), some (.int x2), some (.int x3), some (.int x4), some (.int x5), none, none, some (va_rf s0)]) B d_SD_method_117 (by decide) (gk_c1_n rfl) rfl ?_
  refine Gk_aload_n (i := 0) (r := a0) B d_SD_method_119 rfl rfl ?_
  obtain ⟨v120, h120, h⟩ := gk_bind h
  refine Gk_getR (j := 1) B d_SD_method_120 in_SD cl_SD (by decide) tw_279 rfl h120 ?_
  refine Gk_new B d_SD_method_123 in_Method t_Method t_Method_ok tw_381 tw_382 tw_51 cl_Method df_Method_ok (by decide) (by decide) ?_
  refine Gk_dup B d_SD_method_126 (gk_rc _) ?_
  refine Gk_iload_n (i := 1) (x := x1) B d_SD_method_127 rfl rfl ?_
  refine Gk_aload (r := s0) B d_SD_method_128 rfl ?_
  refine Gk_iload_n (i := 2) (x := x2) B d_SD_method_130 rfl rfl ?_
  refine Gk_iload_n (i := 3) (x := x3) B d_SD_method_131 rfl rfl ?_
  refine Gk_iload (x := x4) B d_SD_method_132 rfl ?_
  refine Gk_iload (x := x5) B d_SD_method_134 rfl ?_
  obtain ⟨o136, g136, h⟩ := gk_bind h
  obtain ⟨w136, h136, h⟩ := gk_bind h
  refine Gk_callI (As := [.int x1, va_rf s0, .int x2, .int x3, .int x4, .int x5]) (rest := [va_rf (some M.2), va_rf v120]) (st1 := [va_rf (some M.2), va_rf v120]) (k1 := 3) (n1 := 38) B gk_hG d_SD_method_136 (sn_Method_init h136) g136 rfl tw_385 tw_383 tw_384 tw_51 nm_Method_init rfl (by simp [gk_rc, gk_ic, gk_jc, rm_SD_method]) ⟨by decide, by decide⟩ ⟨by decide, by decide⟩ rfl rfl rfl rfl ?_
  obtain ⟨o139, g139, h⟩ := gk_bind h
  obtain ⟨w139, h139, h⟩ := gk_bind h
  refine Gk_callV (As := [va_rf (some M.2)]) (rest := []) (st1 := [.int w139.1]) (k1 := 3) (n1 := 38) B gk_hG d_SD_method_139 (sn_Catalog_addMethod h139) g139 cl_Catalog tw_431 tw_428 tw_429 tw_430 tw_42 nm_Catalog_addMethod rfl (by decide) ⟨by decide, by decide⟩ ⟨by decide, by decide⟩ rfl rfl rfl rfl ?_
  refine Gk_istore (L' := [some (va_rf a0), some (.int x1), some (.int x2), some (.int x3), some (.int x4), some (.int x5), none, some (.int w139.1), some (va_rf s0)]) B d_SD_method_142 (by decide) (gk_c1_n rfl) rfl ?_
  refine Gk_weak [true, false, false, false, false, false, false, true, false] (L' := [some (va_rf a0), none, none, none, none, none, none, some (.int w139.1), none]) rfl ?_
  exact sn_SD_method_144 B hr h
set_option maxHeartbeats 4000000 in
set_option maxRecDepth 100000 in
theorem sn_SD_method_82 {l : Launch} {Γ : gk_G} {p : Program} {e : Env} {s : State} {m : MethodId} {args : Array Value} {below : List Frame} {meth : Method} {c : Code} (B : gk_B p s m args meth c gk_Y Γ c_SD_method 9 "StageDispatcher") (hr : meth.sig.returnType = (some .int)) {ρ : Int32 × gk_M}   {a0 : Option Nat} {x1 : Int32} {x2 : Int32} {x3 : Int32} {x4 : Int32} {x5 : Int32} {s0 : Int32} {M : gk_M} (h : fn_SD_method_82  a0 x1 x2 x3 x4 x5 s0 M = some ρ) : Gk p l e rm_SD_method s m args below meth c gk_Y Γ 9 (MQ below (gk_Q gk_Y Γ (some (.int ρ.1)) ρ.2) args s rm_SD_method.cells rm_SD_method.slots (fun q => Γ.2.2 ≤ q)) 0 0 M 82 [some (va_rf a0), some (.int x1), some (.int x2), some (.int x3), some (.int x4), some (.int x5), none, none, none] [.int s0] := by
  unfold fn_SD_method_82 at h
  refine Gk_istore (L' := [some (va_rf a0), some (.int x1), some (.int x2), some (.int x3), some (.int x4), some (.int x5), some (.int s0), none, none]) B d_SD_method_82 (by decide) (gk_c1_i rfl) rfl ?_
  refine Gk_iconst (v := (-1)) B d_SD_method_84 (by decide) ?_
  refine Gk_istore (L' := [some (va_rf a0), some (.int x1), some (.int x2), some (.int x3), some (.int x4), some (.int x5), some (.int s0), some (.int (-1)), none]) B d_SD_method_85 (by decide) (gk_c1_i rfl) rfl ?_
  refine Gk_iload (x := s0) B d_SD_method_87 rfl ?_
  refine Gk_if_eq (tgt := 144) B d_SD_method_89 rfl (fun c89 => ?_) (fun c89 => ?_)
  · rw [if_pos c89] at h
    refine Gk_weak [true, false, false, false, false, false, false, true, false] (L' := [some (va_rf a0), none, none, none, none, none, none, some (.int (-1)), none]) rfl ?_
    refine Gk_widen (k' := 3) (n' := 38) (by decide) (by decide) ?_
    exact sn_SD_method_144 B hr h
  rw [if_neg c89] at h
  refine Gk_aload_n (i := 0) (r := a0) B d_SD_method_92 rfl rfl ?_
  obtain ⟨v93, h93, h⟩ := gk_bind h
  refine Gk_getR (j := 0) B d_SD_method_93 in_SD cl_SD (by decide) tw_278 rfl h93 ?_
  obtain ⟨v96, h96, h⟩ := gk_bind h
  refine Gk_getI (j := 1) B d_SD_method_96 in_Text cl_Text (by decide) tw_78 rfl h96 ?_
  refine Gk_if_ne (tgt := 106) B d_SD_method_99 rfl (fun c99 => ?_) (fun c99 => ?_)
  · rw [if_neg c99] at h
    refine Gk_new B d_SD_method_106 in_Template t_Template t_Template_ok tw_322 tw_323 tw_49 cl_Template df_Template_ok (by decide) (by decide) ?_
    refine Gk_dup B d_SD_method_109 (gk_rc _) ?_
    refine Gk_aload_n (i := 0) (r := a0) B d_SD_method_110 rfl rfl ?_
    obtain ⟨v111, h111, h⟩ := gk_bind h
    refine Gk_getR (j := 0) B d_SD_method_111 in_SD cl_SD (by decide) tw_278 rfl h111 ?_
    obtain ⟨o114, g114, h⟩ := gk_bind h
    obtain ⟨w114, h114, h⟩ := gk_bind h
    refine Gk_callI (As := [va_rf v111]) (rest := [va_rf (some M.2)]) (st1 := [va_rf (some M.2)]) (k1 := 2) (n1 := 29) B gk_hG d_SD_method_114 (sn_Template_init h114) g114 rfl tw_326 tw_324 tw_325 tw_49 nm_Template_init rfl (by simp [gk_rc, gk_ic, gk_jc, rm_SD_method]) ⟨by decide, by decide⟩ ⟨by decide, by decide⟩ rfl rfl rfl rfl ?_
    refine Gk_weak [true, true, true, true, true, true, false, false, false] (L' := [some (va_rf a0), some (.int x1), some (.int x2), some (.int x3), some (.int x4), some (.int x5), none, none, none]) rfl ?_
    exact sn_SD_method_117 B hr h
  rw [if_pos c99] at h
  refine Gk_null B d_SD_method_102 ?_
  refine Gk_goto (tgt := 117) B d_SD_method_103 rfl ?_
  refine Gk_weak [true, true, true, true, true, true, false, false, false] (L' := [some (va_rf a0), some (.int x1), some (.int x2), some (.int x3), some (.int x4), some (.int x5), none, none, none]) rfl ?_
  refine Gk_widen (k' := 2) (n' := 29) (by decide) (by decide) ?_
  exact sn_SD_method_117 B hr h
set_option maxHeartbeats 4000000 in
set_option maxRecDepth 100000 in
theorem sn_SD_method_81 {l : Launch} {Γ : gk_G} {p : Program} {e : Env} {s : State} {m : MethodId} {args : Array Value} {below : List Frame} {meth : Method} {c : Code} (B : gk_B p s m args meth c gk_Y Γ c_SD_method 9 "StageDispatcher") (hr : meth.sig.returnType = (some .int)) {ρ : Int32 × gk_M}   {a0 : Option Nat} {x1 : Int32} {x2 : Int32} {x3 : Int32} {x4 : Int32} {x5 : Int32} {M : gk_M} (h : fn_SD_method_81  a0 x1 x2 x3 x4 x5 M = some ρ) : Gk p l e rm_SD_method s m args below meth c gk_Y Γ 9 (MQ below (gk_Q gk_Y Γ (some (.int ρ.1)) ρ.2) args s rm_SD_method.cells rm_SD_method.slots (fun q => Γ.2.2 ≤ q)) 0 0 M 81 [some (va_rf a0), some (.int x1), some (.int x2), some (.int x3), some (.int x4), some (.int x5), none, none, none] [] := by
  unfold fn_SD_method_81 at h
  refine Gk_iconst (v := 0) B d_SD_method_81 (by decide) ?_
  exact sn_SD_method_82 B hr h
set_option maxHeartbeats 4000000 in
set_option maxRecDepth 100000 in
theorem sn_SD_method_32 {l : Launch} {Γ : gk_G} {p : Program} {e : Env} {s : State} {m : MethodId} {args : Array Value} {below : List Frame} {meth : Method} {c : Code} (B : gk_B p s m args meth c gk_Y Γ c_SD_method 9 "StageDispatcher") (hr : meth.sig.returnType = (some .int)) {ρ : Int32 × gk_M}   {a0 : Option Nat} {x1 : Int32} {x2 : Int32} {x3 : Int32} {x4 : Int32} {x5 : Int32} {M : gk_M} (h : fn_SD_method_32  a0 x1 x2 x3 x4 x5 M = some ρ) : Gk p l e rm_SD_method s m args below meth c gk_Y Γ 9 (MQ below (gk_Q gk_Y Γ (some (.int ρ.1)) ρ.2) args s rm_SD_method.cells rm_SD_method.slots (fun q => Γ.2.2 ≤ q)) 0 0 M 32 [some (va_rf a0), some (.int x1), some (.int x2), some (.int x3), some (.int x4), some (.int x5), none, none, none] [] := by
  unfold fn_SD_method_32 at h
  refine Gk_aload_n (i := 0) (r := a0) B d_SD_method_32 rfl rfl ?_
  obtain ⟨v33, h33, h⟩ := gk_bind h
  refine Gk_getR (j := 1) B d_SD_method_33 in_SD cl_SD (by decide) tw_279 rfl h33 ?_
  refine Gk_iload_n (i := 1) (x := x1) B d_SD_method_36 rfl rfl ?_
  obtain ⟨o37, g37, h⟩ := gk_bind h
  obtain ⟨w37, h37, h⟩ := gk_bind h
  refine Gk_callV (As := [.int x1]) (rest := []) (st1 := [.int w37.1]) (k1 := 0) (n1 := 0) B gk_hG d_SD_method_37 (sn_Catalog_isResource h37) g37 cl_Catalog tw_370 tw_367 tw_368 tw_369 tw_42 nm_Catalog_isResource rfl (by decide) ⟨by decide, by decide⟩ ⟨by decide, by decide⟩ rfl rfl rfl rfl ?_
  refine Gk_if_eq (tgt := 81) B d_SD_method_40 rfl (fun c40 => ?_) (fun c40 => ?_)
  · rw [if_pos c40] at h
    exact sn_SD_method_81 B hr h
  rw [if_neg c40] at h
  refine Gk_iload_n (i := 2) (x := x2) B d_SD_method_43 rfl rfl ?_
  obtain ⟨w44, h44, h⟩ := gk_bind h
  refine Gk_callS (As := [.int x2]) (rest := []) (st1 := [.int w44.1]) (k1 := 0) (n1 := 0) B gk_hG d_SD_method_44 (sn_SD_isVerb h44) tw_376 tw_374 tw_375 tw_40 nm_SD_isVerb rfl (by decide) ⟨by decide, by decide⟩ ⟨by decide, by decide⟩ rfl rfl rfl rfl ?_
  refine Gk_if_eq (tgt := 81) B d_SD_method_47 rfl (fun c47 => ?_) (fun c47 => ?_)
  · rw [if_pos c47] at h
    exact sn_SD_method_81 B hr h
  rw [if_neg c47] at h
  refine Gk_iload_n (i := 3) (x := x3) B d_SD_method_50 rfl rfl ?_
  obtain ⟨w51, h51, h⟩ := gk_bind h
  refine Gk_callS (As := [.int x3]) (rest := []) (st1 := [.int w51.1]) (k1 := 0) (n1 := 0) B gk_hG d_SD_method_51 (sn_SD_isType h51) tw_380 tw_378 tw_379 tw_40 nm_SD_isType rfl (by decide) ⟨by decide, by decide⟩ ⟨by decide, by decide⟩ rfl rfl rfl rfl ?_
  refine Gk_if_eq (tgt := 81) B d_SD_method_54 rfl (fun c54 => ?_) (fun c54 => ?_)
  · rw [if_pos c54] at h
    exact sn_SD_method_81 B hr h
  rw [if_neg c54] at h
  refine Gk_iload (x := x4) B d_SD_method_57 rfl ?_
  obtain ⟨w59, h59, h⟩ := gk_bind h
  refine Gk_callS (As := [.int x4]) (rest := []) (st1 := [.int w59.1]) (k1 := 0) (n1 := 0) B gk_hG d_SD_method_59 (sn_SD_isType h59) tw_380 tw_378 tw_379 tw_40 nm_SD_isType rfl (by decide) ⟨by decide, by decide⟩ ⟨by decide, by decide⟩ rfl rfl rfl rfl ?_
  refine Gk_if_eq (tgt := 81) B d_SD_method_62 rfl (fun c62 => ?_) (fun c62 => ?_)
  · rw [if_pos c62] at h
    exact sn_SD_method_81 B hr h
  rw [if_neg c62] at h
  refine Gk_iload (x := x5) B d_SD_method_65 rfl ?_
  refine Gk_iconst (v := 0) B d_SD_method_67 (by decide) ?_
  refine Gk_sipush (v := 1000) B d_SD_method_68 (by decide) ?_
  obtain ⟨w71, h71, h⟩ := gk_bind h
  refine Gk_callS (As := [.int x5, .int 0, .int 1000]) (rest := []) (st1 := [.int w71.1]) (k1 := 0) (n1 := 0) B gk_hG d_SD_method_71 (sn_SD_isWithin h71) tw_373 tw_377 tw_372 tw_40 nm_SD_isWithin rfl (by decide) ⟨by decide, by decide⟩ ⟨by decide, by decide⟩ rfl rfl rfl rfl ?_
  refine Gk_if_eq (tgt := 81) B d_SD_method_74 rfl (fun c74 => ?_) (fun c74 => ?_)
  · rw [if_pos c74] at h
    exact sn_SD_method_81 B hr h
  rw [if_neg c74] at h
  refine Gk_iconst (v := 1) B d_SD_method_77 (by decide) ?_
  refine Gk_goto (tgt := 82) B d_SD_method_78 rfl ?_
  exact sn_SD_method_82 B hr h
set_option maxHeartbeats 4000000 in
set_option maxRecDepth 100000 in
theorem sn_SD_method_0 {l : Launch} {Γ : gk_G} {p : Program} {e : Env} {s : State} {m : MethodId} {args : Array Value} {below : List Frame} {meth : Method} {c : Code} (B : gk_B p s m args meth c gk_Y Γ c_SD_method 9 "StageDispatcher") (hr : meth.sig.returnType = (some .int)) {ρ : Int32 × gk_M}   {a0 : Option Nat} {x1 : Int32} {x2 : Int32} {x3 : Int32} {x4 : Int32} {x5 : Int32} {M : gk_M} (h : fn_SD_method  a0 x1 x2 x3 x4 x5 M = some ρ) : Gk p l e rm_SD_method s m args below meth c gk_Y Γ 9 (MQ below (gk_Q gk_Y Γ (some (.int ρ.1)) ρ.2) args s rm_SD_method.cells rm_SD_method.slots (fun q => Γ.2.2 ≤ q)) 0 0 M 0 [some (va_rf a0), some (.int x1), some (.int x2), some (.int x3), some (.int x4), some (.int x5), none, none, none] [] := by
  unfold fn_SD_method at h
  refine Gk_aload_n (i := 0) (r := a0) B d_SD_method_0 rfl rfl ?_
  obtain ⟨v1, h1, h⟩ := gk_bind h
  refine Gk_getR (j := 1) B d_SD_method_1 in_SD cl_SD (by decide) tw_279 rfl h1 ?_
  obtain ⟨v4, h4, h⟩ := gk_bind h
  refine Gk_getI (j := 4) B d_SD_method_4 in_Catalog cl_Catalog (by decide) tw_108 rfl h4 ?_
  refine Gk_bipush (v := 12) B d_SD_method_7 (by decide) ?_
  refine Gk_icmp_ge (tgt := 81) B d_SD_method_9 rfl (fun c9 => ?_) (fun c9 => ?_)
  · rw [if_pos c9] at h
    exact sn_SD_method_81 B hr h
  rw [if_neg c9] at h
  refine Gk_aload_n (i := 0) (r := a0) B d_SD_method_12 rfl rfl ?_
  obtain ⟨v13, h13, h⟩ := gk_bind h
  refine Gk_getR (j := 0) B d_SD_method_13 in_SD cl_SD (by decide) tw_278 rfl h13 ?_
  obtain ⟨v16, h16, h⟩ := gk_bind h
  refine Gk_getI (j := 1) B d_SD_method_16 in_Text cl_Text (by decide) tw_78 rfl h16 ?_
  refine Gk_if_eq (tgt := 32) B d_SD_method_19 rfl (fun c19 => ?_) (fun c19 => ?_)
  · rw [if_pos c19] at h
    exact sn_SD_method_32 B hr h
  rw [if_neg c19] at h
  refine Gk_aload_n (i := 0) (r := a0) B d_SD_method_22 rfl rfl ?_
  obtain ⟨v23, h23, h⟩ := gk_bind h
  refine Gk_getR (j := 0) B d_SD_method_23 in_SD cl_SD (by decide) tw_278 rfl h23 ?_
  obtain ⟨w26, h26, h⟩ := gk_bind h
  refine Gk_callS (As := [va_rf v23]) (rest := []) (st1 := [.int w26.1]) (k1 := 0) (n1 := 0) B gk_hG d_SD_method_26 (sn_Template_isGood h26) tw_314 tw_312 tw_313 tw_49 nm_Template_isGood rfl (by decide) ⟨by decide, by decide⟩ ⟨by decide, by decide⟩ rfl rfl rfl rfl ?_
  refine Gk_if_eq (tgt := 81) B d_SD_method_29 rfl (fun c29 => ?_) (fun c29 => ?_)
  · rw [if_pos c29] at h
    exact sn_SD_method_81 B hr h
  rw [if_neg c29] at h
  exact sn_SD_method_32 B hr h
theorem sn_SD_method {l : Launch} {Γ : gk_G} {a0 : Option Nat} {x1 : Int32} {x2 : Int32} {x3 : Int32} {x4 : Int32} {x5 : Int32} {M : gk_M} {ρ : Int32 × gk_M} (h : fn_SD_method a0 x1 x2 x3 x4 x5 M = some ρ) : gk_Met l gk_Y Γ y_SD_method (.code y_SD_method c_SD_method 9 (some .int) :: gk_Y.2.2.2) rm_SD_method [va_rf a0, .int x1, .int x2, .int x3, .int x4, .int x5] M (some (.int ρ.1)) ρ.2 :=
  gk_start (by decide) (by simp [lg_sl, gk_rc, gk_ic, gk_jc]) [some (va_rf a0), some (.int x1), some (.int x2), some (.int x3), some (.int x4), some (.int x5), none, none, none] (by simp [gk_as, lv_args, gk_rc, gk_ic, gk_jc]) (fun p e s m args below meth c B hr hin => sn_SD_method_0 B hr h)
theorem d_Mo_outside_0 : decode c_Mo_outside 0 = .ok (.iload_n 0, 1) := by decide +kernel
theorem d_Mo_outside_1 : decode c_Mo_outside 1 = .ok (.iload_n 1, 1) := by decide +kernel
theorem d_Mo_outside_2 : decode c_Mo_outside 2 = .ok (.if_icmp .lt 8, 3) := by decide +kernel
theorem d_Mo_outside_5 : decode c_Mo_outside 5 = .ok (.iload_n 0, 1) := by decide +kernel
theorem d_Mo_outside_6 : decode c_Mo_outside 6 = .ok (.iload_n 2, 1) := by decide +kernel
theorem d_Mo_outside_7 : decode c_Mo_outside 7 = .ok (.if_icmp .le 7, 3) := by decide +kernel
theorem d_Mo_outside_10 : decode c_Mo_outside 10 = .ok (.iconst 1, 1) := by decide +kernel
theorem d_Mo_outside_11 : decode c_Mo_outside 11 = .ok (.goto 4, 3) := by decide +kernel
theorem d_Mo_outside_14 : decode c_Mo_outside 14 = .ok (.iconst 0, 1) := by decide +kernel
theorem d_Mo_outside_15 : decode c_Mo_outside 15 = .ok (.ireturn, 1) := by decide +kernel
set_option maxHeartbeats 4000000 in
set_option maxRecDepth 100000 in
theorem sn_Mo_outside_10 {l : Launch} {Γ : gk_G} {p : Program} {e : Env} {s : State} {m : MethodId} {args : Array Value} {below : List Frame} {meth : Method} {c : Code} (B : gk_B p s m args meth c gk_Y Γ c_Mo_outside 3 "StageDispatcherModel") (hr : meth.sig.returnType = (some .boolean)) {ρ : Int32 × gk_M}    {M : gk_M} (h : fn_Mo_outside_10   M = some ρ) : Gk p l e rm_Mo_outside s m args below meth c gk_Y Γ 3 (MQ below (gk_Q gk_Y Γ (some (.int ρ.1)) ρ.2) args s rm_Mo_outside.cells rm_Mo_outside.slots (fun q => Γ.2.2 ≤ q)) 0 0 M 10 [none, none, none] [] := by
  unfold fn_Mo_outside_10 at h
  refine Gk_iconst (v := 1) B d_Mo_outside_10 (by decide) ?_
  refine Gk_goto (tgt := 15) B d_Mo_outside_11 rfl ?_
  obtain ⟨z, hz, h⟩ := gk_bind h
  obtain ⟨hz1, hz2⟩ := gk_z_eq hz
  cases h
  subst hz1
  exact Gk_iret B hr d_Mo_outside_15 (gk_nz hz2) (by decide) (by decide) rfl
set_option maxHeartbeats 4000000 in
set_option maxRecDepth 100000 in
theorem sn_Mo_outside_0 {l : Launch} {Γ : gk_G} {p : Program} {e : Env} {s : State} {m : MethodId} {args : Array Value} {below : List Frame} {meth : Method} {c : Code} (B : gk_B p s m args meth c gk_Y Γ c_Mo_outside 3 "StageDispatcherModel") (hr : meth.sig.returnType = (some .boolean)) {ρ : Int32 × gk_M}   {x0 : Int32} {x1 : Int32} {x2 : Int32} {M : gk_M} (h : fn_Mo_outside  x0 x1 x2 M = some ρ) : Gk p l e rm_Mo_outside s m args below meth c gk_Y Γ 3 (MQ below (gk_Q gk_Y Γ (some (.int ρ.1)) ρ.2) args s rm_Mo_outside.cells rm_Mo_outside.slots (fun q => Γ.2.2 ≤ q)) 0 0 M 0 [some (.int x0), some (.int x1), some (.int x2)] [] := by
  unfold fn_Mo_outside at h
  refine Gk_iload_n (i := 0) (x := x0) B d_Mo_outside_0 rfl rfl ?_
  refine Gk_iload_n (i := 1) (x := x1) B d_Mo_outside_1 rfl rfl ?_
  refine Gk_icmp_lt (tgt := 10) B d_Mo_outside_2 rfl (fun c2 => ?_) (fun c2 => ?_)
  · rw [if_pos c2] at h
    refine Gk_weak [false, false, false] (L' := [none, none, none]) rfl ?_
    exact sn_Mo_outside_10 B hr h
  rw [if_neg c2] at h
  refine Gk_iload_n (i := 0) (x := x0) B d_Mo_outside_5 rfl rfl ?_
  refine Gk_iload_n (i := 2) (x := x2) B d_Mo_outside_6 rfl rfl ?_
  refine Gk_icmp_le (tgt := 14) B d_Mo_outside_7 rfl (fun c7 => ?_) (fun c7 => ?_)
  · rw [if_pos c7] at h
    refine Gk_iconst (v := 0) B d_Mo_outside_14 (by decide) ?_
    obtain ⟨z, hz, h⟩ := gk_bind h
    obtain ⟨hz1, hz2⟩ := gk_z_eq hz
    cases h
    subst hz1
    exact Gk_iret B hr d_Mo_outside_15 (gk_nz hz2) (by decide) (by decide) rfl
  rw [if_neg c7] at h
  refine Gk_weak [false, false, false] (L' := [none, none, none]) rfl ?_
  exact sn_Mo_outside_10 B hr h
theorem sn_Mo_outside {l : Launch} {Γ : gk_G} {x0 : Int32} {x1 : Int32} {x2 : Int32} {M : gk_M} {ρ : Int32 × gk_M} (h : fn_Mo_outside x0 x1 x2 M = some ρ) : gk_Met l gk_Y Γ y_Mo_outside (.code y_Mo_outside c_Mo_outside 3 (some .boolean) :: gk_Y.2.2.2) rm_Mo_outside [.int x0, .int x1, .int x2] M (some (.int ρ.1)) ρ.2 :=
  gk_start (by decide) (by simp [lg_sl, gk_rc, gk_ic, gk_jc]) [some (.int x0), some (.int x1), some (.int x2)] (by simp [gk_as, lv_args, gk_rc, gk_ic, gk_jc]) (fun p e s m args below meth c B hr hin => sn_Mo_outside_0 B hr h)
theorem d_Mo_isType_0 : decode c_Mo_isType 0 = .ok (.iload_n 0, 1) := by decide +kernel
theorem d_Mo_isType_1 : decode c_Mo_isType 1 = .ok (.ifCond .eq 23, 3) := by decide +kernel
theorem d_Mo_isType_4 : decode c_Mo_isType 4 = .ok (.iload_n 0, 1) := by decide +kernel
theorem d_Mo_isType_5 : decode c_Mo_isType 5 = .ok (.bipush 16, 2) := by decide +kernel
theorem d_Mo_isType_7 : decode c_Mo_isType 7 = .ok (.if_icmp .lt 21, 3) := by decide +kernel
theorem d_Mo_isType_10 : decode c_Mo_isType 10 = .ok (.iload_n 0, 1) := by decide +kernel
theorem d_Mo_isType_11 : decode c_Mo_isType 11 = .ok (.bipush 64, 2) := by decide +kernel
theorem d_Mo_isType_13 : decode c_Mo_isType 13 = .ok (.if_icmp .ge 15, 3) := by decide +kernel
theorem d_Mo_isType_16 : decode c_Mo_isType 16 = .ok (.iload_n 0, 1) := by decide +kernel
theorem d_Mo_isType_17 : decode c_Mo_isType 17 = .ok (.bipush 16, 2) := by decide +kernel
theorem d_Mo_isType_19 : decode c_Mo_isType 19 = .ok (.irem, 1) := by decide +kernel
theorem d_Mo_isType_20 : decode c_Mo_isType 20 = .ok (.iconst 3, 1) := by decide +kernel
theorem d_Mo_isType_21 : decode c_Mo_isType 21 = .ok (.if_icmp .gt 7, 3) := by decide +kernel
theorem d_Mo_isType_24 : decode c_Mo_isType 24 = .ok (.iconst 1, 1) := by decide +kernel
theorem d_Mo_isType_25 : decode c_Mo_isType 25 = .ok (.goto 4, 3) := by decide +kernel
theorem d_Mo_isType_28 : decode c_Mo_isType 28 = .ok (.iconst 0, 1) := by decide +kernel
theorem d_Mo_isType_29 : decode c_Mo_isType 29 = .ok (.ireturn, 1) := by decide +kernel
set_option maxHeartbeats 4000000 in
set_option maxRecDepth 100000 in
theorem sn_Mo_isType_24 {l : Launch} {Γ : gk_G} {p : Program} {e : Env} {s : State} {m : MethodId} {args : Array Value} {below : List Frame} {meth : Method} {c : Code} (B : gk_B p s m args meth c gk_Y Γ c_Mo_isType 1 "StageDispatcherModel") (hr : meth.sig.returnType = (some .boolean)) {ρ : Int32 × gk_M}    {M : gk_M} (h : fn_Mo_isType_24   M = some ρ) : Gk p l e rm_Mo_isType s m args below meth c gk_Y Γ 1 (MQ below (gk_Q gk_Y Γ (some (.int ρ.1)) ρ.2) args s rm_Mo_isType.cells rm_Mo_isType.slots (fun q => Γ.2.2 ≤ q)) 0 0 M 24 [none] [] := by
  unfold fn_Mo_isType_24 at h
  refine Gk_iconst (v := 1) B d_Mo_isType_24 (by decide) ?_
  refine Gk_goto (tgt := 29) B d_Mo_isType_25 rfl ?_
  obtain ⟨z, hz, h⟩ := gk_bind h
  obtain ⟨hz1, hz2⟩ := gk_z_eq hz
  cases h
  subst hz1
  exact Gk_iret B hr d_Mo_isType_29 (gk_nz hz2) (by decide) (by decide) rfl
set_option maxHeartbeats 4000000 in
set_option maxRecDepth 100000 in
theorem sn_Mo_isType_28 {l : Launch} {Γ : gk_G} {p : Program} {e : Env} {s : State} {m : MethodId} {args : Array Value} {below : List Frame} {meth : Method} {c : Code} (B : gk_B p s m args meth c gk_Y Γ c_Mo_isType 1 "StageDispatcherModel") (hr : meth.sig.returnType = (some .boolean)) {ρ : Int32 × gk_M}    {M : gk_M} (h : fn_Mo_isType_28   M = some ρ) : Gk p l e rm_Mo_isType s m args below meth c gk_Y Γ 1 (MQ below (gk_Q gk_Y Γ (some (.int ρ.1)) ρ.2) args s rm_Mo_isType.cells rm_Mo_isType.slots (fun q => Γ.2.2 ≤ q)) 0 0 M 28 [none] [] := by
  unfold fn_Mo_isType_28 at h
  refine Gk_iconst (v := 0) B d_Mo_isType_28 (by decide) ?_
  obtain ⟨z, hz, h⟩ := gk_bind h
  obtain ⟨hz1, hz2⟩ := gk_z_eq hz
  cases h
  subst hz1
  exact Gk_iret B hr d_Mo_isType_29 (gk_nz hz2) (by decide) (by decide) rfl
set_option maxHeartbeats 4000000 in
set_option maxRecDepth 100000 in
theorem sn_Mo_isType_0 {l : Launch} {Γ : gk_G} {p : Program} {e : Env} {s : State} {m : MethodId} {args : Array Value} {below : List Frame} {meth : Method} {c : Code} (B : gk_B p s m args meth c gk_Y Γ c_Mo_isType 1 "StageDispatcherModel") (hr : meth.sig.returnType = (some .boolean)) {ρ : Int32 × gk_M}   {x0 : Int32} {M : gk_M} (h : fn_Mo_isType  x0 M = some ρ) : Gk p l e rm_Mo_isType s m args below meth c gk_Y Γ 1 (MQ below (gk_Q gk_Y Γ (some (.int ρ.1)) ρ.2) args s rm_Mo_isType.cells rm_Mo_isType.slots (fun q => Γ.2.2 ≤ q)) 0 0 M 0 [some (.int x0)] [] := by
  unfold fn_Mo_isType at h
  refine Gk_iload_n (i := 0) (x := x0) B d_Mo_isType_0 rfl rfl ?_
  refine Gk_if_eq (tgt := 24) B d_Mo_isType_1 rfl (fun c1 => ?_) (fun c1 => ?_)
  · rw [if_pos c1] at h
    refine Gk_weak [false] (L' := [none]) rfl ?_
    exact sn_Mo_isType_24 B hr h
  rw [if_neg c1] at h
  refine Gk_iload_n (i := 0) (x := x0) B d_Mo_isType_4 rfl rfl ?_
  refine Gk_bipush (v := 16) B d_Mo_isType_5 (by decide) ?_
  refine Gk_icmp_lt (tgt := 28) B d_Mo_isType_7 rfl (fun c7 => ?_) (fun c7 => ?_)
  · rw [if_pos c7] at h
    refine Gk_weak [false] (L' := [none]) rfl ?_
    exact sn_Mo_isType_28 B hr h
  rw [if_neg c7] at h
  refine Gk_iload_n (i := 0) (x := x0) B d_Mo_isType_10 rfl rfl ?_
  refine Gk_bipush (v := 64) B d_Mo_isType_11 (by decide) ?_
  refine Gk_icmp_ge (tgt := 28) B d_Mo_isType_13 rfl (fun c13 => ?_) (fun c13 => ?_)
  · rw [if_pos c13] at h
    refine Gk_weak [false] (L' := [none]) rfl ?_
    exact sn_Mo_isType_28 B hr h
  rw [if_neg c13] at h
  refine Gk_iload_n (i := 0) (x := x0) B d_Mo_isType_16 rfl rfl ?_
  refine Gk_bipush (v := 16) B d_Mo_isType_17 (by decide) ?_
  refine Gk_irem B d_Mo_isType_19 (by decide) ?_
  refine Gk_iconst (v := 3) B d_Mo_isType_20 (by decide) ?_
  refine Gk_icmp_gt (tgt := 28) B d_Mo_isType_21 rfl (fun c21 => ?_) (fun c21 => ?_)
  · rw [if_pos c21] at h
    refine Gk_weak [false] (L' := [none]) rfl ?_
    exact sn_Mo_isType_28 B hr h
  rw [if_neg c21] at h
  refine Gk_weak [false] (L' := [none]) rfl ?_
  exact sn_Mo_isType_24 B hr h
theorem sn_Mo_isType {l : Launch} {Γ : gk_G} {x0 : Int32} {M : gk_M} {ρ : Int32 × gk_M} (h : fn_Mo_isType x0 M = some ρ) : gk_Met l gk_Y Γ y_Mo_isType (.code y_Mo_isType c_Mo_isType 1 (some .boolean) :: gk_Y.2.2.2) rm_Mo_isType [.int x0] M (some (.int ρ.1)) ρ.2 :=
  gk_start (by decide) (by simp [lg_sl, gk_rc, gk_ic, gk_jc]) [some (.int x0)] (by simp [gk_as, lv_args, gk_rc, gk_ic, gk_jc]) (fun p e s m args below meth c B hr hin => sn_Mo_isType_0 B hr h)
theorem d_Mo_method_0 : decode c_Mo_method 0 = .ok (.aload_n 0, 1) := by decide +kernel
theorem d_Mo_method_1 : decode c_Mo_method 1 = .ok (.getfield 118, 3) := by decide +kernel
theorem d_Mo_method_4 : decode c_Mo_method 4 = .ok (.ifCond .eq 10, 3) := by decide +kernel
theorem d_Mo_method_7 : decode c_Mo_method 7 = .ok (.aload_n 0, 1) := by decide +kernel
theorem d_Mo_method_8 : decode c_Mo_method 8 = .ok (.invokevirtual 159, 3) := by decide +kernel
theorem d_Mo_method_11 : decode c_Mo_method 11 = .ok (.ifCond .eq 66, 3) := by decide +kernel
theorem d_Mo_method_14 : decode c_Mo_method 14 = .ok (.iload_n 1, 1) := by decide +kernel
theorem d_Mo_method_15 : decode c_Mo_method 15 = .ok (.iconst 0, 1) := by decide +kernel
theorem d_Mo_method_16 : decode c_Mo_method 16 = .ok (.aload_n 0, 1) := by decide +kernel
theorem d_Mo_method_17 : decode c_Mo_method 17 = .ok (.getfield 156, 3) := by decide +kernel
theorem d_Mo_method_20 : decode c_Mo_method 20 = .ok (.iconst 1, 1) := by decide +kernel
theorem d_Mo_method_21 : decode c_Mo_method 21 = .ok (.isub, 1) := by decide +kernel
theorem d_Mo_method_22 : decode c_Mo_method 22 = .ok (.invokestatic 167, 3) := by decide +kernel
theorem d_Mo_method_25 : decode c_Mo_method 25 = .ok (.ifCond .ne 52, 3) := by decide +kernel
theorem d_Mo_method_28 : decode c_Mo_method 28 = .ok (.iload_n 2, 1) := by decide +kernel
theorem d_Mo_method_29 : decode c_Mo_method 29 = .ok (.iconst 0, 1) := by decide +kernel
theorem d_Mo_method_30 : decode c_Mo_method 30 = .ok (.iconst 5, 1) := by decide +kernel
theorem d_Mo_method_31 : decode c_Mo_method 31 = .ok (.invokestatic 167, 3) := by decide +kernel
theorem d_Mo_method_34 : decode c_Mo_method 34 = .ok (.ifCond .ne 43, 3) := by decide +kernel
theorem d_Mo_method_37 : decode c_Mo_method 37 = .ok (.iload_n 3, 1) := by decide +kernel
theorem d_Mo_method_38 : decode c_Mo_method 38 = .ok (.invokestatic 171, 3) := by decide +kernel
theorem d_Mo_method_41 : decode c_Mo_method 41 = .ok (.ifCond .eq 36, 3) := by decide +kernel
theorem d_Mo_method_44 : decode c_Mo_method 44 = .ok (.iload 4, 2) := by decide +kernel
theorem d_Mo_method_46 : decode c_Mo_method 46 = .ok (.invokestatic 171, 3) := by decide +kernel
theorem d_Mo_method_49 : decode c_Mo_method 49 = .ok (.ifCond .eq 28, 3) := by decide +kernel
theorem d_Mo_method_52 : decode c_Mo_method 52 = .ok (.iload 5, 2) := by decide +kernel
theorem d_Mo_method_54 : decode c_Mo_method 54 = .ok (.iconst 0, 1) := by decide +kernel
theorem d_Mo_method_55 : decode c_Mo_method 55 = .ok (.sipush 1000, 3) := by decide +kernel
theorem d_Mo_method_58 : decode c_Mo_method 58 = .ok (.invokestatic 167, 3) := by decide +kernel
theorem d_Mo_method_61 : decode c_Mo_method 61 = .ok (.ifCond .ne 16, 3) := by decide +kernel
theorem d_Mo_method_64 : decode c_Mo_method 64 = .ok (.aload_n 0, 1) := by decide +kernel
theorem d_Mo_method_65 : decode c_Mo_method 65 = .ok (.getfield 175, 3) := by decide +kernel
theorem d_Mo_method_68 : decode c_Mo_method 68 = .ok (.bipush 12, 2) := by decide +kernel
theorem d_Mo_method_70 : decode c_Mo_method 70 = .ok (.if_icmp .ge 7, 3) := by decide +kernel
theorem d_Mo_method_73 : decode c_Mo_method 73 = .ok (.iconst 1, 1) := by decide +kernel
theorem d_Mo_method_74 : decode c_Mo_method 74 = .ok (.goto 4, 3) := by decide +kernel
theorem d_Mo_method_77 : decode c_Mo_method 77 = .ok (.iconst 0, 1) := by decide +kernel
theorem d_Mo_method_78 : decode c_Mo_method 78 = .ok (.istore 6, 2) := by decide +kernel
theorem d_Mo_method_80 : decode c_Mo_method 80 = .ok (.iload 6, 2) := by decide +kernel
theorem d_Mo_method_82 : decode c_Mo_method 82 = .ok (.ifCond .eq 87, 3) := by decide +kernel
theorem d_Mo_method_85 : decode c_Mo_method 85 = .ok (.aload_n 0, 1) := by decide +kernel
theorem d_Mo_method_86 : decode c_Mo_method 86 = .ok (.bipush 6, 2) := by decide +kernel
theorem d_Mo_method_88 : decode c_Mo_method 88 = .ok (.aload_n 0, 1) := by decide +kernel
theorem d_Mo_method_89 : decode c_Mo_method 89 = .ok (.getfield 175, 3) := by decide +kernel
theorem d_Mo_method_92 : decode c_Mo_method 92 = .ok (.iadd, 1) := by decide +kernel
theorem d_Mo_method_93 : decode c_Mo_method 93 = .ok (.iconst 1, 1) := by decide +kernel
theorem d_Mo_method_94 : decode c_Mo_method 94 = .ok (.invokevirtual 163, 3) := by decide +kernel
theorem d_Mo_method_97 : decode c_Mo_method 97 = .ok (.aload_n 0, 1) := by decide +kernel
theorem d_Mo_method_98 : decode c_Mo_method 98 = .ok (.getfield 20, 3) := by decide +kernel
theorem d_Mo_method_101 : decode c_Mo_method 101 = .ok (.aload_n 0, 1) := by decide +kernel
theorem d_Mo_method_102 : decode c_Mo_method 102 = .ok (.getfield 175, 3) := by decide +kernel
theorem d_Mo_method_105 : decode c_Mo_method 105 = .ok (.iload_n 1, 1) := by decide +kernel
theorem d_Mo_method_106 : decode c_Mo_method 106 = .ok (.iastore, 1) := by decide +kernel
theorem d_Mo_method_107 : decode c_Mo_method 107 = .ok (.aload_n 0, 1) := by decide +kernel
theorem d_Mo_method_108 : decode c_Mo_method 108 = .ok (.getfield 23, 3) := by decide +kernel
theorem d_Mo_method_111 : decode c_Mo_method 111 = .ok (.aload_n 0, 1) := by decide +kernel
theorem d_Mo_method_112 : decode c_Mo_method 112 = .ok (.getfield 175, 3) := by decide +kernel
theorem d_Mo_method_115 : decode c_Mo_method 115 = .ok (.iload_n 2, 1) := by decide +kernel
theorem d_Mo_method_116 : decode c_Mo_method 116 = .ok (.iastore, 1) := by decide +kernel
theorem d_Mo_method_117 : decode c_Mo_method 117 = .ok (.aload_n 0, 1) := by decide +kernel
theorem d_Mo_method_118 : decode c_Mo_method 118 = .ok (.getfield 26, 3) := by decide +kernel
theorem d_Mo_method_121 : decode c_Mo_method 121 = .ok (.aload_n 0, 1) := by decide +kernel
theorem d_Mo_method_122 : decode c_Mo_method 122 = .ok (.getfield 175, 3) := by decide +kernel
theorem d_Mo_method_125 : decode c_Mo_method 125 = .ok (.iload_n 3, 1) := by decide +kernel
theorem d_Mo_method_126 : decode c_Mo_method 126 = .ok (.iastore, 1) := by decide +kernel
theorem d_Mo_method_127 : decode c_Mo_method 127 = .ok (.aload_n 0, 1) := by decide +kernel
theorem d_Mo_method_128 : decode c_Mo_method 128 = .ok (.getfield 29, 3) := by decide +kernel
theorem d_Mo_method_131 : decode c_Mo_method 131 = .ok (.aload_n 0, 1) := by decide +kernel
theorem d_Mo_method_132 : decode c_Mo_method 132 = .ok (.getfield 175, 3) := by decide +kernel
theorem d_Mo_method_135 : decode c_Mo_method 135 = .ok (.iload 4, 2) := by decide +kernel
theorem d_Mo_method_137 : decode c_Mo_method 137 = .ok (.iastore, 1) := by decide +kernel
theorem d_Mo_method_138 : decode c_Mo_method 138 = .ok (.aload_n 0, 1) := by decide +kernel
theorem d_Mo_method_139 : decode c_Mo_method 139 = .ok (.getfield 32, 3) := by decide +kernel
theorem d_Mo_method_142 : decode c_Mo_method 142 = .ok (.aload_n 0, 1) := by decide +kernel
theorem d_Mo_method_143 : decode c_Mo_method 143 = .ok (.getfield 175, 3) := by decide +kernel
theorem d_Mo_method_146 : decode c_Mo_method 146 = .ok (.iload 5, 2) := by decide +kernel
theorem d_Mo_method_148 : decode c_Mo_method 148 = .ok (.iastore, 1) := by decide +kernel
theorem d_Mo_method_149 : decode c_Mo_method 149 = .ok (.aload_n 0, 1) := by decide +kernel
theorem d_Mo_method_150 : decode c_Mo_method 150 = .ok (.getfield 35, 3) := by decide +kernel
theorem d_Mo_method_153 : decode c_Mo_method 153 = .ok (.aload_n 0, 1) := by decide +kernel
theorem d_Mo_method_154 : decode c_Mo_method 154 = .ok (.getfield 175, 3) := by decide +kernel
theorem d_Mo_method_157 : decode c_Mo_method 157 = .ok (.iconst (-1), 1) := by decide +kernel
theorem d_Mo_method_158 : decode c_Mo_method 158 = .ok (.iastore, 1) := by decide +kernel
theorem d_Mo_method_159 : decode c_Mo_method 159 = .ok (.aload_n 0, 1) := by decide +kernel
theorem d_Mo_method_160 : decode c_Mo_method 160 = .ok (.dup, 1) := by decide +kernel
theorem d_Mo_method_161 : decode c_Mo_method 161 = .ok (.getfield 175, 3) := by decide +kernel
theorem d_Mo_method_164 : decode c_Mo_method 164 = .ok (.iconst 1, 1) := by decide +kernel
theorem d_Mo_method_165 : decode c_Mo_method 165 = .ok (.iadd, 1) := by decide +kernel
theorem d_Mo_method_166 : decode c_Mo_method 166 = .ok (.putfield 175, 3) := by decide +kernel
theorem d_Mo_method_169 : decode c_Mo_method 169 = .ok (.aload_n 0, 1) := by decide +kernel
theorem d_Mo_method_170 : decode c_Mo_method 170 = .ok (.iconst 0, 1) := by decide +kernel
theorem d_Mo_method_171 : decode c_Mo_method 171 = .ok (.putfield 118, 3) := by decide +kernel
theorem d_Mo_method_174 : decode c_Mo_method 174 = .ok (.iload 6, 2) := by decide +kernel
theorem d_Mo_method_176 : decode c_Mo_method 176 = .ok (.ifCond .eq 12, 3) := by decide +kernel
theorem d_Mo_method_179 : decode c_Mo_method 179 = .ok (.aload_n 0, 1) := by decide +kernel
theorem d_Mo_method_180 : decode c_Mo_method 180 = .ok (.getfield 175, 3) := by decide +kernel
theorem d_Mo_method_183 : decode c_Mo_method 183 = .ok (.iconst 1, 1) := by decide +kernel
theorem d_Mo_method_184 : decode c_Mo_method 184 = .ok (.isub, 1) := by decide +kernel
theorem d_Mo_method_185 : decode c_Mo_method 185 = .ok (.goto 4, 3) := by decide +kernel
theorem d_Mo_method_188 : decode c_Mo_method 188 = .ok (.iconst (-1), 1) := by decide +kernel
theorem d_Mo_method_189 : decode c_Mo_method 189 = .ok (.ireturn, 1) := by decide +kernel
set_option maxHeartbeats 4000000 in
set_option maxRecDepth 100000 in
theorem sn_Mo_method_169 {l : Launch} {Γ : gk_G} {p : Program} {e : Env} {s : State} {m : MethodId} {args : Array Value} {below : List Frame} {meth : Method} {c : Code} (B : gk_B p s m args meth c gk_Y Γ c_Mo_method 7 "StageDispatcherModel") (hr : meth.sig.returnType = (some .int)) {ρ : Int32 × gk_M}   {a0 : Option Nat} {x6 : Int32} {M : gk_M} (h : fn_Mo_method_169  a0 x6 M = some ρ) : Gk p l e rm_Mo_method s m args below meth c gk_Y Γ 7 (MQ below (gk_Q gk_Y Γ (some (.int ρ.1)) ρ.2) args s rm_Mo_method.cells rm_Mo_method.slots (fun q => Γ.2.2 ≤ q)) 0 0 M 169 [some (va_rf a0), none, none, none, none, none, some (.int x6)] [] := by
  unfold fn_Mo_method_169 at h
  refine Gk_aload_n (i := 0) (r := a0) B d_Mo_method_169 rfl rfl ?_
  refine Gk_iconst (v := 0) B d_Mo_method_170 (by decide) ?_
  obtain ⟨M171, h171, h⟩ := gk_bind h
  refine Gk_put (j := 1) (ty := .int) B d_Mo_method_171 in_Mo t_Mo t_Mo_ok n_Mo cl_Mo (by decide) tw_756 rfl rfl rfl rfl rfl h171 ?_
  refine Gk_iload (x := x6) B d_Mo_method_174 rfl ?_
  refine Gk_if_eq (tgt := 188) B d_Mo_method_176 rfl (fun c176 => ?_) (fun c176 => ?_)
  · rw [if_pos c176] at h
    refine Gk_iconst (v := (-1)) B d_Mo_method_188 (by decide) ?_
    cases h
    exact Gk_iret B hr d_Mo_method_189 rfl (by decide) (by decide) rfl
  rw [if_neg c176] at h
  refine Gk_aload_n (i := 0) (r := a0) B d_Mo_method_179 rfl rfl ?_
  obtain ⟨v180, h180, h⟩ := gk_bind h
  refine Gk_getI (j := 5) B d_Mo_method_180 in_Mo cl_Mo (by decide) tw_760 rfl h180 ?_
  refine Gk_iconst (v := 1) B d_Mo_method_183 (by decide) ?_
  refine Gk_isub B d_Mo_method_184 ?_
  refine Gk_goto (tgt := 189) B d_Mo_method_185 rfl ?_
  cases h
  exact Gk_iret B hr d_Mo_method_189 rfl (by decide) (by decide) rfl
set_option maxHeartbeats 4000000 in
set_option maxRecDepth 100000 in
theorem sn_Mo_method_78 {l : Launch} {Γ : gk_G} {p : Program} {e : Env} {s : State} {m : MethodId} {args : Array Value} {below : List Frame} {meth : Method} {c : Code} (B : gk_B p s m args meth c gk_Y Γ c_Mo_method 7 "StageDispatcherModel") (hr : meth.sig.returnType = (some .int)) {ρ : Int32 × gk_M}   {a0 : Option Nat} {x1 : Int32} {x2 : Int32} {x3 : Int32} {x4 : Int32} {x5 : Int32} {s0 : Int32} {M : gk_M} (h : fn_Mo_method_78  a0 x1 x2 x3 x4 x5 s0 M = some ρ) : Gk p l e rm_Mo_method s m args below meth c gk_Y Γ 7 (MQ below (gk_Q gk_Y Γ (some (.int ρ.1)) ρ.2) args s rm_Mo_method.cells rm_Mo_method.slots (fun q => Γ.2.2 ≤ q)) 0 0 M 78 [some (va_rf a0), some (.int x1), some (.int x2), some (.int x3), some (.int x4), some (.int x5), none] [.int s0] := by
  unfold fn_Mo_method_78 at h
  refine Gk_istore (L' := [some (va_rf a0), some (.int x1), some (.int x2), some (.int x3), some (.int x4), some (.int x5), some (.int s0)]) B d_Mo_method_78 (by decide) (gk_c1_i rfl) rfl ?_
  refine Gk_iload (x := s0) B d_Mo_method_80 rfl ?_
  refine Gk_if_eq (tgt := 169) B d_Mo_method_82 rfl (fun c82 => ?_) (fun c82 => ?_)
  · rw [if_pos c82] at h
    refine Gk_weak [true, false, false, false, false, false, true] (L' := [some (va_rf a0), none, none, none, none, none, some (.int s0)]) rfl ?_
    exact sn_Mo_method_169 B hr h
  rw [if_neg c82] at h
  refine Gk_aload_n (i := 0) (r := a0) B d_Mo_method_85 rfl rfl ?_
  refine Gk_bipush (v := 6) B d_Mo_method_86 (by decide) ?_
  refine Gk_aload_n (i := 0) (r := a0) B d_Mo_method_88 rfl rfl ?_
  obtain ⟨v89, h89, h⟩ := gk_bind h
  refine Gk_getI (j := 5) B d_Mo_method_89 in_Mo cl_Mo (by decide) tw_760 rfl h89 ?_
  refine Gk_iadd B d_Mo_method_92 ?_
  refine Gk_iconst (v := 1) B d_Mo_method_93 (by decide) ?_
  obtain ⟨o94, g94, h⟩ := gk_bind h
  obtain ⟨w94, h94, h⟩ := gk_bind h
  refine Gk_callV (As := [.int ((6 : Int32) + v89), .int 1]) (rest := []) (st1 := []) (k1 := 0) (n1 := 0) B gk_hG d_Mo_method_94 (sn_Mo_keep h94) g94 cl_Mo tw_947 tw_944 tw_946 tw_15 tw_48 nm_Mo_keep rfl (by decide) ⟨by decide, by decide⟩ ⟨by decide, by decide⟩ rfl rfl rfl rfl ?_
  refine Gk_aload_n (i := 0) (r := a0) B d_Mo_method_97 rfl rfl ?_
  obtain ⟨v98, h98, h⟩ := gk_bind h
  refine Gk_getR (j := 6) B d_Mo_method_98 in_Mo cl_Mo (by decide) tw_761 rfl h98 ?_
  refine Gk_aload_n (i := 0) (r := a0) B d_Mo_method_101 rfl rfl ?_
  obtain ⟨v102, h102, h⟩ := gk_bind h
  refine Gk_getI (j := 5) B d_Mo_method_102 in_Mo cl_Mo (by decide) tw_760 rfl h102 ?_
  refine Gk_iload_n (i := 1) (x := x1) B d_Mo_method_105 rfl rfl ?_
  obtain ⟨M106, h106, h⟩ := gk_bind h
  refine Gk_iastore B d_Mo_method_106 ty_0 h106 ?_
  refine Gk_aload_n (i := 0) (r := a0) B d_Mo_method_107 rfl rfl ?_
  obtain ⟨v108, h108, h⟩ := gk_bind h
  refine Gk_getR (j := 7) B d_Mo_method_108 in_Mo cl_Mo (by decide) tw_762 rfl h108 ?_
  refine Gk_aload_n (i := 0) (r := a0) B d_Mo_method_111 rfl rfl ?_
  obtain ⟨v112, h112, h⟩ := gk_bind h
  refine Gk_getI (j := 5) B d_Mo_method_112 in_Mo cl_Mo (by decide) tw_760 rfl h112 ?_
  refine Gk_iload_n (i := 2) (x := x2) B d_Mo_method_115 rfl rfl ?_
  obtain ⟨M116, h116, h⟩ := gk_bind h
  refine Gk_iastore B d_Mo_method_116 ty_0 h116 ?_
  refine Gk_aload_n (i := 0) (r := a0) B d_Mo_method_117 rfl rfl ?_
  obtain ⟨v118, h118, h⟩ := gk_bind h
  refine Gk_getR (j := 8) B d_Mo_method_118 in_Mo cl_Mo (by decide) tw_763 rfl h118 ?_
  refine Gk_aload_n (i := 0) (r := a0) B d_Mo_method_121 rfl rfl ?_
  obtain ⟨v122, h122, h⟩ := gk_bind h
  refine Gk_getI (j := 5) B d_Mo_method_122 in_Mo cl_Mo (by decide) tw_760 rfl h122 ?_
  refine Gk_iload_n (i := 3) (x := x3) B d_Mo_method_125 rfl rfl ?_
  obtain ⟨M126, h126, h⟩ := gk_bind h
  refine Gk_iastore B d_Mo_method_126 ty_0 h126 ?_
  refine Gk_aload_n (i := 0) (r := a0) B d_Mo_method_127 rfl rfl ?_
  obtain ⟨v128, h128, h⟩ := gk_bind h
  refine Gk_getR (j := 9) B d_Mo_method_128 in_Mo cl_Mo (by decide) tw_764 rfl h128 ?_
  refine Gk_aload_n (i := 0) (r := a0) B d_Mo_method_131 rfl rfl ?_
  obtain ⟨v132, h132, h⟩ := gk_bind h
  refine Gk_getI (j := 5) B d_Mo_method_132 in_Mo cl_Mo (by decide) tw_760 rfl h132 ?_
  refine Gk_iload (x := x4) B d_Mo_method_135 rfl ?_
  obtain ⟨M137, h137, h⟩ := gk_bind h
  refine Gk_iastore B d_Mo_method_137 ty_0 h137 ?_
  refine Gk_aload_n (i := 0) (r := a0) B d_Mo_method_138 rfl rfl ?_
  obtain ⟨v139, h139, h⟩ := gk_bind h
  refine Gk_getR (j := 10) B d_Mo_method_139 in_Mo cl_Mo (by decide) tw_765 rfl h139 ?_
  refine Gk_aload_n (i := 0) (r := a0) B d_Mo_method_142 rfl rfl ?_
  obtain ⟨v143, h143, h⟩ := gk_bind h
  refine Gk_getI (j := 5) B d_Mo_method_143 in_Mo cl_Mo (by decide) tw_760 rfl h143 ?_
  refine Gk_iload (x := x5) B d_Mo_method_146 rfl ?_
  obtain ⟨M148, h148, h⟩ := gk_bind h
  refine Gk_iastore B d_Mo_method_148 ty_0 h148 ?_
  refine Gk_aload_n (i := 0) (r := a0) B d_Mo_method_149 rfl rfl ?_
  obtain ⟨v150, h150, h⟩ := gk_bind h
  refine Gk_getR (j := 11) B d_Mo_method_150 in_Mo cl_Mo (by decide) tw_766 rfl h150 ?_
  refine Gk_aload_n (i := 0) (r := a0) B d_Mo_method_153 rfl rfl ?_
  obtain ⟨v154, h154, h⟩ := gk_bind h
  refine Gk_getI (j := 5) B d_Mo_method_154 in_Mo cl_Mo (by decide) tw_760 rfl h154 ?_
  refine Gk_iconst (v := (-1)) B d_Mo_method_157 (by decide) ?_
  obtain ⟨M158, h158, h⟩ := gk_bind h
  refine Gk_iastore B d_Mo_method_158 ty_0 h158 ?_
  refine Gk_aload_n (i := 0) (r := a0) B d_Mo_method_159 rfl rfl ?_
  refine Gk_dup B d_Mo_method_160 (gk_rc _) ?_
  obtain ⟨v161, h161, h⟩ := gk_bind h
  refine Gk_getI (j := 5) B d_Mo_method_161 in_Mo cl_Mo (by decide) tw_760 rfl h161 ?_
  refine Gk_iconst (v := 1) B d_Mo_method_164 (by decide) ?_
  refine Gk_iadd B d_Mo_method_165 ?_
  obtain ⟨M166, h166, h⟩ := gk_bind h
  refine Gk_put (j := 5) (ty := .int) B d_Mo_method_166 in_Mo t_Mo t_Mo_ok n_Mo cl_Mo (by decide) tw_760 rfl rfl rfl rfl rfl h166 ?_
  refine Gk_weak [true, false, false, false, false, false, true] (L' := [some (va_rf a0), none, none, none, none, none, some (.int s0)]) rfl ?_
  exact sn_Mo_method_169 B hr h
set_option maxHeartbeats 4000000 in
set_option maxRecDepth 100000 in
theorem sn_Mo_method_77 {l : Launch} {Γ : gk_G} {p : Program} {e : Env} {s : State} {m : MethodId} {args : Array Value} {below : List Frame} {meth : Method} {c : Code} (B : gk_B p s m args meth c gk_Y Γ c_Mo_method 7 "StageDispatcherModel") (hr : meth.sig.returnType = (some .int)) {ρ : Int32 × gk_M}   {a0 : Option Nat} {x1 : Int32} {x2 : Int32} {x3 : Int32} {x4 : Int32} {x5 : Int32} {M : gk_M} (h : fn_Mo_method_77  a0 x1 x2 x3 x4 x5 M = some ρ) : Gk p l e rm_Mo_method s m args below meth c gk_Y Γ 7 (MQ below (gk_Q gk_Y Γ (some (.int ρ.1)) ρ.2) args s rm_Mo_method.cells rm_Mo_method.slots (fun q => Γ.2.2 ≤ q)) 0 0 M 77 [some (va_rf a0), some (.int x1), some (.int x2), some (.int x3), some (.int x4), some (.int x5), none] [] := by
  unfold fn_Mo_method_77 at h
  refine Gk_iconst (v := 0) B d_Mo_method_77 (by decide) ?_
  exact sn_Mo_method_78 B hr h
set_option maxHeartbeats 4000000 in
set_option maxRecDepth 100000 in
theorem sn_Mo_method_14 {l : Launch} {Γ : gk_G} {p : Program} {e : Env} {s : State} {m : MethodId} {args : Array Value} {below : List Frame} {meth : Method} {c : Code} (B : gk_B p s m args meth c gk_Y Γ c_Mo_method 7 "StageDispatcherModel") (hr : meth.sig.returnType = (some .int)) {ρ : Int32 × gk_M}   {a0 : Option Nat} {x1 : Int32} {x2 : Int32} {x3 : Int32} {x4 : Int32} {x5 : Int32} {M : gk_M} (h : fn_Mo_method_14  a0 x1 x2 x3 x4 x5 M = some ρ) : Gk p l e rm_Mo_method s m args below meth c gk_Y Γ 7 (MQ below (gk_Q gk_Y Γ (some (.int ρ.1)) ρ.2) args s rm_Mo_method.cells rm_Mo_method.slots (fun q => Γ.2.2 ≤ q)) 0 0 M 14 [some (va_rf a0), some (.int x1), some (.int x2), some (.int x3), some (.int x4), some (.int x5), none] [] := by
  unfold fn_Mo_method_14 at h
  refine Gk_iload_n (i := 1) (x := x1) B d_Mo_method_14 rfl rfl ?_
  refine Gk_iconst (v := 0) B d_Mo_method_15 (by decide) ?_
  refine Gk_aload_n (i := 0) (r := a0) B d_Mo_method_16 rfl rfl ?_
  obtain ⟨v17, h17, h⟩ := gk_bind h
  refine Gk_getI (j := 4) B d_Mo_method_17 in_Mo cl_Mo (by decide) tw_759 rfl h17 ?_
  refine Gk_iconst (v := 1) B d_Mo_method_20 (by decide) ?_
  refine Gk_isub B d_Mo_method_21 ?_
  obtain ⟨w22, h22, h⟩ := gk_bind h
  refine Gk_callS (As := [.int x1, .int 0, .int (v17 - (1 : Int32))]) (rest := []) (st1 := [.int w22.1]) (k1 := 0) (n1 := 0) B gk_hG d_Mo_method_22 (sn_Mo_outside h22) tw_954 tw_952 tw_953 tw_48 nm_Mo_outside rfl (by decide) ⟨by decide, by decide⟩ ⟨by decide, by decide⟩ rfl rfl rfl rfl ?_
  refine Gk_if_ne (tgt := 77) B d_Mo_method_25 rfl (fun c25 => ?_) (fun c25 => ?_)
  · rw [if_neg c25] at h
    exact sn_Mo_method_77 B hr h
  rw [if_pos c25] at h
  refine Gk_iload_n (i := 2) (x := x2) B d_Mo_method_28 rfl rfl ?_
  refine Gk_iconst (v := 0) B d_Mo_method_29 (by decide) ?_
  refine Gk_iconst (v := 5) B d_Mo_method_30 (by decide) ?_
  obtain ⟨w31, h31, h⟩ := gk_bind h
  refine Gk_callS (As := [.int x2, .int 0, .int 5]) (rest := []) (st1 := [.int w31.1]) (k1 := 0) (n1 := 0) B gk_hG d_Mo_method_31 (sn_Mo_outside h31) tw_954 tw_952 tw_953 tw_48 nm_Mo_outside rfl (by decide) ⟨by decide, by decide⟩ ⟨by decide, by decide⟩ rfl rfl rfl rfl ?_
  refine Gk_if_ne (tgt := 77) B d_Mo_method_34 rfl (fun c34 => ?_) (fun c34 => ?_)
  · rw [if_neg c34] at h
    exact sn_Mo_method_77 B hr h
  rw [if_pos c34] at h
  refine Gk_iload_n (i := 3) (x := x3) B d_Mo_method_37 rfl rfl ?_
  obtain ⟨w38, h38, h⟩ := gk_bind h
  refine Gk_callS (As := [.int x3]) (rest := []) (st1 := [.int w38.1]) (k1 := 0) (n1 := 0) B gk_hG d_Mo_method_38 (sn_Mo_isType h38) tw_957 tw_955 tw_956 tw_48 nm_Mo_isType rfl (by decide) ⟨by decide, by decide⟩ ⟨by decide, by decide⟩ rfl rfl rfl rfl ?_
  refine Gk_if_eq (tgt := 77) B d_Mo_method_41 rfl (fun c41 => ?_) (fun c41 => ?_)
  · rw [if_pos c41] at h
    exact sn_Mo_method_77 B hr h
  rw [if_neg c41] at h
  refine Gk_iload (x := x4) B d_Mo_method_44 rfl ?_
  obtain ⟨w46, h46, h⟩ := gk_bind h
  refine Gk_callS (As := [.int x4]) (rest := []) (st1 := [.int w46.1]) (k1 := 0) (n1 := 0) B gk_hG d_Mo_method_46 (sn_Mo_isType h46) tw_957 tw_955 tw_956 tw_48 nm_Mo_isType rfl (by decide) ⟨by decide, by decide⟩ ⟨by decide, by decide⟩ rfl rfl rfl rfl ?_
  refine Gk_if_eq (tgt := 77) B d_Mo_method_49 rfl (fun c49 => ?_) (fun c49 => ?_)
  · rw [if_pos c49] at h
    exact sn_Mo_method_77 B hr h
  rw [if_neg c49] at h
  refine Gk_iload (x := x5) B d_Mo_method_52 rfl ?_
  refine Gk_iconst (v := 0) B d_Mo_method_54 (by decide) ?_
  refine Gk_sipush (v := 1000) B d_Mo_method_55 (by decide) ?_
  obtain ⟨w58, h58, h⟩ := gk_bind h
  refine Gk_callS (As := [.int x5, .int 0, .int 1000]) (rest := []) (st1 := [.int w58.1]) (k1 := 0) (n1 := 0) B gk_hG d_Mo_method_58 (sn_Mo_outside h58) tw_954 tw_952 tw_953 tw_48 nm_Mo_outside rfl (by decide) ⟨by decide, by decide⟩ ⟨by decide, by decide⟩ rfl rfl rfl rfl ?_
  refine Gk_if_ne (tgt := 77) B d_Mo_method_61 rfl (fun c61 => ?_) (fun c61 => ?_)
  · rw [if_neg c61] at h
    exact sn_Mo_method_77 B hr h
  rw [if_pos c61] at h
  refine Gk_aload_n (i := 0) (r := a0) B d_Mo_method_64 rfl rfl ?_
  obtain ⟨v65, h65, h⟩ := gk_bind h
  refine Gk_getI (j := 5) B d_Mo_method_65 in_Mo cl_Mo (by decide) tw_760 rfl h65 ?_
  refine Gk_bipush (v := 12) B d_Mo_method_68 (by decide) ?_
  refine Gk_icmp_ge (tgt := 77) B d_Mo_method_70 rfl (fun c70 => ?_) (fun c70 => ?_)
  · rw [if_pos c70] at h
    exact sn_Mo_method_77 B hr h
  rw [if_neg c70] at h
  refine Gk_iconst (v := 1) B d_Mo_method_73 (by decide) ?_
  refine Gk_goto (tgt := 78) B d_Mo_method_74 rfl ?_
  exact sn_Mo_method_78 B hr h
set_option maxHeartbeats 4000000 in
set_option maxRecDepth 100000 in
theorem sn_Mo_method_0 {l : Launch} {Γ : gk_G} {p : Program} {e : Env} {s : State} {m : MethodId} {args : Array Value} {below : List Frame} {meth : Method} {c : Code} (B : gk_B p s m args meth c gk_Y Γ c_Mo_method 7 "StageDispatcherModel") (hr : meth.sig.returnType = (some .int)) {ρ : Int32 × gk_M}   {a0 : Option Nat} {x1 : Int32} {x2 : Int32} {x3 : Int32} {x4 : Int32} {x5 : Int32} {M : gk_M} (h : fn_Mo_method  a0 x1 x2 x3 x4 x5 M = some ρ) : Gk p l e rm_Mo_method s m args below meth c gk_Y Γ 7 (MQ below (gk_Q gk_Y Γ (some (.int ρ.1)) ρ.2) args s rm_Mo_method.cells rm_Mo_method.slots (fun q => Γ.2.2 ≤ q)) 0 0 M 0 [some (va_rf a0), some (.int x1), some (.int x2), some (.int x3), some (.int x4), some (.int x5), none] [] := by
  unfold fn_Mo_method at h
  refine Gk_aload_n (i := 0) (r := a0) B d_Mo_method_0 rfl rfl ?_
  obtain ⟨v1, h1, h⟩ := gk_bind h
  refine Gk_getI (j := 1) B d_Mo_method_1 in_Mo cl_Mo (by decide) tw_756 rfl h1 ?_
  refine Gk_if_eq (tgt := 14) B d_Mo_method_4 rfl (fun c4 => ?_) (fun c4 => ?_)
  · rw [if_pos c4] at h
    exact sn_Mo_method_14 B hr h
  rw [if_neg c4] at h
  refine Gk_aload_n (i := 0) (r := a0) B d_Mo_method_7 rfl rfl ?_
  obtain ⟨o8, g8, h⟩ := gk_bind h
  obtain ⟨w8, h8, h⟩ := gk_bind h
  refine Gk_callV (As := []) (rest := []) (st1 := [.int w8.1]) (k1 := 0) (n1 := 0) B gk_hG d_Mo_method_8 (sn_Mo_goodTemplate h8) g8 cl_Mo tw_939 tw_936 tw_938 tw_13 tw_48 nm_Mo_goodTemplate rfl (by decide) ⟨by decide, by decide⟩ ⟨by decide, by decide⟩ rfl rfl rfl rfl ?_
  refine Gk_if_eq (tgt := 77) B d_Mo_method_11 rfl (fun c11 => ?_) (fun c11 => ?_)
  · rw [if_pos c11] at h
    exact sn_Mo_method_77 B hr h
  rw [if_neg c11] at h
  exact sn_Mo_method_14 B hr h
theorem sn_Mo_method {l : Launch} {Γ : gk_G} {a0 : Option Nat} {x1 : Int32} {x2 : Int32} {x3 : Int32} {x4 : Int32} {x5 : Int32} {M : gk_M} {ρ : Int32 × gk_M} (h : fn_Mo_method a0 x1 x2 x3 x4 x5 M = some ρ) : gk_Met l gk_Y Γ y_Mo_method (.code y_Mo_method c_Mo_method 7 (some .int) :: gk_Y.2.2.2) rm_Mo_method [va_rf a0, .int x1, .int x2, .int x3, .int x4, .int x5] M (some (.int ρ.1)) ρ.2 :=
  gk_start (by decide) (by simp [lg_sl, gk_rc, gk_ic, gk_jc]) [some (va_rf a0), some (.int x1), some (.int x2), some (.int x3), some (.int x4), some (.int x5), none] (by simp [gk_as, lv_args, gk_rc, gk_ic, gk_jc]) (fun p e s m args below meth c B hr hin => sn_Mo_method_0 B hr h)
theorem d_SD_isThrown_0 : decode c_SD_isThrown 0 = .ok (.iload_n 0, 1) := by decide +kernel
theorem d_SD_isThrown_1 : decode c_SD_isThrown 1 = .ok (.iconst 1, 1) := by decide +kernel
theorem d_SD_isThrown_2 : decode c_SD_isThrown 2 = .ok (.bipush 15, 2) := by decide +kernel
theorem d_SD_isThrown_4 : decode c_SD_isThrown 4 = .ok (.invokestatic 95, 3) := by decide +kernel
theorem d_SD_isThrown_7 : decode c_SD_isThrown 7 = .ok (.ireturn, 1) := by decide +kernel
set_option maxHeartbeats 4000000 in
set_option maxRecDepth 100000 in
theorem sn_SD_isThrown_0 {l : Launch} {Γ : gk_G} {p : Program} {e : Env} {s : State} {m : MethodId} {args : Array Value} {below : List Frame} {meth : Method} {c : Code} (B : gk_B p s m args meth c gk_Y Γ c_SD_isThrown 1 "StageDispatcher") (hr : meth.sig.returnType = (some .boolean)) {ρ : Int32 × gk_M}   {x0 : Int32} {M : gk_M} (h : fn_SD_isThrown  x0 M = some ρ) : Gk p l e rm_SD_isThrown s m args below meth c gk_Y Γ 1 (MQ below (gk_Q gk_Y Γ (some (.int ρ.1)) ρ.2) args s rm_SD_isThrown.cells rm_SD_isThrown.slots (fun q => Γ.2.2 ≤ q)) 0 0 M 0 [some (.int x0)] [] := by
  unfold fn_SD_isThrown at h
  refine Gk_iload_n (i := 0) (x := x0) B d_SD_isThrown_0 rfl rfl ?_
  refine Gk_iconst (v := 1) B d_SD_isThrown_1 (by decide) ?_
  refine Gk_bipush (v := 15) B d_SD_isThrown_2 (by decide) ?_
  obtain ⟨w4, h4, h⟩ := gk_bind h
  refine Gk_callS (As := [.int x0, .int 1, .int 15]) (rest := []) (st1 := [.int w4.1]) (k1 := 0) (n1 := 0) B gk_hG d_SD_isThrown_4 (sn_SD_isWithin h4) tw_373 tw_377 tw_372 tw_40 nm_SD_isWithin rfl (by decide) ⟨by decide, by decide⟩ ⟨by decide, by decide⟩ rfl rfl rfl rfl ?_
  obtain ⟨z, hz, h⟩ := gk_bind h
  obtain ⟨hz1, hz2⟩ := gk_z_eq hz
  cases h
  subst hz1
  exact Gk_iret B hr d_SD_isThrown_7 (gk_nz hz2) (by decide) (by decide) rfl
theorem sn_SD_isThrown {l : Launch} {Γ : gk_G} {x0 : Int32} {M : gk_M} {ρ : Int32 × gk_M} (h : fn_SD_isThrown x0 M = some ρ) : gk_Met l gk_Y Γ y_SD_isThrown (.code y_SD_isThrown c_SD_isThrown 1 (some .boolean) :: gk_Y.2.2.2) rm_SD_isThrown [.int x0] M (some (.int ρ.1)) ρ.2 :=
  gk_start (by decide) (by simp [lg_sl, gk_rc, gk_ic, gk_jc]) [some (.int x0)] (by simp [gk_as, lv_args, gk_rc, gk_ic, gk_jc]) (fun p e s m args below meth c B hr hin => sn_SD_isThrown_0 B hr h)
theorem d_SD_detail_0 : decode c_SD_detail 0 = .ok (.iload_n 1, 1) := by decide +kernel
theorem d_SD_detail_1 : decode c_SD_detail 1 = .ok (.iconst 0, 1) := by decide +kernel
theorem d_SD_detail_2 : decode c_SD_detail 2 = .ok (.aload_n 0, 1) := by decide +kernel
theorem d_SD_detail_3 : decode c_SD_detail 3 = .ok (.getfield 19, 3) := by decide +kernel
theorem d_SD_detail_6 : decode c_SD_detail 6 = .ok (.getfield 79, 3) := by decide +kernel
theorem d_SD_detail_9 : decode c_SD_detail 9 = .ok (.iconst 1, 1) := by decide +kernel
theorem d_SD_detail_10 : decode c_SD_detail 10 = .ok (.isub, 1) := by decide +kernel
theorem d_SD_detail_11 : decode c_SD_detail 11 = .ok (.invokestatic 95, 3) := by decide +kernel
theorem d_SD_detail_14 : decode c_SD_detail 14 = .ok (.ifCond .eq 44, 3) := by decide +kernel
theorem d_SD_detail_17 : decode c_SD_detail 17 = .ok (.iload_n 2, 1) := by decide +kernel
theorem d_SD_detail_18 : decode c_SD_detail 18 = .ok (.iconst (-1), 1) := by decide +kernel
theorem d_SD_detail_19 : decode c_SD_detail 19 = .ok (.if_icmp .eq 13, 3) := by decide +kernel
theorem d_SD_detail_22 : decode c_SD_detail 22 = .ok (.iload_n 2, 1) := by decide +kernel
theorem d_SD_detail_23 : decode c_SD_detail 23 = .ok (.iconst 0, 1) := by decide +kernel
theorem d_SD_detail_24 : decode c_SD_detail 24 = .ok (.bipush 9, 2) := by decide +kernel
theorem d_SD_detail_26 : decode c_SD_detail 26 = .ok (.invokestatic 95, 3) := by decide +kernel
theorem d_SD_detail_29 : decode c_SD_detail 29 = .ok (.ifCond .eq 29, 3) := by decide +kernel
theorem d_SD_detail_32 : decode c_SD_detail 32 = .ok (.iload_n 3, 1) := by decide +kernel
theorem d_SD_detail_33 : decode c_SD_detail 33 = .ok (.iconst 0, 1) := by decide +kernel
theorem d_SD_detail_34 : decode c_SD_detail 34 = .ok (.iconst 3, 1) := by decide +kernel
theorem d_SD_detail_35 : decode c_SD_detail 35 = .ok (.invokestatic 95, 3) := by decide +kernel
theorem d_SD_detail_38 : decode c_SD_detail 38 = .ok (.ifCond .eq 20, 3) := by decide +kernel
theorem d_SD_detail_41 : decode c_SD_detail 41 = .ok (.iload 4, 2) := by decide +kernel
theorem d_SD_detail_43 : decode c_SD_detail 43 = .ok (.ifCond .eq 11, 3) := by decide +kernel
theorem d_SD_detail_46 : decode c_SD_detail 46 = .ok (.iload 4, 2) := by decide +kernel
theorem d_SD_detail_48 : decode c_SD_detail 48 = .ok (.invokestatic 108, 3) := by decide +kernel
theorem d_SD_detail_51 : decode c_SD_detail 51 = .ok (.ifCond .eq 7, 3) := by decide +kernel
theorem d_SD_detail_54 : decode c_SD_detail 54 = .ok (.iconst 1, 1) := by decide +kernel
theorem d_SD_detail_55 : decode c_SD_detail 55 = .ok (.goto 4, 3) := by decide +kernel
theorem d_SD_detail_58 : decode c_SD_detail 58 = .ok (.iconst 0, 1) := by decide +kernel
theorem d_SD_detail_59 : decode c_SD_detail 59 = .ok (.istore 5, 2) := by decide +kernel
theorem d_SD_detail_61 : decode c_SD_detail 61 = .ok (.iload 5, 2) := by decide +kernel
theorem d_SD_detail_63 : decode c_SD_detail 63 = .ok (.ifCond .eq 33, 3) := by decide +kernel
theorem d_SD_detail_66 : decode c_SD_detail 66 = .ok (.aload_n 0, 1) := by decide +kernel
theorem d_SD_detail_67 : decode c_SD_detail 67 = .ok (.getfield 19, 3) := by decide +kernel
theorem d_SD_detail_70 : decode c_SD_detail 70 = .ok (.getfield 111, 3) := by decide +kernel
theorem d_SD_detail_73 : decode c_SD_detail 73 = .ok (.iload_n 1, 1) := by decide +kernel
theorem d_SD_detail_74 : decode c_SD_detail 74 = .ok (.aaload, 1) := by decide +kernel
theorem d_SD_detail_75 : decode c_SD_detail 75 = .ok (.astore 6, 2) := by decide +kernel
theorem d_SD_detail_77 : decode c_SD_detail 77 = .ok (.aload 6, 2) := by decide +kernel
theorem d_SD_detail_79 : decode c_SD_detail 79 = .ok (.iload_n 2, 1) := by decide +kernel
theorem d_SD_detail_80 : decode c_SD_detail 80 = .ok (.putfield 115, 3) := by decide +kernel
theorem d_SD_detail_83 : decode c_SD_detail 83 = .ok (.aload 6, 2) := by decide +kernel
theorem d_SD_detail_85 : decode c_SD_detail 85 = .ok (.iload_n 3, 1) := by decide +kernel
theorem d_SD_detail_86 : decode c_SD_detail 86 = .ok (.putfield 118, 3) := by decide +kernel
theorem d_SD_detail_89 : decode c_SD_detail 89 = .ok (.aload 6, 2) := by decide +kernel
theorem d_SD_detail_91 : decode c_SD_detail 91 = .ok (.iload 4, 2) := by decide +kernel
theorem d_SD_detail_93 : decode c_SD_detail 93 = .ok (.putfield 121, 3) := by decide +kernel
theorem d_SD_detail_96 : decode c_SD_detail 96 = .ok (.iload 5, 2) := by decide +kernel
theorem d_SD_detail_98 : decode c_SD_detail 98 = .ok (.ireturn, 1) := by decide +kernel
set_option maxHeartbeats 4000000 in
set_option maxRecDepth 100000 in
theorem sn_SD_detail_96 {l : Launch} {Γ : gk_G} {p : Program} {e : Env} {s : State} {m : MethodId} {args : Array Value} {below : List Frame} {meth : Method} {c : Code} (B : gk_B p s m args meth c gk_Y Γ c_SD_detail 7 "StageDispatcher") (hr : meth.sig.returnType = (some .boolean)) {ρ : Int32 × gk_M}   {x5 : Int32} {M : gk_M} (h : fn_SD_detail_96  x5 M = some ρ) : Gk p l e rm_SD_detail s m args below meth c gk_Y Γ 7 (MQ below (gk_Q gk_Y Γ (some (.int ρ.1)) ρ.2) args s rm_SD_detail.cells rm_SD_detail.slots (fun q => Γ.2.2 ≤ q)) 0 0 M 96 [none, none, none, none, none, some (.int x5), none] [] := by
  unfold fn_SD_detail_96 at h
  refine Gk_iload (x := x5) B d_SD_detail_96 rfl ?_
  obtain ⟨z, hz, h⟩ := gk_bind h
  obtain ⟨hz1, hz2⟩ := gk_z_eq hz
  cases h
  subst hz1
  exact Gk_iret B hr d_SD_detail_98 (gk_nz hz2) (by decide) (by decide) rfl
set_option maxHeartbeats 4000000 in
set_option maxRecDepth 100000 in
theorem sn_SD_detail_59 {l : Launch} {Γ : gk_G} {p : Program} {e : Env} {s : State} {m : MethodId} {args : Array Value} {below : List Frame} {meth : Method} {c : Code} (B : gk_B p s m args meth c gk_Y Γ c_SD_detail 7 "StageDispatcher") (hr : meth.sig.returnType = (some .boolean)) {ρ : Int32 × gk_M}   {a0 : Option Nat} {x1 : Int32} {x2 : Int32} {x3 : Int32} {x4 : Int32} {s0 : Int32} {M : gk_M} (h : fn_SD_detail_59  a0 x1 x2 x3 x4 s0 M = some ρ) : Gk p l e rm_SD_detail s m args below meth c gk_Y Γ 7 (MQ below (gk_Q gk_Y Γ (some (.int ρ.1)) ρ.2) args s rm_SD_detail.cells rm_SD_detail.slots (fun q => Γ.2.2 ≤ q)) 0 0 M 59 [some (va_rf a0), some (.int x1), some (.int x2), some (.int x3), some (.int x4), none, none] [.int s0] := by
  unfold fn_SD_detail_59 at h
  refine Gk_istore (L' := [some (va_rf a0), some (.int x1), some (.int x2), some (.int x3), some (.int x4), some (.int s0), none]) B d_SD_detail_59 (by decide) (gk_c1_i rfl) rfl ?_
  refine Gk_iload (x := s0) B d_SD_detail_61 rfl ?_
  refine Gk_if_eq (tgt := 96) B d_SD_detail_63 rfl (fun c63 => ?_) (fun c63 => ?_)
  · rw [if_pos c63] at h
    refine Gk_weak [false, false, false, false, false, true, false] (L' := [none, none, none, none, none, some (.int s0), none]) rfl ?_
    exact sn_SD_detail_96 B hr h
  rw [if_neg c63] at h
  refine Gk_aload_n (i := 0) (r := a0) B d_SD_detail_66 rfl rfl ?_
  obtain ⟨v67, h67, h⟩ := gk_bind h
  refine Gk_getR (j := 1) B d_SD_detail_67 in_SD cl_SD (by decide) tw_279 rfl h67 ?_
  obtain ⟨v70, h70, h⟩ := gk_bind h
  refine Gk_getR (j := 1) B d_SD_detail_70 in_Catalog cl_Catalog (by decide) tw_101 rfl h70 ?_
  refine Gk_iload_n (i := 1) (x := x1) B d_SD_detail_73 rfl rfl ?_
  obtain ⟨v74, h74, h⟩ := gk_bind h
  refine Gk_aaload B d_SD_detail_74 ty_4 h74 ?_
  refine Gk_astore (L' := [some (va_rf a0), some (.int x1), some (.int x2), some (.int x3), some (.int x4), some (.int s0), some (va_rf v74)]) B d_SD_detail_75 (by decide) (gk_c1_i rfl) rfl ?_
  refine Gk_aload (r := v74) B d_SD_detail_77 rfl ?_
  refine Gk_iload_n (i := 2) (x := x2) B d_SD_detail_79 rfl rfl ?_
  obtain ⟨M80, h80, h⟩ := gk_bind h
  refine Gk_put (j := 6) (ty := .int) B d_SD_detail_80 in_Method t_Method t_Method_ok n_Method cl_Method (by decide) tw_404 rfl rfl rfl rfl rfl h80 ?_
  refine Gk_aload (r := v74) B d_SD_detail_83 rfl ?_
  refine Gk_iload_n (i := 3) (x := x3) B d_SD_detail_85 rfl rfl ?_
  obtain ⟨M86, h86, h⟩ := gk_bind h
  refine Gk_put (j := 7) (ty := .int) B d_SD_detail_86 in_Method t_Method t_Method_ok n_Method cl_Method (by decide) tw_406 rfl rfl rfl rfl rfl h86 ?_
  refine Gk_aload (r := v74) B d_SD_detail_89 rfl ?_
  refine Gk_iload (x := x4) B d_SD_detail_91 rfl ?_
  obtain ⟨M93, h93, h⟩ := gk_bind h
  refine Gk_put (j := 8) (ty := .int) B d_SD_detail_93 in_Method t_Method t_Method_ok n_Method cl_Method (by decide) tw_408 rfl rfl rfl rfl rfl h93 ?_
  refine Gk_weak [false, false, false, false, false, true, false] (L' := [none, none, none, none, none, some (.int s0), none]) rfl ?_
  exact sn_SD_detail_96 B hr h
set_option maxHeartbeats 4000000 in
set_option maxRecDepth 100000 in
theorem sn_SD_detail_58 {l : Launch} {Γ : gk_G} {p : Program} {e : Env} {s : State} {m : MethodId} {args : Array Value} {below : List Frame} {meth : Method} {c : Code} (B : gk_B p s m args meth c gk_Y Γ c_SD_detail 7 "StageDispatcher") (hr : meth.sig.returnType = (some .boolean)) {ρ : Int32 × gk_M}   {a0 : Option Nat} {x1 : Int32} {x2 : Int32} {x3 : Int32} {x4 : Int32} {M : gk_M} (h : fn_SD_detail_58  a0 x1 x2 x3 x4 M = some ρ) : Gk p l e rm_SD_detail s m args below meth c gk_Y Γ 7 (MQ below (gk_Q gk_Y Γ (some (.int ρ.1)) ρ.2) args s rm_SD_detail.cells rm_SD_detail.slots (fun q => Γ.2.2 ≤ q)) 0 0 M 58 [some (va_rf a0), some (.int x1), some (.int x2), some (.int x3), some (.int x4), none, none] [] := by
  unfold fn_SD_detail_58 at h
  refine Gk_iconst (v := 0) B d_SD_detail_58 (by decide) ?_
  exact sn_SD_detail_59 B hr h
set_option maxHeartbeats 4000000 in
set_option maxRecDepth 100000 in
theorem sn_SD_detail_54 {l : Launch} {Γ : gk_G} {p : Program} {e : Env} {s : State} {m : MethodId} {args : Array Value} {below : List Frame} {meth : Method} {c : Code} (B : gk_B p s m args meth c gk_Y Γ c_SD_detail 7 "StageDispatcher") (hr : meth.sig.returnType = (some .boolean)) {ρ : Int32 × gk_M}   {a0 : Option Nat} {x1 : Int32} {x2 : Int32} {x3 : Int32} {x4 : Int32} {M : gk_M} (h : fn_SD_detail_54  a0 x1 x2 x3 x4 M = some ρ) : Gk p l e rm_SD_detail s m args below meth c gk_Y Γ 7 (MQ below (gk_Q gk_Y Γ (some (.int ρ.1)) ρ.2) args s rm_SD_detail.cells rm_SD_detail.slots (fun q => Γ.2.2 ≤ q)) 0 0 M 54 [some (va_rf a0), some (.int x1), some (.int x2), some (.int x3), some (.int x4), none, none] [] := by
  unfold fn_SD_detail_54 at h
  refine Gk_iconst (v := 1) B d_SD_detail_54 (by decide) ?_
  refine Gk_goto (tgt := 59) B d_SD_detail_55 rfl ?_
  exact sn_SD_detail_59 B hr h
set_option maxHeartbeats 4000000 in
set_option maxRecDepth 100000 in
theorem sn_SD_detail_32 {l : Launch} {Γ : gk_G} {p : Program} {e : Env} {s : State} {m : MethodId} {args : Array Value} {below : List Frame} {meth : Method} {c : Code} (B : gk_B p s m args meth c gk_Y Γ c_SD_detail 7 "StageDispatcher") (hr : meth.sig.returnType = (some .boolean)) {ρ : Int32 × gk_M}   {a0 : Option Nat} {x1 : Int32} {x2 : Int32} {x3 : Int32} {x4 : Int32} {M : gk_M} (h : fn_SD_detail_32  a0 x1 x2 x3 x4 M = some ρ) : Gk p l e rm_SD_detail s m args below meth c gk_Y Γ 7 (MQ below (gk_Q gk_Y Γ (some (.int ρ.1)) ρ.2) args s rm_SD_detail.cells rm_SD_detail.slots (fun q => Γ.2.2 ≤ q)) 0 0 M 32 [some (va_rf a0), some (.int x1), some (.int x2), some (.int x3), some (.int x4), none, none] [] := by
  unfold fn_SD_detail_32 at h
  refine Gk_iload_n (i := 3) (x := x3) B d_SD_detail_32 rfl rfl ?_
  refine Gk_iconst (v := 0) B d_SD_detail_33 (by decide) ?_
  refine Gk_iconst (v := 3) B d_SD_detail_34 (by decide) ?_
  obtain ⟨w35, h35, h⟩ := gk_bind h
  refine Gk_callS (As := [.int x3, .int 0, .int 3]) (rest := []) (st1 := [.int w35.1]) (k1 := 0) (n1 := 0) B gk_hG d_SD_detail_35 (sn_SD_isWithin h35) tw_373 tw_377 tw_372 tw_40 nm_SD_isWithin rfl (by decide) ⟨by decide, by decide⟩ ⟨by decide, by decide⟩ rfl rfl rfl rfl ?_
  refine Gk_if_eq (tgt := 58) B d_SD_detail_38 rfl (fun c38 => ?_) (fun c38 => ?_)
  · rw [if_pos c38] at h
    exact sn_SD_detail_58 B hr h
  rw [if_neg c38] at h
  refine Gk_iload (x := x4) B d_SD_detail_41 rfl ?_
  refine Gk_if_eq (tgt := 54) B d_SD_detail_43 rfl (fun c43 => ?_) (fun c43 => ?_)
  · rw [if_pos c43] at h
    exact sn_SD_detail_54 B hr h
  rw [if_neg c43] at h
  refine Gk_iload (x := x4) B d_SD_detail_46 rfl ?_
  obtain ⟨w48, h48, h⟩ := gk_bind h
  refine Gk_callS (As := [.int x4]) (rest := []) (st1 := [.int w48.1]) (k1 := 0) (n1 := 0) B gk_hG d_SD_detail_48 (sn_SD_isThrown h48) tw_438 tw_436 tw_437 tw_40 nm_SD_isThrown rfl (by decide) ⟨by decide, by decide⟩ ⟨by decide, by decide⟩ rfl rfl rfl rfl ?_
  refine Gk_if_eq (tgt := 58) B d_SD_detail_51 rfl (fun c51 => ?_) (fun c51 => ?_)
  · rw [if_pos c51] at h
    exact sn_SD_detail_58 B hr h
  rw [if_neg c51] at h
  exact sn_SD_detail_54 B hr h
set_option maxHeartbeats 4000000 in
set_option maxRecDepth 100000 in
theorem sn_SD_detail_0 {l : Launch} {Γ : gk_G} {p : Program} {e : Env} {s : State} {m : MethodId} {args : Array Value} {below : List Frame} {meth : Method} {c : Code} (B : gk_B p s m args meth c gk_Y Γ c_SD_detail 7 "StageDispatcher") (hr : meth.sig.returnType = (some .boolean)) {ρ : Int32 × gk_M}   {a0 : Option Nat} {x1 : Int32} {x2 : Int32} {x3 : Int32} {x4 : Int32} {M : gk_M} (h : fn_SD_detail  a0 x1 x2 x3 x4 M = some ρ) : Gk p l e rm_SD_detail s m args below meth c gk_Y Γ 7 (MQ below (gk_Q gk_Y Γ (some (.int ρ.1)) ρ.2) args s rm_SD_detail.cells rm_SD_detail.slots (fun q => Γ.2.2 ≤ q)) 0 0 M 0 [some (va_rf a0), some (.int x1), some (.int x2), some (.int x3), some (.int x4), none, none] [] := by
  unfold fn_SD_detail at h
  refine Gk_iload_n (i := 1) (x := x1) B d_SD_detail_0 rfl rfl ?_
  refine Gk_iconst (v := 0) B d_SD_detail_1 (by decide) ?_
  refine Gk_aload_n (i := 0) (r := a0) B d_SD_detail_2 rfl rfl ?_
  obtain ⟨v3, h3, h⟩ := gk_bind h
  refine Gk_getR (j := 1) B d_SD_detail_3 in_SD cl_SD (by decide) tw_279 rfl h3 ?_
  obtain ⟨v6, h6, h⟩ := gk_bind h
  refine Gk_getI (j := 4) B d_SD_detail_6 in_Catalog cl_Catalog (by decide) tw_108 rfl h6 ?_
  refine Gk_iconst (v := 1) B d_SD_detail_9 (by decide) ?_
  refine Gk_isub B d_SD_detail_10 ?_
  obtain ⟨w11, h11, h⟩ := gk_bind h
  refine Gk_callS (As := [.int x1, .int 0, .int (v6 - (1 : Int32))]) (rest := []) (st1 := [.int w11.1]) (k1 := 0) (n1 := 0) B gk_hG d_SD_detail_11 (sn_SD_isWithin h11) tw_373 tw_377 tw_372 tw_40 nm_SD_isWithin rfl (by decide) ⟨by decide, by decide⟩ ⟨by decide, by decide⟩ rfl rfl rfl rfl ?_
  refine Gk_if_eq (tgt := 58) B d_SD_detail_14 rfl (fun c14 => ?_) (fun c14 => ?_)
  · rw [if_pos c14] at h
    exact sn_SD_detail_58 B hr h
  rw [if_neg c14] at h
  refine Gk_iload_n (i := 2) (x := x2) B d_SD_detail_17 rfl rfl ?_
  refine Gk_iconst (v := (-1)) B d_SD_detail_18 (by decide) ?_
  refine Gk_icmp_eq (tgt := 32) B d_SD_detail_19 rfl (fun c19 => ?_) (fun c19 => ?_)
  · rw [if_pos c19] at h
    exact sn_SD_detail_32 B hr h
  rw [if_neg c19] at h
  refine Gk_iload_n (i := 2) (x := x2) B d_SD_detail_22 rfl rfl ?_
  refine Gk_iconst (v := 0) B d_SD_detail_23 (by decide) ?_
  refine Gk_bipush (v := 9) B d_SD_detail_24 (by decide) ?_
  obtain ⟨w26, h26, h⟩ := gk_bind h
  refine Gk_callS (As := [.int x2, .int 0, .int 9]) (rest := []) (st1 := [.int w26.1]) (k1 := 0) (n1 := 0) B gk_hG d_SD_detail_26 (sn_SD_isWithin h26) tw_373 tw_377 tw_372 tw_40 nm_SD_isWithin rfl (by decide) ⟨by decide, by decide⟩ ⟨by decide, by decide⟩ rfl rfl rfl rfl ?_
  refine Gk_if_eq (tgt := 58) B d_SD_detail_29 rfl (fun c29 => ?_) (fun c29 => ?_)
  · rw [if_pos c29] at h
    exact sn_SD_detail_58 B hr h
  rw [if_neg c29] at h
  exact sn_SD_detail_32 B hr h
theorem sn_SD_detail {l : Launch} {Γ : gk_G} {a0 : Option Nat} {x1 : Int32} {x2 : Int32} {x3 : Int32} {x4 : Int32} {M : gk_M} {ρ : Int32 × gk_M} (h : fn_SD_detail a0 x1 x2 x3 x4 M = some ρ) : gk_Met l gk_Y Γ y_SD_detail (.code y_SD_detail c_SD_detail 7 (some .boolean) :: gk_Y.2.2.2) rm_SD_detail [va_rf a0, .int x1, .int x2, .int x3, .int x4] M (some (.int ρ.1)) ρ.2 :=
  gk_start (by decide) (by simp [lg_sl, gk_rc, gk_ic, gk_jc]) [some (va_rf a0), some (.int x1), some (.int x2), some (.int x3), some (.int x4), none, none] (by simp [gk_as, lv_args, gk_rc, gk_ic, gk_jc]) (fun p e s m args below meth c B hr hin => sn_SD_detail_0 B hr h)
