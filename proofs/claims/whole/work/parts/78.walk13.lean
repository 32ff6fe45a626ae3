theorem d_Mo_ran_0 : decode c_Mo_ran 0 = .ok (.iload_n 1, 1) := by decide +kernel
theorem d_Mo_ran_1 : decode c_Mo_ran 1 = .ok (.iconst 0, 1) := by decide +kernel
theorem d_Mo_ran_2 : decode c_Mo_ran 2 = .ok (.aload_n 0, 1) := by decide +kernel
theorem d_Mo_ran_3 : decode c_Mo_ran 3 = .ok (.getfield 259, 3) := by decide +kernel
theorem d_Mo_ran_6 : decode c_Mo_ran 6 = .ok (.iconst 1, 1) := by decide +kernel
theorem d_Mo_ran_7 : decode c_Mo_ran 7 = .ok (.isub, 1) := by decide +kernel
theorem d_Mo_ran_8 : decode c_Mo_ran 8 = .ok (.invokestatic 167, 3) := by decide +kernel
theorem d_Mo_ran_11 : decode c_Mo_ran 11 = .ok (.ifCond .eq 7, 3) := by decide +kernel
theorem d_Mo_ran_14 : decode c_Mo_ran 14 = .ok (.iconst (-1), 1) := by decide +kernel
theorem d_Mo_ran_15 : decode c_Mo_ran 15 = .ok (.goto 9, 3) := by decide +kernel
theorem d_Mo_ran_18 : decode c_Mo_ran 18 = .ok (.aload_n 0, 1) := by decide +kernel
theorem d_Mo_ran_19 : decode c_Mo_ran 19 = .ok (.getfield 90, 3) := by decide +kernel
theorem d_Mo_ran_22 : decode c_Mo_ran 22 = .ok (.iload_n 1, 1) := by decide +kernel
theorem d_Mo_ran_23 : decode c_Mo_ran 23 = .ok (.iaload, 1) := by decide +kernel
theorem d_Mo_ran_24 : decode c_Mo_ran 24 = .ok (.ireturn, 1) := by decide +kernel
set_option maxHeartbeats 4000000 in
set_option maxRecDepth 100000 in
theorem sn_Mo_ran_0 {l : Launch} {Γ : gk_G} {p : Program} {e : Env} {s : State} {m : MethodId} {args : Array Value} {below : List Frame} {meth : Method} {c : Code} (B : gk_B p s m args meth c gk_Y Γ c_Mo_ran 2 "StageDispatcherModel") (hr : meth.sig.returnType = (some .int)) {ρ : Int32 × gk_M}   {a0 : Option Nat} {x1 : Int32} {M : gk_M} (h : fn_Mo_ran  a0 x1 M = some ρ) : Gk p l e rm_Mo_ran s m args below meth c gk_Y Γ 2 (MQ below (gk_Q gk_Y Γ (some (.int ρ.1)) ρ.2) args s rm_Mo_ran.cells rm_Mo_ran.slots (fun q => Γ.2.2 ≤ q)) 0 0 M 0 [some (va_rf a0), some (.int x1)] [] := by
  unfold fn_Mo_ran at h
  refine Gk_iload_n (i := 1) (x := x1) B d_Mo_ran_0 rfl rfl ?_
  refine Gk_iconst (v := 0) B d_Mo_ran_1 (by decide) ?_
  refine Gk_aload_n (i := 0) (r := a0) B d_Mo_ran_2 rfl rfl ?_
  obtain ⟨v3, h3, h⟩ := gk_bind h
  refine Gk_getI (j := 45) B d_Mo_ran_3 in_Mo cl_Mo (by decide) tw_800 rfl h3 ?_
  refine Gk_iconst (v := 1) B d_Mo_ran_6 (by decide) ?_
  refine Gk_isub B d_Mo_ran_7 ?_
  obtain ⟨w8, h8, h⟩ := gk_bind h
  refine Gk_callS (As := [.int x1, .int 0, .int (v3 - (1 : Int32))]) (rest := []) (st1 := [.int w8.1]) (k1 := 0) (n1 := 0) B gk_hG d_Mo_ran_8 (sn_Mo_outside h8) tw_954 tw_952 tw_953 tw_48 nm_Mo_outside rfl (by decide) ⟨by decide, by decide⟩ ⟨by decide, by decide⟩ rfl rfl rfl rfl ?_
  refine Gk_if_eq (tgt := 18) B d_Mo_ran_11 rfl (fun c11 => ?_) (fun c11 => ?_)
  · rw [if_pos c11] at h
    refine Gk_aload_n (i := 0) (r := a0) B d_Mo_ran_18 rfl rfl ?_
    obtain ⟨v19, h19, h⟩ := gk_bind h
    refine Gk_getR (j := 46) B d_Mo_ran_19 in_Mo cl_Mo (by decide) tw_801 rfl h19 ?_
    refine Gk_iload_n (i := 1) (x := x1) B d_Mo_ran_22 rfl rfl ?_
    obtain ⟨v23, h23, h⟩ := gk_bind h
    refine Gk_iaload B d_Mo_ran_23 ty_0 h23 ?_
    cases h
    exact Gk_iret B hr d_Mo_ran_24 rfl (by decide) (by decide) rfl
  rw [if_neg c11] at h
  refine Gk_iconst (v := (-1)) B d_Mo_ran_14 (by decide) ?_
  refine Gk_goto (tgt := 24) B d_Mo_ran_15 rfl ?_
  cases h
  exact Gk_iret B hr d_Mo_ran_24 rfl (by decide) (by decide) rfl
theorem sn_Mo_ran {l : Launch} {Γ : gk_G} {a0 : Option Nat} {x1 : Int32} {M : gk_M} {ρ : Int32 × gk_M} (h : fn_Mo_ran a0 x1 M = some ρ) : gk_Met l gk_Y Γ y_Mo_ran (.code y_Mo_ran c_Mo_ran 2 (some .int) :: gk_Y.2.2.2) rm_Mo_ran [va_rf a0, .int x1] M (some (.int ρ.1)) ρ.2 :=
  gk_start (by decide) (by simp [lg_sl, gk_rc, gk_ic, gk_jc]) [some (va_rf a0), some (.int x1)] (by simp [gk_as, lv_args, gk_rc, gk_ic, gk_jc]) (fun p e s m args below meth c B hr hin => sn_Mo_ran_0 B hr h)
