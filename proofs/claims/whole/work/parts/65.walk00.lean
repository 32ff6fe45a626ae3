theorem gk_ic (x : Int32) : (Value.int x).category = 1 := rfl
theorem gk_jc (x : Int64) : (Value.long x).category = 2 := rfl
theorem d_Text_init_0 : decode c_Text_init 0 = .ok (.aload_n 0, 1) := by decide +kernel
theorem d_Text_init_1 : decode c_Text_init 1 = .ok (.invokespecial 3, 3) := by decide +kernel
theorem d_Text_init_4 : decode c_Text_init 4 = .ok (.aload_n 0, 1) := by decide +kernel
theorem d_Text_init_5 : decode c_Text_init 5 = .ok (.bipush 24, 2) := by decide +kernel
theorem d_Text_init_7 : decode c_Text_init 7 = .ok (.newarray .char, 2) := by decide +kernel
theorem d_Text_init_9 : decode c_Text_init 9 = .ok (.putfield 9, 3) := by decide +kernel
theorem d_Text_init_12 : decode c_Text_init 12 = .ok (.aload_n 0, 1) := by decide +kernel
theorem d_Text_init_13 : decode c_Text_init 13 = .ok (.iconst 0, 1) := by decide +kernel
theorem d_Text_init_14 : decode c_Text_init 14 = .ok (.putfield 15, 3) := by decide +kernel
theorem d_Text_init_17 : decode c_Text_init 17 = .ok (.return_, 1) := by decide +kernel
set_option maxHeartbeats 4000000 in
set_option maxRecDepth 100000 in
theorem sn_Text_init_0 {l : Launch} {Γ : gk_G} {p : Program} {e : Env} {s : State} {m : MethodId} {args : Array Value} {below : List Frame} {meth : Method} {c : Code} (B : gk_B p s m args meth c gk_Y Γ c_Text_init 1 "StageDispatcher$Text") (hr : meth.sig.returnType = none) (hin : meth.name = "<init>") {ρ : gk_M}   {a0 : Option Nat} {M : gk_M} (h : fn_Text_init  a0 M = some ρ) : Gk p l e rm_Text_init s m args below meth c gk_Y Γ 1 (MQ below (gk_Q gk_Y Γ none ρ) args s rm_Text_init.cells rm_Text_init.slots (fun q => Γ.2.2 ≤ q)) 0 0 M 0 [some (va_rf a0)] [] := by
  unfold fn_Text_init at h
  refine Gk_aload_n (i := 0) (r := a0) B d_Text_init_0 rfl rfl ?_
  obtain ⟨o1, h1, h⟩ := gk_bind h
  refine Gk_objInit B d_Text_init_1 tw_69 tw_62 tw_63 h1 (by decide) (by decide) ?_
  refine Gk_aload_n (i := 0) (r := a0) B d_Text_init_4 rfl rfl ?_
  refine Gk_bipush (v := 24) B d_Text_init_5 (by decide) ?_
  obtain ⟨M7, h7, h⟩ := gk_bind h
  refine Gk_newarray B d_Text_init_7 rfl ty_1 tw_84 rfl (by decide) h7 (by decide) (by decide) ?_
  obtain ⟨M9, h9, h⟩ := gk_bind h
  refine Gk_putF (j := 0) (ty := (.array .char)) B hin d_Text_init_9 in_Text t_Text t_Text_ok n_Text cl_Text (by decide) tw_70 rfl rfl rfl rfl (gk_nfa _ _) (gk_ffa _ _) h9 ?_
  refine Gk_aload_n (i := 0) (r := a0) B d_Text_init_12 rfl rfl ?_
  refine Gk_iconst (v := 0) B d_Text_init_13 (by decide) ?_
  obtain ⟨M14, h14, h⟩ := gk_bind h
  refine Gk_put (j := 1) (ty := .int) B d_Text_init_14 in_Text t_Text t_Text_ok n_Text cl_Text (by decide) tw_76 rfl rfl rfl rfl rfl h14 ?_
  cases h
  exact Gk_vret B hr d_Text_init_17 (by decide) (by decide) rfl
theorem sn_Text_init {l : Launch} {Γ : gk_G} {a0 : Option Nat} {M : gk_M} {ρ : gk_M} (h : fn_Text_init a0 M = some ρ) : gk_Met l gk_Y Γ y_Text_init (.code y_Text_init c_Text_init 1 none :: gk_Y.2.2.2) rm_Text_init [va_rf a0] M none ρ :=
  gk_start (by decide) (by simp [lg_sl, gk_rc, gk_ic, gk_jc]) [some (va_rf a0)] (by simp [gk_as, lv_args, gk_rc, gk_ic, gk_jc]) (fun p e s m args below meth c B hr hin => sn_Text_init_0 B hr hin h)
theorem d_Catalog_init_0 : decode c_Catalog_init 0 = .ok (.aload_n 0, 1) := by decide +kernel
theorem d_Catalog_init_1 : decode c_Catalog_init 1 = .ok (.invokespecial 3, 3) := by decide +kernel
theorem d_Catalog_init_4 : decode c_Catalog_init 4 = .ok (.aload_n 0, 1) := by decide +kernel
theorem d_Catalog_init_5 : decode c_Catalog_init 5 = .ok (.bipush 6, 2) := by decide +kernel
theorem d_Catalog_init_7 : decode c_Catalog_init 7 = .ok (.anewarray 9, 3) := by decide +kernel
theorem d_Catalog_init_10 : decode c_Catalog_init 10 = .ok (.putfield 11, 3) := by decide +kernel
theorem d_Catalog_init_13 : decode c_Catalog_init 13 = .ok (.aload_n 0, 1) := by decide +kernel
theorem d_Catalog_init_14 : decode c_Catalog_init 14 = .ok (.bipush 12, 2) := by decide +kernel
theorem d_Catalog_init_16 : decode c_Catalog_init 16 = .ok (.anewarray 17, 3) := by decide +kernel
theorem d_Catalog_init_19 : decode c_Catalog_init 19 = .ok (.putfield 19, 3) := by decide +kernel
theorem d_Catalog_init_22 : decode c_Catalog_init 22 = .ok (.aload_n 0, 1) := by decide +kernel
theorem d_Catalog_init_23 : decode c_Catalog_init 23 = .ok (.bipush 8, 2) := by decide +kernel
theorem d_Catalog_init_25 : decode c_Catalog_init 25 = .ok (.anewarray 23, 3) := by decide +kernel
theorem d_Catalog_init_28 : decode c_Catalog_init 28 = .ok (.putfield 25, 3) := by decide +kernel
theorem d_Catalog_init_31 : decode c_Catalog_init 31 = .ok (.aload_n 0, 1) := by decide +kernel
theorem d_Catalog_init_32 : decode c_Catalog_init 32 = .ok (.iconst 0, 1) := by decide +kernel
theorem d_Catalog_init_33 : decode c_Catalog_init 33 = .ok (.putfield 29, 3) := by decide +kernel
theorem d_Catalog_init_36 : decode c_Catalog_init 36 = .ok (.aload_n 0, 1) := by decide +kernel
theorem d_Catalog_init_37 : decode c_Catalog_init 37 = .ok (.iconst 0, 1) := by decide +kernel
theorem d_Catalog_init_38 : decode c_Catalog_init 38 = .ok (.putfield 33, 3) := by decide +kernel
theorem d_Catalog_init_41 : decode c_Catalog_init 41 = .ok (.aload_n 0, 1) := by decide +kernel
theorem d_Catalog_init_42 : decode c_Catalog_init 42 = .ok (.iconst 0, 1) := by decide +kernel
theorem d_Catalog_init_43 : decode c_Catalog_init 43 = .ok (.putfield 36, 3) := by decide +kernel
theorem d_Catalog_init_46 : decode c_Catalog_init 46 = .ok (.return_, 1) := by decide +kernel
set_option maxHeartbeats 4000000 in
set_option maxRecDepth 100000 in
theorem sn_Catalog_init_0 {l : Launch} {Γ : gk_G} {p : Program} {e : Env} {s : State} {m : MethodId} {args : Array Value} {below : List Frame} {meth : Method} {c : Code} (B : gk_B p s m args meth c gk_Y Γ c_Catalog_init 1 "StageDispatcher$Catalog") (hr : meth.sig.returnType = none) (hin : meth.name = "<init>") {ρ : gk_M}   {a0 : Option Nat} {M : gk_M} (h : fn_Catalog_init  a0 M = some ρ) : Gk p l e rm_Catalog_init s m args below meth c gk_Y Γ 1 (MQ below (gk_Q gk_Y Γ none ρ) args s rm_Catalog_init.cells rm_Catalog_init.slots (fun q => Γ.2.2 ≤ q)) 0 0 M 0 [some (va_rf a0)] [] := by
  unfold fn_Catalog_init at h
  refine Gk_aload_n (i := 0) (r := a0) B d_Catalog_init_0 rfl rfl ?_
  obtain ⟨o1, h1, h⟩ := gk_bind h
  refine Gk_objInit B d_Catalog_init_1 tw_90 tw_62 tw_63 h1 (by decide) (by decide) ?_
  refine Gk_aload_n (i := 0) (r := a0) B d_Catalog_init_4 rfl rfl ?_
  refine Gk_bipush (v := 6) B d_Catalog_init_5 (by decide) ?_
  obtain ⟨M7, h7, h⟩ := gk_bind h
  refine Gk_anewarray B d_Catalog_init_7 ty_3 tw_91 nw_92 (by decide) h7 (by decide) (by decide) ?_
  obtain ⟨M10, h10, h⟩ := gk_bind h
  refine Gk_putF (j := 0) (ty := (.array (.object "StageDispatcher$Template"))) B hin d_Catalog_init_10 in_Catalog t_Catalog t_Catalog_ok n_Catalog cl_Catalog (by decide) tw_97 rfl rfl rfl rfl (gk_nfa _ _) (gk_ffa _ _) h10 ?_
  refine Gk_aload_n (i := 0) (r := a0) B d_Catalog_init_13 rfl rfl ?_
  refine Gk_bipush (v := 12) B d_Catalog_init_14 (by decide) ?_
  obtain ⟨M16, h16, h⟩ := gk_bind h
  refine Gk_anewarray B d_Catalog_init_16 ty_4 tw_93 nw_94 (by decide) h16 (by decide) (by decide) ?_
  obtain ⟨M19, h19, h⟩ := gk_bind h
  refine Gk_putF (j := 1) (ty := (.array (.object "StageDispatcher$Method"))) B hin d_Catalog_init_19 in_Catalog t_Catalog t_Catalog_ok n_Catalog cl_Catalog (by decide) tw_99 rfl rfl rfl rfl (gk_nfa _ _) (gk_ffa _ _) h19 ?_
  refine Gk_aload_n (i := 0) (r := a0) B d_Catalog_init_22 rfl rfl ?_
  refine Gk_bipush (v := 8) B d_Catalog_init_23 (by decide) ?_
  obtain ⟨M25, h25, h⟩ := gk_bind h
  refine Gk_anewarray B d_Catalog_init_25 ty_5 tw_95 nw_96 (by decide) h25 (by decide) (by decide) ?_
  obtain ⟨M28, h28, h⟩ := gk_bind h
  refine Gk_putF (j := 2) (ty := (.array (.object "StageDispatcher$Locator"))) B hin d_Catalog_init_28 in_Catalog t_Catalog t_Catalog_ok n_Catalog cl_Catalog (by decide) tw_102 rfl rfl rfl rfl (gk_nfa _ _) (gk_ffa _ _) h28 ?_
  refine Gk_aload_n (i := 0) (r := a0) B d_Catalog_init_31 rfl rfl ?_
  refine Gk_iconst (v := 0) B d_Catalog_init_32 (by decide) ?_
  obtain ⟨M33, h33, h⟩ := gk_bind h
  refine Gk_put (j := 3) (ty := .int) B d_Catalog_init_33 in_Catalog t_Catalog t_Catalog_ok n_Catalog cl_Catalog (by decide) tw_104 rfl rfl rfl rfl rfl h33 ?_
  refine Gk_aload_n (i := 0) (r := a0) B d_Catalog_init_36 rfl rfl ?_
  refine Gk_iconst (v := 0) B d_Catalog_init_37 (by decide) ?_
  obtain ⟨M38, h38, h⟩ := gk_bind h
  refine Gk_put (j := 4) (ty := .int) B d_Catalog_init_38 in_Catalog t_Catalog t_Catalog_ok n_Catalog cl_Catalog (by decide) tw_107 rfl rfl rfl rfl rfl h38 ?_
  refine Gk_aload_n (i := 0) (r := a0) B d_Catalog_init_41 rfl rfl ?_
  refine Gk_iconst (v := 0) B d_Catalog_init_42 (by decide) ?_
  obtain ⟨M43, h43, h⟩ := gk_bind h
  refine Gk_put (j := 5) (ty := .int) B d_Catalog_init_43 in_Catalog t_Catalog t_Catalog_ok n_Catalog cl_Catalog (by decide) tw_110 rfl rfl rfl rfl rfl h43 ?_
  cases h
  exact Gk_vret B hr d_Catalog_init_46 (by decide) (by decide) rfl
theorem sn_Catalog_init {l : Launch} {Γ : gk_G} {a0 : Option Nat} {M : gk_M} {ρ : gk_M} (h : fn_Catalog_init a0 M = some ρ) : gk_Met l gk_Y Γ y_Catalog_init (.code y_Catalog_init c_Catalog_init 1 none :: gk_Y.2.2.2) rm_Catalog_init [va_rf a0] M none ρ :=
  gk_start (by decide) (by simp [lg_sl, gk_rc, gk_ic, gk_jc]) [some (va_rf a0)] (by simp [gk_as, lv_args, gk_rc, gk_ic, gk_jc]) (fun p e s m args below meth c B hr hin => sn_Catalog_init_0 B hr hin h)
theorem d_FilterChain_init_0 : decode c_FilterChain_init 0 = .ok (.aload_n 0, 1) := by decide +kernel
theorem d_FilterChain_init_1 : decode c_FilterChain_init 1 = .ok (.invokespecial 3, 3) := by decide +kernel
theorem d_FilterChain_init_4 : decode c_FilterChain_init 4 = .ok (.aload_n 0, 1) := by decide +kernel
theorem d_FilterChain_init_5 : decode c_FilterChain_init 5 = .ok (.bipush 8, 2) := by decide +kernel
theorem d_FilterChain_init_7 : decode c_FilterChain_init 7 = .ok (.anewarray 9, 3) := by decide +kernel
theorem d_FilterChain_init_10 : decode c_FilterChain_init 10 = .ok (.putfield 11, 3) := by decide +kernel
theorem d_FilterChain_init_13 : decode c_FilterChain_init 13 = .ok (.aload_n 0, 1) := by decide +kernel
theorem d_FilterChain_init_14 : decode c_FilterChain_init 14 = .ok (.bipush 8, 2) := by decide +kernel
theorem d_FilterChain_init_16 : decode c_FilterChain_init 16 = .ok (.newarray .int, 2) := by decide +kernel
theorem d_FilterChain_init_18 : decode c_FilterChain_init 18 = .ok (.putfield 17, 3) := by decide +kernel
theorem d_FilterChain_init_21 : decode c_FilterChain_init 21 = .ok (.aload_n 0, 1) := by decide +kernel
theorem d_FilterChain_init_22 : decode c_FilterChain_init 22 = .ok (.bipush 8, 2) := by decide +kernel
theorem d_FilterChain_init_24 : decode c_FilterChain_init 24 = .ok (.newarray .int, 2) := by decide +kernel
theorem d_FilterChain_init_26 : decode c_FilterChain_init 26 = .ok (.putfield 21, 3) := by decide +kernel
theorem d_FilterChain_init_29 : decode c_FilterChain_init 29 = .ok (.aload_n 0, 1) := by decide +kernel
theorem d_FilterChain_init_30 : decode c_FilterChain_init 30 = .ok (.iconst 0, 1) := by decide +kernel
theorem d_FilterChain_init_31 : decode c_FilterChain_init 31 = .ok (.putfield 24, 3) := by decide +kernel
theorem d_FilterChain_init_34 : decode c_FilterChain_init 34 = .ok (.return_, 1) := by decide +kernel
set_option maxHeartbeats 4000000 in
set_option maxRecDepth 100000 in
theorem sn_FilterChain_init_0 {l : Launch} {Γ : gk_G} {p : Program} {e : Env} {s : State} {m : MethodId} {args : Array Value} {below : List Frame} {meth : Method} {c : Code} (B : gk_B p s m args meth c gk_Y Γ c_FilterChain_init 1 "StageDispatcher$FilterChain") (hr : meth.sig.returnType = none) (hin : meth.name = "<init>") {ρ : gk_M}   {a0 : Option Nat} {M : gk_M} (h : fn_FilterChain_init  a0 M = some ρ) : Gk p l e rm_FilterChain_init s m args below meth c gk_Y Γ 1 (MQ below (gk_Q gk_Y Γ none ρ) args s rm_FilterChain_init.cells rm_FilterChain_init.slots (fun q => Γ.2.2 ≤ q)) 0 0 M 0 [some (va_rf a0)] [] := by
  unfold fn_FilterChain_init at h
  refine Gk_aload_n (i := 0) (r := a0) B d_FilterChain_init_0 rfl rfl ?_
  obtain ⟨o1, h1, h⟩ := gk_bind h
  refine Gk_objInit B d_FilterChain_init_1 tw_131 tw_62 tw_63 h1 (by decide) (by decide) ?_
  refine Gk_aload_n (i := 0) (r := a0) B d_FilterChain_init_4 rfl rfl ?_
  refine Gk_bipush (v := 8) B d_FilterChain_init_5 (by decide) ?_
  obtain ⟨M7, h7, h⟩ := gk_bind h
  refine Gk_anewarray B d_FilterChain_init_7 ty_6 tw_132 nw_133 (by decide) h7 (by decide) (by decide) ?_
  obtain ⟨M10, h10, h⟩ := gk_bind h
  refine Gk_putF (j := 0) (ty := (.array (.object "StageDispatcher$Filter"))) B hin d_FilterChain_init_10 in_FilterChain t_FilterChain t_FilterChain_ok n_FilterChain cl_FilterChain (by decide) tw_134 rfl rfl rfl rfl (gk_nfa _ _) (gk_ffa _ _) h10 ?_
  refine Gk_aload_n (i := 0) (r := a0) B d_FilterChain_init_13 rfl rfl ?_
  refine Gk_bipush (v := 8) B d_FilterChain_init_14 (by decide) ?_
  obtain ⟨M16, h16, h⟩ := gk_bind h
  refine Gk_newarray B d_FilterChain_init_16 rfl ty_0 tw_151 rfl (by decide) h16 (by decide) (by decide) ?_
  obtain ⟨M18, h18, h⟩ := gk_bind h
  refine Gk_putF (j := 1) (ty := (.array .int)) B hin d_FilterChain_init_18 in_FilterChain t_FilterChain t_FilterChain_ok n_FilterChain cl_FilterChain (by decide) tw_136 rfl rfl rfl rfl (gk_nfa _ _) (gk_ffa _ _) h18 ?_
  refine Gk_aload_n (i := 0) (r := a0) B d_FilterChain_init_21 rfl rfl ?_
  refine Gk_bipush (v := 8) B d_FilterChain_init_22 (by decide) ?_
  obtain ⟨M24, h24, h⟩ := gk_bind h
  refine Gk_newarray B d_FilterChain_init_24 rfl ty_0 tw_151 rfl (by decide) h24 (by decide) (by decide) ?_
  obtain ⟨M26, h26, h⟩ := gk_bind h
  refine Gk_putF (j := 2) (ty := (.array .int)) B hin d_FilterChain_init_26 in_FilterChain t_FilterChain t_FilterChain_ok n_FilterChain cl_FilterChain (by decide) tw_138 rfl rfl rfl rfl (gk_nfa _ _) (gk_ffa _ _) h26 ?_
  refine Gk_aload_n (i := 0) (r := a0) B d_FilterChain_init_29 rfl rfl ?_
  refine Gk_iconst (v := 0) B d_FilterChain_init_30 (by decide) ?_
  obtain ⟨M31, h31, h⟩ := gk_bind h
  refine Gk_put (j := 3) (ty := .int) B d_FilterChain_init_31 in_FilterChain t_FilterChain t_FilterChain_ok n_FilterChain cl_FilterChain (by decide) tw_140 rfl rfl rfl rfl rfl h31 ?_
  cases h
  exact Gk_vret B hr d_FilterChain_init_34 (by decide) (by decide) rfl
theorem sn_FilterChain_init {l : Launch} {Γ : gk_G} {a0 : Option Nat} {M : gk_M} {ρ : gk_M} (h : fn_FilterChain_init a0 M = some ρ) : gk_Met l gk_Y Γ y_FilterChain_init (.code y_FilterChain_init c_FilterChain_init 1 none :: gk_Y.2.2.2) rm_FilterChain_init [va_rf a0] M none ρ :=
  gk_start (by decide) (by simp [lg_sl, gk_rc, gk_ic, gk_jc]) [some (va_rf a0)] (by simp [gk_as, lv_args, gk_rc, gk_ic, gk_jc]) (fun p e s m args below meth c B hr hin => sn_FilterChain_init_0 B hr hin h)
theorem d_Accepted_init_0 : decode c_Accepted_init 0 = .ok (.aload_n 0, 1) := by decide +kernel
theorem d_Accepted_init_1 : decode c_Accepted_init 1 = .ok (.invokespecial 3, 3) := by decide +kernel
theorem d_Accepted_init_4 : decode c_Accepted_init 4 = .ok (.aload_n 0, 1) := by decide +kernel
theorem d_Accepted_init_5 : decode c_Accepted_init 5 = .ok (.iconst 4, 1) := by decide +kernel
theorem d_Accepted_init_6 : decode c_Accepted_init 6 = .ok (.newarray .int, 2) := by decide +kernel
theorem d_Accepted_init_8 : decode c_Accepted_init 8 = .ok (.putfield 9, 3) := by decide +kernel
theorem d_Accepted_init_11 : decode c_Accepted_init 11 = .ok (.aload_n 0, 1) := by decide +kernel
theorem d_Accepted_init_12 : decode c_Accepted_init 12 = .ok (.iconst 4, 1) := by decide +kernel
theorem d_Accepted_init_13 : decode c_Accepted_init 13 = .ok (.newarray .int, 2) := by decide +kernel
theorem d_Accepted_init_15 : decode c_Accepted_init 15 = .ok (.putfield 15, 3) := by decide +kernel
theorem d_Accepted_init_18 : decode c_Accepted_init 18 = .ok (.aload_n 0, 1) := by decide +kernel
theorem d_Accepted_init_19 : decode c_Accepted_init 19 = .ok (.iconst 0, 1) := by decide +kernel
theorem d_Accepted_init_20 : decode c_Accepted_init 20 = .ok (.putfield 18, 3) := by decide +kernel
theorem d_Accepted_init_23 : decode c_Accepted_init 23 = .ok (.return_, 1) := by decide +kernel
set_option maxHeartbeats 4000000 in
set_option maxRecDepth 100000 in
theorem sn_Accepted_init_0 {l : Launch} {Γ : gk_G} {p : Program} {e : Env} {s : State} {m : MethodId} {args : Array Value} {below : List Frame} {meth : Method} {c : Code} (B : gk_B p s m args meth c gk_Y Γ c_Accepted_init 1 "StageDispatcher$Accepted") (hr : meth.sig.returnType = none) (hin : meth.name = "<init>") {ρ : gk_M}   {a0 : Option Nat} {M : gk_M} (h : fn_Accepted_init  a0 M = some ρ) : Gk p l e rm_Accepted_init s m args below meth c gk_Y Γ 1 (MQ below (gk_Q gk_Y Γ none ρ) args s rm_Accepted_init.cells rm_Accepted_init.slots (fun q => Γ.2.2 ≤ q)) 0 0 M 0 [some (va_rf a0)] [] := by
  unfold fn_Accepted_init at h
  refine Gk_aload_n (i := 0) (r := a0) B d_Accepted_init_0 rfl rfl ?_
  obtain ⟨o1, h1, h⟩ := gk_bind h
  refine Gk_objInit B d_Accepted_init_1 tw_157 tw_62 tw_63 h1 (by decide) (by decide) ?_
  refine Gk_aload_n (i := 0) (r := a0) B d_Accepted_init_4 rfl rfl ?_
  refine Gk_iconst (v := 4) B d_Accepted_init_5 (by decide) ?_
  obtain ⟨M6, h6, h⟩ := gk_bind h
  refine Gk_newarray B d_Accepted_init_6 rfl ty_0 tw_151 rfl (by decide) h6 (by decide) (by decide) ?_
  obtain ⟨M8, h8, h⟩ := gk_bind h
  refine Gk_putF (j := 0) (ty := (.array .int)) B hin d_Accepted_init_8 in_Accepted t_Accepted t_Accepted_ok n_Accepted cl_Accepted (by decide) tw_158 rfl rfl rfl rfl (gk_nfa _ _) (gk_ffa _ _) h8 ?_
  refine Gk_aload_n (i := 0) (r := a0) B d_Accepted_init_11 rfl rfl ?_
  refine Gk_iconst (v := 4) B d_Accepted_init_12 (by decide) ?_
  obtain ⟨M13, h13, h⟩ := gk_bind h
  refine Gk_newarray B d_Accepted_init_13 rfl ty_0 tw_151 rfl (by decide) h13 (by decide) (by decide) ?_
  obtain ⟨M15, h15, h⟩ := gk_bind h
  refine Gk_putF (j := 1) (ty := (.array .int)) B hin d_Accepted_init_15 in_Accepted t_Accepted t_Accepted_ok n_Accepted cl_Accepted (by decide) tw_160 rfl rfl rfl rfl (gk_nfa _ _) (gk_ffa _ _) h15 ?_
  refine Gk_aload_n (i := 0) (r := a0) B d_Accepted_init_18 rfl rfl ?_
  refine Gk_iconst (v := 0) B d_Accepted_init_19 (by decide) ?_
  obtain ⟨M20, h20, h⟩ := gk_bind h
  refine Gk_put (j := 2) (ty := .int) B d_Accepted_init_20 in_Accepted t_Accepted t_Accepted_ok n_Accepted cl_Accepted (by decide) tw_161 rfl rfl rfl rfl rfl h20 ?_
  cases h
  exact Gk_vret B hr d_Accepted_init_23 (by decide) (by decide) rfl
theorem sn_Accepted_init {l : Launch} {Γ : gk_G} {a0 : Option Nat} {M : gk_M} {ρ : gk_M} (h : fn_Accepted_init a0 M = some ρ) : gk_Met l gk_Y Γ y_Accepted_init (.code y_Accepted_init c_Accepted_init 1 none :: gk_Y.2.2.2) rm_Accepted_init [va_rf a0] M none ρ :=
  gk_start (by decide) (by simp [lg_sl, gk_rc, gk_ic, gk_jc]) [some (va_rf a0)] (by simp [gk_as, lv_args, gk_rc, gk_ic, gk_jc]) (fun p e s m args below meth c B hr hin => sn_Accepted_init_0 B hr hin h)
theorem d_Fit_init_0 : decode c_Fit_init 0 = .ok (.aload_n 0, 1) := by decide +kernel
theorem d_Fit_init_1 : decode c_Fit_init 1 = .ok (.invokespecial 3, 3) := by decide +kernel
theorem d_Fit_init_4 : decode c_Fit_init 4 = .ok (.aload_n 0, 1) := by decide +kernel
theorem d_Fit_init_5 : decode c_Fit_init 5 = .ok (.bipush 25, 2) := by decide +kernel
theorem d_Fit_init_7 : decode c_Fit_init 7 = .ok (.newarray .int, 2) := by decide +kernel
theorem d_Fit_init_9 : decode c_Fit_init 9 = .ok (.putfield 9, 3) := by decide +kernel
theorem d_Fit_init_12 : decode c_Fit_init 12 = .ok (.aload_n 0, 1) := by decide +kernel
theorem d_Fit_init_13 : decode c_Fit_init 13 = .ok (.iconst 4, 1) := by decide +kernel
theorem d_Fit_init_14 : decode c_Fit_init 14 = .ok (.newarray .int, 2) := by decide +kernel
theorem d_Fit_init_16 : decode c_Fit_init 16 = .ok (.putfield 15, 3) := by decide +kernel
theorem d_Fit_init_19 : decode c_Fit_init 19 = .ok (.aload_n 0, 1) := by decide +kernel
theorem d_Fit_init_20 : decode c_Fit_init 20 = .ok (.iconst 4, 1) := by decide +kernel
theorem d_Fit_init_21 : decode c_Fit_init 21 = .ok (.newarray .int, 2) := by decide +kernel
theorem d_Fit_init_23 : decode c_Fit_init 23 = .ok (.putfield 18, 3) := by decide +kernel
theorem d_Fit_init_26 : decode c_Fit_init 26 = .ok (.aload_n 0, 1) := by decide +kernel
theorem d_Fit_init_27 : decode c_Fit_init 27 = .ok (.iconst 0, 1) := by decide +kernel
theorem d_Fit_init_28 : decode c_Fit_init 28 = .ok (.putfield 21, 3) := by decide +kernel
theorem d_Fit_init_31 : decode c_Fit_init 31 = .ok (.aload_n 0, 1) := by decide +kernel
theorem d_Fit_init_32 : decode c_Fit_init 32 = .ok (.iconst 0, 1) := by decide +kernel
theorem d_Fit_init_33 : decode c_Fit_init 33 = .ok (.putfield 25, 3) := by decide +kernel
theorem d_Fit_init_36 : decode c_Fit_init 36 = .ok (.return_, 1) := by decide +kernel
set_option maxHeartbeats 4000000 in
set_option maxRecDepth 100000 in
theorem sn_Fit_init_0 {l : Launch} {Γ : gk_G} {p : Program} {e : Env} {s : State} {m : MethodId} {args : Array Value} {below : List Frame} {meth : Method} {c : Code} (B : gk_B p s m args meth c gk_Y Γ c_Fit_init 1 "StageDispatcher$Fit") (hr : meth.sig.returnType = none) (hin : meth.name = "<init>") {ρ : gk_M}   {a0 : Option Nat} {M : gk_M} (h : fn_Fit_init  a0 M = some ρ) : Gk p l e rm_Fit_init s m args below meth c gk_Y Γ 1 (MQ below (gk_Q gk_Y Γ none ρ) args s rm_Fit_init.cells rm_Fit_init.slots (fun q => Γ.2.2 ≤ q)) 0 0 M 0 [some (va_rf a0)] [] := by
  unfold fn_Fit_init at h
  refine Gk_aload_n (i := 0) (r := a0) B d_Fit_init_0 rfl rfl ?_
  obtain ⟨o1, h1, h⟩ := gk_bind h
  refine Gk_objInit B d_Fit_init_1 tw_181 tw_62 tw_63 h1 (by decide) (by decide) ?_
  refine Gk_aload_n (i := 0) (r := a0) B d_Fit_init_4 rfl rfl ?_
  refine Gk_bipush (v := 25) B d_Fit_init_5 (by decide) ?_
  obtain ⟨M7, h7, h⟩ := gk_bind h
  refine Gk_newarray B d_Fit_init_7 rfl ty_0 tw_151 rfl (by decide) h7 (by decide) (by decide) ?_
  obtain ⟨M9, h9, h⟩ := gk_bind h
  refine Gk_putF (j := 0) (ty := (.array .int)) B hin d_Fit_init_9 in_Fit t_Fit t_Fit_ok n_Fit cl_Fit (by decide) tw_182 rfl rfl rfl rfl (gk_nfa _ _) (gk_ffa _ _) h9 ?_
  refine Gk_aload_n (i := 0) (r := a0) B d_Fit_init_12 rfl rfl ?_
  refine Gk_iconst (v := 4) B d_Fit_init_13 (by decide) ?_
  obtain ⟨M14, h14, h⟩ := gk_bind h
  refine Gk_newarray B d_Fit_init_14 rfl ty_0 tw_151 rfl (by decide) h14 (by decide) (by decide) ?_
  obtain ⟨M16, h16, h⟩ := gk_bind h
  refine Gk_putF (j := 1) (ty := (.array .int)) B hin d_Fit_init_16 in_Fit t_Fit t_Fit_ok n_Fit cl_Fit (by decide) tw_183 rfl rfl rfl rfl (gk_nfa _ _) (gk_ffa _ _) h16 ?_
  refine Gk_aload_n (i := 0) (r := a0) B d_Fit_init_19 rfl rfl ?_
  refine Gk_iconst (v := 4) B d_Fit_init_20 (by decide) ?_
  obtain ⟨M21, h21, h⟩ := gk_bind h
  refine Gk_newarray B d_Fit_init_21 rfl ty_0 tw_151 rfl (by decide) h21 (by decide) (by decide) ?_
  obtain ⟨M23, h23, h⟩ := gk_bind h
  refine Gk_putF (j := 2) (ty := (.array .int)) B hin d_Fit_init_23 in_Fit t_Fit t_Fit_ok n_Fit cl_Fit (by decide) tw_185 rfl rfl rfl rfl (gk_nfa _ _) (gk_ffa _ _) h23 ?_
  refine Gk_aload_n (i := 0) (r := a0) B d_Fit_init_26 rfl rfl ?_
  refine Gk_iconst (v := 0) B d_Fit_init_27 (by decide) ?_
  obtain ⟨M28, h28, h⟩ := gk_bind h
  refine Gk_put (j := 3) (ty := .int) B d_Fit_init_28 in_Fit t_Fit t_Fit_ok n_Fit cl_Fit (by decide) tw_187 rfl rfl rfl rfl rfl h28 ?_
  refine Gk_aload_n (i := 0) (r := a0) B d_Fit_init_31 rfl rfl ?_
  refine Gk_iconst (v := 0) B d_Fit_init_32 (by decide) ?_
  obtain ⟨M33, h33, h⟩ := gk_bind h
  refine Gk_put (j := 4) (ty := .int) B d_Fit_init_33 in_Fit t_Fit t_Fit_ok n_Fit cl_Fit (by decide) tw_189 rfl rfl rfl rfl rfl h33 ?_
  cases h
  exact Gk_vret B hr d_Fit_init_36 (by decide) (by decide) rfl
theorem sn_Fit_init {l : Launch} {Γ : gk_G} {a0 : Option Nat} {M : gk_M} {ρ : gk_M} (h : fn_Fit_init a0 M = some ρ) : gk_Met l gk_Y Γ y_Fit_init (.code y_Fit_init c_Fit_init 1 none :: gk_Y.2.2.2) rm_Fit_init [va_rf a0] M none ρ :=
  gk_start (by decide) (by simp [lg_sl, gk_rc, gk_ic, gk_jc]) [some (va_rf a0)] (by simp [gk_as, lv_args, gk_rc, gk_ic, gk_jc]) (fun p e s m args below meth c B hr hin => sn_Fit_init_0 B hr hin h)
theorem d_Route_init_0 : decode c_Route_init 0 = .ok (.aload_n 0, 1) := by decide +kernel
theorem d_Route_init_1 : decode c_Route_init 1 = .ok (.invokespecial 3, 3) := by decide +kernel
theorem d_Route_init_4 : decode c_Route_init 4 = .ok (.aload_n 0, 1) := by decide +kernel
theorem d_Route_init_5 : decode c_Route_init 5 = .ok (.new 9, 3) := by decide +kernel
theorem d_Route_init_8 : decode c_Route_init 8 = .ok (.dup, 1) := by decide +kernel
theorem d_Route_init_9 : decode c_Route_init 9 = .ok (.invokespecial 11, 3) := by decide +kernel
theorem d_Route_init_12 : decode c_Route_init 12 = .ok (.putfield 12, 3) := by decide +kernel
theorem d_Route_init_15 : decode c_Route_init 15 = .ok (.aload_n 0, 1) := by decide +kernel
theorem d_Route_init_16 : decode c_Route_init 16 = .ok (.iconst 0, 1) := by decide +kernel
theorem d_Route_init_17 : decode c_Route_init 17 = .ok (.putfield 18, 3) := by decide +kernel
theorem d_Route_init_20 : decode c_Route_init 20 = .ok (.aload_n 0, 1) := by decide +kernel
theorem d_Route_init_21 : decode c_Route_init 21 = .ok (.iconst 0, 1) := by decide +kernel
theorem d_Route_init_22 : decode c_Route_init 22 = .ok (.putfield 22, 3) := by decide +kernel
theorem d_Route_init_25 : decode c_Route_init 25 = .ok (.aload_n 0, 1) := by decide +kernel
theorem d_Route_init_26 : decode c_Route_init 26 = .ok (.iconst 0, 1) := by decide +kernel
theorem d_Route_init_27 : decode c_Route_init 27 = .ok (.putfield 25, 3) := by decide +kernel
theorem d_Route_init_30 : decode c_Route_init 30 = .ok (.return_, 1) := by decide +kernel
set_option maxHeartbeats 4000000 in
set_option maxRecDepth 100000 in
theorem sn_Route_init_0 {l : Launch} {Γ : gk_G} {p : Program} {e : Env} {s : State} {m : MethodId} {args : Array Value} {below : List Frame} {meth : Method} {c : Code} (B : gk_B p s m args meth c gk_Y Γ c_Route_init 1 "StageDispatcher$Route") (hr : meth.sig.returnType = none) (hin : meth.name = "<init>") {ρ : gk_M}   {a0 : Option Nat} {M : gk_M} (h : fn_Route_init  a0 M = some ρ) : Gk p l e rm_Route_init s m args below meth c gk_Y Γ 1 (MQ below (gk_Q gk_Y Γ none ρ) args s rm_Route_init.cells rm_Route_init.slots (fun q => Γ.2.2 ≤ q)) 0 0 M 0 [some (va_rf a0)] [] := by
  unfold fn_Route_init at h
  refine Gk_aload_n (i := 0) (r := a0) B d_Route_init_0 rfl rfl ?_
  obtain ⟨o1, h1, h⟩ := gk_bind h
  refine Gk_objInit B d_Route_init_1 tw_175 tw_62 tw_63 h1 (by decide) (by decide) ?_
  refine Gk_aload_n (i := 0) (r := a0) B d_Route_init_4 rfl rfl ?_
  refine Gk_new B d_Route_init_5 in_Fit t_Fit t_Fit_ok tw_176 tw_177 tw_46 cl_Fit df_Fit_ok (by decide) (by decide) ?_
  refine Gk_dup B d_Route_init_8 (gk_rc _) ?_
  obtain ⟨o9, g9, h⟩ := gk_bind h
  obtain ⟨w9, h9, h⟩ := gk_bind h
  refine Gk_callIN (As := []) (rest := [va_rf (some M.2), va_rf a0]) (st1 := [va_rf (some M.2), va_rf a0]) (k1 := 4) (n1 := 38) B gk_hG d_Route_init_9 (sn_Fit_init h9) g9 rfl tw_180 nw_178 tw_179 tw_46 nm_Fit_init rfl (by simp [gk_rc, gk_ic, gk_jc, rm_Route_init]) ⟨by decide, by decide⟩ ⟨by decide, by decide⟩ rfl rfl rfl rfl ?_
  obtain ⟨M12, h12, h⟩ := gk_bind h
  refine Gk_putF (j := 0) (ty := (.object "StageDispatcher$Fit")) B hin d_Route_init_12 in_Route t_Route t_Route_ok n_Route cl_Route (by decide) tw_202 rfl rfl rfl rfl (gk_nfo _ _) (gk_ffo _ _) h12 ?_
  refine Gk_aload_n (i := 0) (r := a0) B d_Route_init_15 rfl rfl ?_
  refine Gk_iconst (v := 0) B d_Route_init_16 (by decide) ?_
  obtain ⟨M17, h17, h⟩ := gk_bind h
  refine Gk_put (j := 1) (ty := .int) B d_Route_init_17 in_Route t_Route t_Route_ok n_Route cl_Route (by decide) tw_203 rfl rfl rfl rfl rfl h17 ?_
  refine Gk_aload_n (i := 0) (r := a0) B d_Route_init_20 rfl rfl ?_
  refine Gk_iconst (v := 0) B d_Route_init_21 (by decide) ?_
  obtain ⟨M22, h22, h⟩ := gk_bind h
  refine Gk_put (j := 2) (ty := .int) B d_Route_init_22 in_Route t_Route t_Route_ok n_Route cl_Route (by decide) tw_204 rfl rfl rfl rfl rfl h22 ?_
  refine Gk_aload_n (i := 0) (r := a0) B d_Route_init_25 rfl rfl ?_
  refine Gk_iconst (v := 0) B d_Route_init_26 (by decide) ?_
  obtain ⟨M27, h27, h⟩ := gk_bind h
  refine Gk_put (j := 3) (ty := .int) B d_Route_init_27 in_Route t_Route t_Route_ok n_Route cl_Route (by decide) tw_205 rfl rfl rfl rfl rfl h27 ?_
  cases h
  exact Gk_vret B hr d_Route_init_30 (by decide) (by decide) rfl
theorem sn_Route_init {l : Launch} {Γ : gk_G} {a0 : Option Nat} {M : gk_M} {ρ : gk_M} (h : fn_Route_init a0 M = some ρ) : gk_Met l gk_Y Γ y_Route_init (.code y_Route_init c_Route_init 1 none :: gk_Y.2.2.2) rm_Route_init [va_rf a0] M none ρ :=
  gk_start (by decide) (by simp [lg_sl, gk_rc, gk_ic, gk_jc]) [some (va_rf a0)] (by simp [gk_as, lv_args, gk_rc, gk_ic, gk_jc]) (fun p e s m args below meth c B hr hin => sn_Route_init_0 B hr hin h)
theorem d_Outcome_init_0 : decode c_Outcome_init 0 = .ok (.aload_n 0, 1) := by decide +kernel
theorem d_Outcome_init_1 : decode c_Outcome_init 1 = .ok (.invokespecial 3, 3) := by decide +kernel
theorem d_Outcome_init_4 : decode c_Outcome_init 4 = .ok (.aload_n 0, 1) := by decide +kernel
theorem d_Outcome_init_5 : decode c_Outcome_init 5 = .ok (.new 9, 3) := by decide +kernel
theorem d_Outcome_init_8 : decode c_Outcome_init 8 = .ok (.dup, 1) := by decide +kernel
theorem d_Outcome_init_9 : decode c_Outcome_init 9 = .ok (.invokespecial 11, 3) := by decide +kernel
theorem d_Outcome_init_12 : decode c_Outcome_init 12 = .ok (.putfield 12, 3) := by decide +kernel
theorem d_Outcome_init_15 : decode c_Outcome_init 15 = .ok (.aload_n 0, 1) := by decide +kernel
theorem d_Outcome_init_16 : decode c_Outcome_init 16 = .ok (.bipush 24, 2) := by decide +kernel
theorem d_Outcome_init_18 : decode c_Outcome_init 18 = .ok (.newarray .int, 2) := by decide +kernel
theorem d_Outcome_init_20 : decode c_Outcome_init 20 = .ok (.putfield 18, 3) := by decide +kernel
theorem d_Outcome_init_23 : decode c_Outcome_init 23 = .ok (.aload_n 0, 1) := by decide +kernel
theorem d_Outcome_init_24 : decode c_Outcome_init 24 = .ok (.bipush 104, 2) := by decide +kernel
theorem d_Outcome_init_26 : decode c_Outcome_init 26 = .ok (.newarray .int, 2) := by decide +kernel
theorem d_Outcome_init_28 : decode c_Outcome_init 28 = .ok (.putfield 22, 3) := by decide +kernel
theorem d_Outcome_init_31 : decode c_Outcome_init 31 = .ok (.aload_n 0, 1) := by decide +kernel
theorem d_Outcome_init_32 : decode c_Outcome_init 32 = .ok (.bipush 104, 2) := by decide +kernel
theorem d_Outcome_init_34 : decode c_Outcome_init 34 = .ok (.newarray .int, 2) := by decide +kernel
theorem d_Outcome_init_36 : decode c_Outcome_init 36 = .ok (.putfield 25, 3) := by decide +kernel
theorem d_Outcome_init_39 : decode c_Outcome_init 39 = .ok (.aload_n 0, 1) := by decide +kernel
theorem d_Outcome_init_40 : decode c_Outcome_init 40 = .ok (.bipush 8, 2) := by decide +kernel
theorem d_Outcome_init_42 : decode c_Outcome_init 42 = .ok (.newarray .int, 2) := by decide +kernel
theorem d_Outcome_init_44 : decode c_Outcome_init 44 = .ok (.putfield 28, 3) := by decide +kernel
theorem d_Outcome_init_47 : decode c_Outcome_init 47 = .ok (.aload_n 0, 1) := by decide +kernel
theorem d_Outcome_init_48 : decode c_Outcome_init 48 = .ok (.iconst 0, 1) := by decide +kernel
theorem d_Outcome_init_49 : decode c_Outcome_init 49 = .ok (.putfield 31, 3) := by decide +kernel
theorem d_Outcome_init_52 : decode c_Outcome_init 52 = .ok (.aload_n 0, 1) := by decide +kernel
theorem d_Outcome_init_53 : decode c_Outcome_init 53 = .ok (.iconst 0, 1) := by decide +kernel
theorem d_Outcome_init_54 : decode c_Outcome_init 54 = .ok (.putfield 35, 3) := by decide +kernel
theorem d_Outcome_init_57 : decode c_Outcome_init 57 = .ok (.aload_n 0, 1) := by decide +kernel
theorem d_Outcome_init_58 : decode c_Outcome_init 58 = .ok (.iconst 0, 1) := by decide +kernel
theorem d_Outcome_init_59 : decode c_Outcome_init 59 = .ok (.putfield 38, 3) := by decide +kernel
theorem d_Outcome_init_62 : decode c_Outcome_init 62 = .ok (.aload_n 0, 1) := by decide +kernel
theorem d_Outcome_init_63 : decode c_Outcome_init 63 = .ok (.iconst (-1), 1) := by decide +kernel
theorem d_Outcome_init_64 : decode c_Outcome_init 64 = .ok (.putfield 41, 3) := by decide +kernel
theorem d_Outcome_init_67 : decode c_Outcome_init 67 = .ok (.aload_n 0, 1) := by decide +kernel
theorem d_Outcome_init_68 : decode c_Outcome_init 68 = .ok (.iconst (-1), 1) := by decide +kernel
theorem d_Outcome_init_69 : decode c_Outcome_init 69 = .ok (.putfield 44, 3) := by decide +kernel
theorem d_Outcome_init_72 : decode c_Outcome_init 72 = .ok (.aload_n 0, 1) := by decide +kernel
theorem d_Outcome_init_73 : decode c_Outcome_init 73 = .ok (.iconst 0, 1) := by decide +kernel
theorem d_Outcome_init_74 : decode c_Outcome_init 74 = .ok (.putfield 47, 3) := by decide +kernel
theorem d_Outcome_init_77 : decode c_Outcome_init 77 = .ok (.aload_n 0, 1) := by decide +kernel
theorem d_Outcome_init_78 : decode c_Outcome_init 78 = .ok (.iconst 0, 1) := by decide +kernel
theorem d_Outcome_init_79 : decode c_Outcome_init 79 = .ok (.putfield 50, 3) := by decide +kernel
theorem d_Outcome_init_82 : decode c_Outcome_init 82 = .ok (.aload_n 0, 1) := by decide +kernel
theorem d_Outcome_init_83 : decode c_Outcome_init 83 = .ok (.iconst (-1), 1) := by decide +kernel
theorem d_Outcome_init_84 : decode c_Outcome_init 84 = .ok (.putfield 53, 3) := by decide +kernel
theorem d_Outcome_init_87 : decode c_Outcome_init 87 = .ok (.return_, 1) := by decide +kernel
set_option maxHeartbeats 4000000 in
set_option maxRecDepth 100000 in
theorem sn_Outcome_init_0 {l : Launch} {Γ : gk_G} {p : Program} {e : Env} {s : State} {m : MethodId} {args : Array Value} {below : List Frame} {meth : Method} {c : Code} (B : gk_B p s m args meth c gk_Y Γ c_Outcome_init 1 "StageDispatcher$Outcome") (hr : meth.sig.returnType = none) (hin : meth.name = "<init>") {ρ : gk_M}   {a0 : Option Nat} {M : gk_M} (h : fn_Outcome_init  a0 M = some ρ) : Gk p l e rm_Outcome_init s m args below meth c gk_Y Γ 1 (MQ below (gk_Q gk_Y Γ none ρ) args s rm_Outcome_init.cells rm_Outcome_init.slots (fun q => Γ.2.2 ≤ q)) 0 0 M 0 [some (va_rf a0)] [] := by
  unfold fn_Outcome_init at h
  refine Gk_aload_n (i := 0) (r := a0) B d_Outcome_init_0 rfl rfl ?_
  obtain ⟨o1, h1, h⟩ := gk_bind h
  refine Gk_objInit B d_Outcome_init_1 tw_221 tw_62 tw_63 h1 (by decide) (by decide) ?_
  refine Gk_aload_n (i := 0) (r := a0) B d_Outcome_init_4 rfl rfl ?_
  refine Gk_new B d_Outcome_init_5 in_Text t_Text t_Text_ok tw_222 tw_65 tw_41 cl_Text df_Text_ok (by decide) (by decide) ?_
  refine Gk_dup B d_Outcome_init_8 (gk_rc _) ?_
  obtain ⟨o9, g9, h⟩ := gk_bind h
  obtain ⟨w9, h9, h⟩ := gk_bind h
  refine Gk_callIN (As := []) (rest := [va_rf (some M.2), va_rf a0]) (st1 := [va_rf (some M.2), va_rf a0]) (k1 := 2) (n1 := 26) B gk_hG d_Outcome_init_9 (sn_Text_init h9) g9 rfl tw_68 nw_223 tw_67 tw_41 nm_Text_init rfl (by simp [gk_rc, gk_ic, gk_jc, rm_Outcome_init]) ⟨by decide, by decide⟩ ⟨by decide, by decide⟩ rfl rfl rfl rfl ?_
  obtain ⟨M12, h12, h⟩ := gk_bind h
  refine Gk_putF (j := 0) (ty := (.object "StageDispatcher$Text")) B hin d_Outcome_init_12 in_Outcome t_Outcome t_Outcome_ok n_Outcome cl_Outcome (by decide) tw_224 rfl rfl rfl rfl (gk_nfo _ _) (gk_ffo _ _) h12 ?_
  refine Gk_aload_n (i := 0) (r := a0) B d_Outcome_init_15 rfl rfl ?_
  refine Gk_bipush (v := 24) B d_Outcome_init_16 (by decide) ?_
  obtain ⟨M18, h18, h⟩ := gk_bind h
  refine Gk_newarray B d_Outcome_init_18 rfl ty_0 tw_151 rfl (by decide) h18 (by decide) (by decide) ?_
  obtain ⟨M20, h20, h⟩ := gk_bind h
  refine Gk_putF (j := 1) (ty := (.array .int)) B hin d_Outcome_init_20 in_Outcome t_Outcome t_Outcome_ok n_Outcome cl_Outcome (by decide) tw_227 rfl rfl rfl rfl (gk_nfa _ _) (gk_ffa _ _) h20 ?_
  refine Gk_aload_n (i := 0) (r := a0) B d_Outcome_init_23 rfl rfl ?_
  refine Gk_bipush (v := 104) B d_Outcome_init_24 (by decide) ?_
  obtain ⟨M26, h26, h⟩ := gk_bind h
  refine Gk_newarray B d_Outcome_init_26 rfl ty_0 tw_151 rfl (by decide) h26 (by decide) (by decide) ?_
  obtain ⟨M28, h28, h⟩ := gk_bind h
  refine Gk_putF (j := 2) (ty := (.array .int)) B hin d_Outcome_init_28 in_Outcome t_Outcome t_Outcome_ok n_Outcome cl_Outcome (by decide) tw_229 rfl rfl rfl rfl (gk_nfa _ _) (gk_ffa _ _) h28 ?_
  refine Gk_aload_n (i := 0) (r := a0) B d_Outcome_init_31 rfl rfl ?_
  refine Gk_bipush (v := 104) B d_Outcome_init_32 (by decide) ?_
  obtain ⟨M34, h34, h⟩ := gk_bind h
  refine Gk_newarray B d_Outcome_init_34 rfl ty_0 tw_151 rfl (by decide) h34 (by decide) (by decide) ?_
  obtain ⟨M36, h36, h⟩ := gk_bind h
  refine Gk_putF (j := 3) (ty := (.array .int)) B hin d_Outcome_init_36 in_Outcome t_Outcome t_Outcome_ok n_Outcome cl_Outcome (by decide) tw_231 rfl rfl rfl rfl (gk_nfa _ _) (gk_ffa _ _) h36 ?_
  refine Gk_aload_n (i := 0) (r := a0) B d_Outcome_init_39 rfl rfl ?_
  refine Gk_bipush (v := 8) B d_Outcome_init_40 (by decide) ?_
  obtain ⟨M42, h42, h⟩ := gk_bind h
  refine Gk_newarray B d_Outcome_init_42 rfl ty_0 tw_151 rfl (by decide) h42 (by decide) (by decide) ?_
  obtain ⟨M44, h44, h⟩ := gk_bind h
  refine Gk_putF (j := 4) (ty := (.array .int)) B hin d_Outcome_init_44 in_Outcome t_Outcome t_Outcome_ok n_Outcome cl_Outcome (by decide) tw_233 rfl rfl rfl rfl (gk_nfa _ _) (gk_ffa _ _) h44 ?_
  refine Gk_aload_n (i := 0) (r := a0) B d_Outcome_init_47 rfl rfl ?_
  refine Gk_iconst (v := 0) B d_Outcome_init_48 (by decide) ?_
  obtain ⟨M49, h49, h⟩ := gk_bind h
  refine Gk_put (j := 5) (ty := .int) B d_Outcome_init_49 in_Outcome t_Outcome t_Outcome_ok n_Outcome cl_Outcome (by decide) tw_235 rfl rfl rfl rfl rfl h49 ?_
  refine Gk_aload_n (i := 0) (r := a0) B d_Outcome_init_52 rfl rfl ?_
  refine Gk_iconst (v := 0) B d_Outcome_init_53 (by decide) ?_
  obtain ⟨M54, h54, h⟩ := gk_bind h
  refine Gk_put (j := 6) (ty := .int) B d_Outcome_init_54 in_Outcome t_Outcome t_Outcome_ok n_Outcome cl_Outcome (by decide) tw_237 rfl rfl rfl rfl rfl h54 ?_
  refine Gk_aload_n (i := 0) (r := a0) B d_Outcome_init_57 rfl rfl ?_
  refine Gk_iconst (v := 0) B d_Outcome_init_58 (by decide) ?_
  obtain ⟨M59, h59, h⟩ := gk_bind h
  refine Gk_put (j := 7) (ty := .int) B d_Outcome_init_59 in_Outcome t_Outcome t_Outcome_ok n_Outcome cl_Outcome (by decide) tw_239 rfl rfl rfl rfl rfl h59 ?_
  refine Gk_aload_n (i := 0) (r := a0) B d_Outcome_init_62 rfl rfl ?_
  refine Gk_iconst (v := (-1)) B d_Outcome_init_63 (by decide) ?_
  obtain ⟨M64, h64, h⟩ := gk_bind h
  refine Gk_put (j := 8) (ty := .int) B d_Outcome_init_64 in_Outcome t_Outcome t_Outcome_ok n_Outcome cl_Outcome (by decide) tw_241 rfl rfl rfl rfl rfl h64 ?_
  refine Gk_aload_n (i := 0) (r := a0) B d_Outcome_init_67 rfl rfl ?_
  refine Gk_iconst (v := (-1)) B d_Outcome_init_68 (by decide) ?_
  obtain ⟨M69, h69, h⟩ := gk_bind h
  refine Gk_put (j := 9) (ty := .int) B d_Outcome_init_69 in_Outcome t_Outcome t_Outcome_ok n_Outcome cl_Outcome (by decide) tw_243 rfl rfl rfl rfl rfl h69 ?_
  refine Gk_aload_n (i := 0) (r := a0) B d_Outcome_init_72 rfl rfl ?_
  refine Gk_iconst (v := 0) B d_Outcome_init_73 (by decide) ?_
  obtain ⟨M74, h74, h⟩ := gk_bind h
  refine Gk_put (j := 10) (ty := .int) B d_Outcome_init_74 in_Outcome t_Outcome t_Outcome_ok n_Outcome cl_Outcome (by decide) tw_245 rfl rfl rfl rfl rfl h74 ?_
  refine Gk_aload_n (i := 0) (r := a0) B d_Outcome_init_77 rfl rfl ?_
  refine Gk_iconst (v := 0) B d_Outcome_init_78 (by decide) ?_
  obtain ⟨M79, h79, h⟩ := gk_bind h
  refine Gk_put (j := 11) (ty := .int) B d_Outcome_init_79 in_Outcome t_Outcome t_Outcome_ok n_Outcome cl_Outcome (by decide) tw_247 rfl rfl rfl rfl rfl h79 ?_
  refine Gk_aload_n (i := 0) (r := a0) B d_Outcome_init_82 rfl rfl ?_
  refine Gk_iconst (v := (-1)) B d_Outcome_init_83 (by decide) ?_
  obtain ⟨M84, h84, h⟩ := gk_bind h
  refine Gk_put (j := 12) (ty := .int) B d_Outcome_init_84 in_Outcome t_Outcome t_Outcome_ok n_Outcome cl_Outcome (by decide) tw_249 rfl rfl rfl rfl rfl h84 ?_
  cases h
  exact Gk_vret B hr d_Outcome_init_87 (by decide) (by decide) rfl
theorem sn_Outcome_init {l : Launch} {Γ : gk_G} {a0 : Option Nat} {M : gk_M} {ρ : gk_M} (h : fn_Outcome_init a0 M = some ρ) : gk_Met l gk_Y Γ y_Outcome_init (.code y_Outcome_init c_Outcome_init 1 none :: gk_Y.2.2.2) rm_Outcome_init [va_rf a0] M none ρ :=
  gk_start (by decide) (by simp [lg_sl, gk_rc, gk_ic, gk_jc]) [some (va_rf a0)] (by simp [gk_as, lv_args, gk_rc, gk_ic, gk_jc]) (fun p e s m args below meth c B hr hin => sn_Outcome_init_0 B hr hin h)
theorem d_SD_init_0 : decode c_SD_init 0 = .ok (.aload_n 0, 1) := by decide +kernel
theorem d_SD_init_1 : decode c_SD_init 1 = .ok (.invokespecial 1, 3) := by decide +kernel
theorem d_SD_init_4 : decode c_SD_init 4 = .ok (.aload_n 0, 1) := by decide +kernel
theorem d_SD_init_5 : decode c_SD_init 5 = .ok (.new 7, 3) := by decide +kernel
theorem d_SD_init_8 : decode c_SD_init 8 = .ok (.dup, 1) := by decide +kernel
theorem d_SD_init_9 : decode c_SD_init 9 = .ok (.invokespecial 9, 3) := by decide +kernel
theorem d_SD_init_12 : decode c_SD_init 12 = .ok (.putfield 10, 3) := by decide +kernel
theorem d_SD_init_15 : decode c_SD_init 15 = .ok (.aload_n 0, 1) := by decide +kernel
theorem d_SD_init_16 : decode c_SD_init 16 = .ok (.new 16, 3) := by decide +kernel
theorem d_SD_init_19 : decode c_SD_init 19 = .ok (.dup, 1) := by decide +kernel
theorem d_SD_init_20 : decode c_SD_init 20 = .ok (.invokespecial 18, 3) := by decide +kernel
theorem d_SD_init_23 : decode c_SD_init 23 = .ok (.putfield 19, 3) := by decide +kernel
theorem d_SD_init_26 : decode c_SD_init 26 = .ok (.aload_n 0, 1) := by decide +kernel
theorem d_SD_init_27 : decode c_SD_init 27 = .ok (.new 23, 3) := by decide +kernel
theorem d_SD_init_30 : decode c_SD_init 30 = .ok (.dup, 1) := by decide +kernel
theorem d_SD_init_31 : decode c_SD_init 31 = .ok (.invokespecial 25, 3) := by decide +kernel
theorem d_SD_init_34 : decode c_SD_init 34 = .ok (.putfield 26, 3) := by decide +kernel
theorem d_SD_init_37 : decode c_SD_init 37 = .ok (.aload_n 0, 1) := by decide +kernel
theorem d_SD_init_38 : decode c_SD_init 38 = .ok (.new 30, 3) := by decide +kernel
theorem d_SD_init_41 : decode c_SD_init 41 = .ok (.dup, 1) := by decide +kernel
theorem d_SD_init_42 : decode c_SD_init 42 = .ok (.invokespecial 32, 3) := by decide +kernel
theorem d_SD_init_45 : decode c_SD_init 45 = .ok (.putfield 33, 3) := by decide +kernel
theorem d_SD_init_48 : decode c_SD_init 48 = .ok (.aload_n 0, 1) := by decide +kernel
theorem d_SD_init_49 : decode c_SD_init 49 = .ok (.new 37, 3) := by decide +kernel
theorem d_SD_init_52 : decode c_SD_init 52 = .ok (.dup, 1) := by decide +kernel
theorem d_SD_init_53 : decode c_SD_init 53 = .ok (.invokespecial 39, 3) := by decide +kernel
theorem d_SD_init_56 : decode c_SD_init 56 = .ok (.putfield 40, 3) := by decide +kernel
theorem d_SD_init_59 : decode c_SD_init 59 = .ok (.aload_n 0, 1) := by decide +kernel
theorem d_SD_init_60 : decode c_SD_init 60 = .ok (.new 44, 3) := by decide +kernel
theorem d_SD_init_63 : decode c_SD_init 63 = .ok (.dup, 1) := by decide +kernel
theorem d_SD_init_64 : decode c_SD_init 64 = .ok (.invokespecial 46, 3) := by decide +kernel
theorem d_SD_init_67 : decode c_SD_init 67 = .ok (.putfield 47, 3) := by decide +kernel
theorem d_SD_init_70 : decode c_SD_init 70 = .ok (.aload_n 0, 1) := by decide +kernel
theorem d_SD_init_71 : decode c_SD_init 71 = .ok (.bipush 16, 2) := by decide +kernel
theorem d_SD_init_73 : decode c_SD_init 73 = .ok (.newarray .int, 2) := by decide +kernel
theorem d_SD_init_75 : decode c_SD_init 75 = .ok (.putfield 51, 3) := by decide +kernel
theorem d_SD_init_78 : decode c_SD_init 78 = .ok (.return_, 1) := by decide +kernel
set_option maxHeartbeats 4000000 in
set_option maxRecDepth 100000 in
theorem sn_SD_init_0 {l : Launch} {Γ : gk_G} {p : Program} {e : Env} {s : State} {m : MethodId} {args : Array Value} {below : List Frame} {meth : Method} {c : Code} (B : gk_B p s m args meth c gk_Y Γ c_SD_init 1 "StageDispatcher") (hr : meth.sig.returnType = none) (hin : meth.name = "<init>") {ρ : gk_M}   {a0 : Option Nat} {M : gk_M} (h : fn_SD_init  a0 M = some ρ) : Gk p l e rm_SD_init s m args below meth c gk_Y Γ 1 (MQ below (gk_Q gk_Y Γ none ρ) args s rm_SD_init.cells rm_SD_init.slots (fun q => Γ.2.2 ≤ q)) 0 0 M 0 [some (va_rf a0)] [] := by
  unfold fn_SD_init at h
  refine Gk_aload_n (i := 0) (r := a0) B d_SD_init_0 rfl rfl ?_
  obtain ⟨o1, h1, h⟩ := gk_bind h
  refine Gk_objInit B d_SD_init_1 tw_61 tw_62 tw_63 h1 (by decide) (by decide) ?_
  refine Gk_aload_n (i := 0) (r := a0) B d_SD_init_4 rfl rfl ?_
  refine Gk_new B d_SD_init_5 in_Text t_Text t_Text_ok tw_64 tw_65 tw_41 cl_Text df_Text_ok (by decide) (by decide) ?_
  refine Gk_dup B d_SD_init_8 (gk_rc _) ?_
  obtain ⟨o9, g9, h⟩ := gk_bind h
  obtain ⟨w9, h9, h⟩ := gk_bind h
  refine Gk_callIN (As := []) (rest := [va_rf (some M.2), va_rf a0]) (st1 := [va_rf (some M.2), va_rf a0]) (k1 := 2) (n1 := 26) B gk_hG d_SD_init_9 (sn_Text_init h9) g9 rfl tw_68 nw_66 tw_67 tw_41 nm_Text_init rfl (by simp [gk_rc, gk_ic, gk_jc, rm_SD_init]) ⟨by decide, by decide⟩ ⟨by decide, by decide⟩ rfl rfl rfl rfl ?_
  obtain ⟨M12, h12, h⟩ := gk_bind h
  refine Gk_putF (j := 0) (ty := (.object "StageDispatcher$Text")) B hin d_SD_init_12 in_SD t_SD t_SD_ok n_SD cl_SD (by decide) tw_278 rfl rfl rfl rfl (gk_nfo _ _) (gk_ffo _ _) h12 ?_
  refine Gk_aload_n (i := 0) (r := a0) B d_SD_init_15 rfl rfl ?_
  refine Gk_new B d_SD_init_16 in_Catalog t_Catalog t_Catalog_ok tw_85 tw_86 tw_42 cl_Catalog df_Catalog_ok (by decide) (by decide) ?_
  refine Gk_dup B d_SD_init_19 (gk_rc _) ?_
  obtain ⟨o20, g20, h⟩ := gk_bind h
  obtain ⟨w20, h20, h⟩ := gk_bind h
  refine Gk_callIN (As := []) (rest := [va_rf (some M12.2), va_rf a0]) (st1 := [va_rf (some M12.2), va_rf a0]) (k1 := 6) (n1 := 58) B gk_hG d_SD_init_20 (sn_Catalog_init h20) g20 rfl tw_89 nw_87 tw_88 tw_42 nm_Catalog_init rfl (by simp [gk_rc, gk_ic, gk_jc, rm_SD_init]) ⟨by decide, by decide⟩ ⟨by decide, by decide⟩ rfl rfl rfl rfl ?_
  obtain ⟨M23, h23, h⟩ := gk_bind h
  refine Gk_putF (j := 1) (ty := (.object "StageDispatcher$Catalog")) B hin d_SD_init_23 in_SD t_SD t_SD_ok n_SD cl_SD (by decide) tw_279 rfl rfl rfl rfl (gk_nfo _ _) (gk_ffo _ _) h23 ?_
  refine Gk_aload_n (i := 0) (r := a0) B d_SD_init_26 rfl rfl ?_
  refine Gk_new B d_SD_init_27 in_FilterChain t_FilterChain t_FilterChain_ok tw_126 tw_127 tw_43 cl_FilterChain df_FilterChain_ok (by decide) (by decide) ?_
  refine Gk_dup B d_SD_init_30 (gk_rc _) ?_
  obtain ⟨o31, g31, h⟩ := gk_bind h
  obtain ⟨w31, h31, h⟩ := gk_bind h
  refine Gk_callIN (As := []) (rest := [va_rf (some M23.2), va_rf a0]) (st1 := [va_rf (some M23.2), va_rf a0]) (k1 := 10) (n1 := 86) B gk_hG d_SD_init_31 (sn_FilterChain_init h31) g31 rfl tw_130 nw_128 tw_129 tw_43 nm_FilterChain_init rfl (by simp [gk_rc, gk_ic, gk_jc, rm_SD_init]) ⟨by decide, by decide⟩ ⟨by decide, by decide⟩ rfl rfl rfl rfl ?_
  obtain ⟨M34, h34, h⟩ := gk_bind h
  refine Gk_putF (j := 2) (ty := (.object "StageDispatcher$FilterChain")) B hin d_SD_init_34 in_SD t_SD t_SD_ok n_SD cl_SD (by decide) tw_280 rfl rfl rfl rfl (gk_nfo _ _) (gk_ffo _ _) h34 ?_
  refine Gk_aload_n (i := 0) (r := a0) B d_SD_init_37 rfl rfl ?_
  refine Gk_new B d_SD_init_38 in_Accepted t_Accepted t_Accepted_ok tw_152 tw_153 tw_44 cl_Accepted df_Accepted_ok (by decide) (by decide) ?_
  refine Gk_dup B d_SD_init_41 (gk_rc _) ?_
  obtain ⟨o42, g42, h⟩ := gk_bind h
  obtain ⟨w42, h42, h⟩ := gk_bind h
  refine Gk_callIN (As := []) (rest := [va_rf (some M34.2), va_rf a0]) (st1 := [va_rf (some M34.2), va_rf a0]) (k1 := 13) (n1 := 97) B gk_hG d_SD_init_42 (sn_Accepted_init h42) g42 rfl tw_156 nw_154 tw_155 tw_44 nm_Accepted_init rfl (by simp [gk_rc, gk_ic, gk_jc, rm_SD_init]) ⟨by decide, by decide⟩ ⟨by decide, by decide⟩ rfl rfl rfl rfl ?_
  obtain ⟨M45, h45, h⟩ := gk_bind h
  refine Gk_putF (j := 3) (ty := (.object "StageDispatcher$Accepted")) B hin d_SD_init_45 in_SD t_SD t_SD_ok n_SD cl_SD (by decide) tw_281 rfl rfl rfl rfl (gk_nfo _ _) (gk_ffo _ _) h45 ?_
  refine Gk_aload_n (i := 0) (r := a0) B d_SD_init_48 rfl rfl ?_
  refine Gk_new B d_SD_init_49 in_Route t_Route t_Route_ok tw_170 tw_171 tw_45 cl_Route df_Route_ok (by decide) (by decide) ?_
  refine Gk_dup B d_SD_init_52 (gk_rc _) ?_
  obtain ⟨o53, g53, h⟩ := gk_bind h
  obtain ⟨w53, h53, h⟩ := gk_bind h
  refine Gk_callIN (As := []) (rest := [va_rf (some M45.2), va_rf a0]) (st1 := [va_rf (some M45.2), va_rf a0]) (k1 := 18) (n1 := 139) B gk_hG d_SD_init_53 (sn_Route_init h53) g53 rfl tw_174 nw_172 tw_173 tw_45 nm_Route_init rfl (by simp [gk_rc, gk_ic, gk_jc, rm_SD_init]) ⟨by decide, by decide⟩ ⟨by decide, by decide⟩ rfl rfl rfl rfl ?_
  obtain ⟨M56, h56, h⟩ := gk_bind h
  refine Gk_putF (j := 4) (ty := (.object "StageDispatcher$Route")) B hin d_SD_init_56 in_SD t_SD t_SD_ok n_SD cl_SD (by decide) tw_282 rfl rfl rfl rfl (gk_nfo _ _) (gk_ffo _ _) h56 ?_
  refine Gk_aload_n (i := 0) (r := a0) B d_SD_init_59 rfl rfl ?_
  refine Gk_new B d_SD_init_60 in_Outcome t_Outcome t_Outcome_ok tw_216 tw_217 tw_47 cl_Outcome df_Outcome_ok (by decide) (by decide) ?_
  refine Gk_dup B d_SD_init_63 (gk_rc _) ?_
  obtain ⟨o64, g64, h⟩ := gk_bind h
  obtain ⟨w64, h64, h⟩ := gk_bind h
  refine Gk_callIN (As := []) (rest := [va_rf (some M56.2), va_rf a0]) (st1 := [va_rf (some M56.2), va_rf a0]) (k1 := 25) (n1 := 418) B gk_hG d_SD_init_64 (sn_Outcome_init h64) g64 rfl tw_220 nw_218 tw_219 tw_47 nm_Outcome_init rfl (by simp [gk_rc, gk_ic, gk_jc, rm_SD_init]) ⟨by decide, by decide⟩ ⟨by decide, by decide⟩ rfl rfl rfl rfl ?_
  obtain ⟨M67, h67, h⟩ := gk_bind h
  refine Gk_putF (j := 5) (ty := (.object "StageDispatcher$Outcome")) B hin d_SD_init_67 in_SD t_SD t_SD_ok n_SD cl_SD (by decide) tw_283 rfl rfl rfl rfl (gk_nfo _ _) (gk_ffo _ _) h67 ?_
  refine Gk_aload_n (i := 0) (r := a0) B d_SD_init_70 rfl rfl ?_
  refine Gk_bipush (v := 16) B d_SD_init_71 (by decide) ?_
  obtain ⟨M73, h73, h⟩ := gk_bind h
  refine Gk_newarray B d_SD_init_73 rfl ty_0 tw_151 rfl (by decide) h73 (by decide) (by decide) ?_
  obtain ⟨M75, h75, h⟩ := gk_bind h
  refine Gk_putF (j := 6) (ty := (.array .int)) B hin d_SD_init_75 in_SD t_SD t_SD_ok n_SD cl_SD (by decide) tw_284 rfl rfl rfl rfl (gk_nfa _ _) (gk_ffa _ _) h75 ?_
  cases h
  exact Gk_vret B hr d_SD_init_78 (by decide) (by decide) rfl
theorem sn_SD_init {l : Launch} {Γ : gk_G} {a0 : Option Nat} {M : gk_M} {ρ : gk_M} (h : fn_SD_init a0 M = some ρ) : gk_Met l gk_Y Γ y_SD_init (.code y_SD_init c_SD_init 1 none :: gk_Y.2.2.2) rm_SD_init [va_rf a0] M none ρ :=
  gk_start (by decide) (by simp [lg_sl, gk_rc, gk_ic, gk_jc]) [some (va_rf a0)] (by simp [gk_as, lv_args, gk_rc, gk_ic, gk_jc]) (fun p e s m args below meth c B hr hin => sn_SD_init_0 B hr hin h)
theorem d_Mo_init_0 : decode c_Mo_init 0 = .ok (.aload_n 0, 1) := by decide +kernel
theorem d_Mo_init_1 : decode c_Mo_init 1 = .ok (.invokespecial 1, 3) := by decide +kernel
theorem d_Mo_init_4 : decode c_Mo_init 4 = .ok (.aload_n 0, 1) := by decide +kernel
theorem d_Mo_init_5 : decode c_Mo_init 5 = .ok (.bipush 24, 2) := by decide +kernel
theorem d_Mo_init_7 : decode c_Mo_init 7 = .ok (.newarray .char, 2) := by decide +kernel
theorem d_Mo_init_9 : decode c_Mo_init 9 = .ok (.putfield 7, 3) := by decide +kernel
theorem d_Mo_init_12 : decode c_Mo_init 12 = .ok (.aload_n 0, 1) := by decide +kernel
theorem d_Mo_init_13 : decode c_Mo_init 13 = .ok (.sipush 624, 3) := by decide +kernel
theorem d_Mo_init_16 : decode c_Mo_init 16 = .ok (.newarray .char, 2) := by decide +kernel
theorem d_Mo_init_18 : decode c_Mo_init 18 = .ok (.putfield 13, 3) := by decide +kernel
theorem d_Mo_init_21 : decode c_Mo_init 21 = .ok (.aload_n 0, 1) := by decide +kernel
theorem d_Mo_init_22 : decode c_Mo_init 22 = .ok (.bipush 26, 2) := by decide +kernel
theorem d_Mo_init_24 : decode c_Mo_init 24 = .ok (.newarray .int, 2) := by decide +kernel
theorem d_Mo_init_26 : decode c_Mo_init 26 = .ok (.putfield 16, 3) := by decide +kernel
theorem d_Mo_init_29 : decode c_Mo_init 29 = .ok (.aload_n 0, 1) := by decide +kernel
theorem d_Mo_init_30 : decode c_Mo_init 30 = .ok (.bipush 12, 2) := by decide +kernel
theorem d_Mo_init_32 : decode c_Mo_init 32 = .ok (.newarray .int, 2) := by decide +kernel
theorem d_Mo_init_34 : decode c_Mo_init 34 = .ok (.putfield 20, 3) := by decide +kernel
theorem d_Mo_init_37 : decode c_Mo_init 37 = .ok (.aload_n 0, 1) := by decide +kernel
theorem d_Mo_init_38 : decode c_Mo_init 38 = .ok (.bipush 12, 2) := by decide +kernel
theorem d_Mo_init_40 : decode c_Mo_init 40 = .ok (.newarray .int, 2) := by decide +kernel
theorem d_Mo_init_42 : decode c_Mo_init 42 = .ok (.putfield 23, 3) := by decide +kernel
theorem d_Mo_init_45 : decode c_Mo_init 45 = .ok (.aload_n 0, 1) := by decide +kernel
theorem d_Mo_init_46 : decode c_Mo_init 46 = .ok (.bipush 12, 2) := by decide +kernel
theorem d_Mo_init_48 : decode c_Mo_init 48 = .ok (.newarray .int, 2) := by decide +kernel
theorem d_Mo_init_50 : decode c_Mo_init 50 = .ok (.putfield 26, 3) := by decide +kernel
theorem d_Mo_init_53 : decode c_Mo_init 53 = .ok (.aload_n 0, 1) := by decide +kernel
theorem d_Mo_init_54 : decode c_Mo_init 54 = .ok (.bipush 12, 2) := by decide +kernel
theorem d_Mo_init_56 : decode c_Mo_init 56 = .ok (.newarray .int, 2) := by decide +kernel
theorem d_Mo_init_58 : decode c_Mo_init 58 = .ok (.putfield 29, 3) := by decide +kernel
theorem d_Mo_init_61 : decode c_Mo_init 61 = .ok (.aload_n 0, 1) := by decide +kernel
theorem d_Mo_init_62 : decode c_Mo_init 62 = .ok (.bipush 12, 2) := by decide +kernel
theorem d_Mo_init_64 : decode c_Mo_init 64 = .ok (.newarray .int, 2) := by decide +kernel
theorem d_Mo_init_66 : decode c_Mo_init 66 = .ok (.putfield 32, 3) := by decide +kernel
theorem d_Mo_init_69 : decode c_Mo_init 69 = .ok (.aload_n 0, 1) := by decide +kernel
theorem d_Mo_init_70 : decode c_Mo_init 70 = .ok (.bipush 12, 2) := by decide +kernel
theorem d_Mo_init_72 : decode c_Mo_init 72 = .ok (.newarray .int, 2) := by decide +kernel
theorem d_Mo_init_74 : decode c_Mo_init 74 = .ok (.putfield 35, 3) := by decide +kernel
theorem d_Mo_init_77 : decode c_Mo_init 77 = .ok (.aload_n 0, 1) := by decide +kernel
theorem d_Mo_init_78 : decode c_Mo_init 78 = .ok (.bipush 12, 2) := by decide +kernel
theorem d_Mo_init_80 : decode c_Mo_init 80 = .ok (.newarray .int, 2) := by decide +kernel
theorem d_Mo_init_82 : decode c_Mo_init 82 = .ok (.putfield 38, 3) := by decide +kernel
theorem d_Mo_init_85 : decode c_Mo_init 85 = .ok (.aload_n 0, 1) := by decide +kernel
theorem d_Mo_init_86 : decode c_Mo_init 86 = .ok (.bipush 12, 2) := by decide +kernel
theorem d_Mo_init_88 : decode c_Mo_init 88 = .ok (.newarray .int, 2) := by decide +kernel
theorem d_Mo_init_90 : decode c_Mo_init 90 = .ok (.putfield 41, 3) := by decide +kernel
theorem d_Mo_init_93 : decode c_Mo_init 93 = .ok (.aload_n 0, 1) := by decide +kernel
theorem d_Mo_init_94 : decode c_Mo_init 94 = .ok (.bipush 8, 2) := by decide +kernel
theorem d_Mo_init_96 : decode c_Mo_init 96 = .ok (.newarray .int, 2) := by decide +kernel
theorem d_Mo_init_98 : decode c_Mo_init 98 = .ok (.putfield 44, 3) := by decide +kernel
theorem d_Mo_init_101 : decode c_Mo_init 101 = .ok (.aload_n 0, 1) := by decide +kernel
theorem d_Mo_init_102 : decode c_Mo_init 102 = .ok (.bipush 8, 2) := by decide +kernel
theorem d_Mo_init_104 : decode c_Mo_init 104 = .ok (.newarray .int, 2) := by decide +kernel
theorem d_Mo_init_106 : decode c_Mo_init 106 = .ok (.putfield 47, 3) := by decide +kernel
theorem d_Mo_init_109 : decode c_Mo_init 109 = .ok (.aload_n 0, 1) := by decide +kernel
theorem d_Mo_init_110 : decode c_Mo_init 110 = .ok (.bipush 8, 2) := by decide +kernel
theorem d_Mo_init_112 : decode c_Mo_init 112 = .ok (.newarray .int, 2) := by decide +kernel
theorem d_Mo_init_114 : decode c_Mo_init 114 = .ok (.putfield 50, 3) := by decide +kernel
theorem d_Mo_init_117 : decode c_Mo_init 117 = .ok (.aload_n 0, 1) := by decide +kernel
theorem d_Mo_init_118 : decode c_Mo_init 118 = .ok (.bipush 8, 2) := by decide +kernel
theorem d_Mo_init_120 : decode c_Mo_init 120 = .ok (.newarray .int, 2) := by decide +kernel
theorem d_Mo_init_122 : decode c_Mo_init 122 = .ok (.putfield 53, 3) := by decide +kernel
theorem d_Mo_init_125 : decode c_Mo_init 125 = .ok (.aload_n 0, 1) := by decide +kernel
theorem d_Mo_init_126 : decode c_Mo_init 126 = .ok (.bipush 8, 2) := by decide +kernel
theorem d_Mo_init_128 : decode c_Mo_init 128 = .ok (.newarray .int, 2) := by decide +kernel
theorem d_Mo_init_130 : decode c_Mo_init 130 = .ok (.putfield 56, 3) := by decide +kernel
theorem d_Mo_init_133 : decode c_Mo_init 133 = .ok (.aload_n 0, 1) := by decide +kernel
theorem d_Mo_init_134 : decode c_Mo_init 134 = .ok (.bipush 8, 2) := by decide +kernel
theorem d_Mo_init_136 : decode c_Mo_init 136 = .ok (.newarray .int, 2) := by decide +kernel
theorem d_Mo_init_138 : decode c_Mo_init 138 = .ok (.putfield 59, 3) := by decide +kernel
theorem d_Mo_init_141 : decode c_Mo_init 141 = .ok (.aload_n 0, 1) := by decide +kernel
theorem d_Mo_init_142 : decode c_Mo_init 142 = .ok (.bipush 8, 2) := by decide +kernel
theorem d_Mo_init_144 : decode c_Mo_init 144 = .ok (.newarray .int, 2) := by decide +kernel
theorem d_Mo_init_146 : decode c_Mo_init 146 = .ok (.putfield 62, 3) := by decide +kernel
theorem d_Mo_init_149 : decode c_Mo_init 149 = .ok (.aload_n 0, 1) := by decide +kernel
theorem d_Mo_init_150 : decode c_Mo_init 150 = .ok (.bipush 8, 2) := by decide +kernel
theorem d_Mo_init_152 : decode c_Mo_init 152 = .ok (.newarray .boolean, 2) := by decide +kernel
theorem d_Mo_init_154 : decode c_Mo_init 154 = .ok (.putfield 65, 3) := by decide +kernel
theorem d_Mo_init_157 : decode c_Mo_init 157 = .ok (.aload_n 0, 1) := by decide +kernel
theorem d_Mo_init_158 : decode c_Mo_init 158 = .ok (.bipush 16, 2) := by decide +kernel
theorem d_Mo_init_160 : decode c_Mo_init 160 = .ok (.newarray .int, 2) := by decide +kernel
theorem d_Mo_init_162 : decode c_Mo_init 162 = .ok (.putfield 69, 3) := by decide +kernel
theorem d_Mo_init_165 : decode c_Mo_init 165 = .ok (.aload_n 0, 1) := by decide +kernel
theorem d_Mo_init_166 : decode c_Mo_init 166 = .ok (.iconst 4, 1) := by decide +kernel
theorem d_Mo_init_167 : decode c_Mo_init 167 = .ok (.newarray .int, 2) := by decide +kernel
theorem d_Mo_init_169 : decode c_Mo_init 169 = .ok (.putfield 72, 3) := by decide +kernel
theorem d_Mo_init_172 : decode c_Mo_init 172 = .ok (.aload_n 0, 1) := by decide +kernel
theorem d_Mo_init_173 : decode c_Mo_init 173 = .ok (.iconst 4, 1) := by decide +kernel
theorem d_Mo_init_174 : decode c_Mo_init 174 = .ok (.newarray .int, 2) := by decide +kernel
theorem d_Mo_init_176 : decode c_Mo_init 176 = .ok (.putfield 75, 3) := by decide +kernel
theorem d_Mo_init_179 : decode c_Mo_init 179 = .ok (.aload_n 0, 1) := by decide +kernel
theorem d_Mo_init_180 : decode c_Mo_init 180 = .ok (.bipush 24, 2) := by decide +kernel
theorem d_Mo_init_182 : decode c_Mo_init 182 = .ok (.newarray .char, 2) := by decide +kernel
theorem d_Mo_init_184 : decode c_Mo_init 184 = .ok (.putfield 78, 3) := by decide +kernel
theorem d_Mo_init_187 : decode c_Mo_init 187 = .ok (.aload_n 0, 1) := by decide +kernel
theorem d_Mo_init_188 : decode c_Mo_init 188 = .ok (.bipush 26, 2) := by decide +kernel
theorem d_Mo_init_190 : decode c_Mo_init 190 = .ok (.newarray .int, 2) := by decide +kernel
theorem d_Mo_init_192 : decode c_Mo_init 192 = .ok (.putfield 81, 3) := by decide +kernel
theorem d_Mo_init_195 : decode c_Mo_init 195 = .ok (.aload_n 0, 1) := by decide +kernel
theorem d_Mo_init_196 : decode c_Mo_init 196 = .ok (.bipush 112, 2) := by decide +kernel
theorem d_Mo_init_198 : decode c_Mo_init 198 = .ok (.newarray .int, 2) := by decide +kernel
theorem d_Mo_init_200 : decode c_Mo_init 200 = .ok (.putfield 84, 3) := by decide +kernel
theorem d_Mo_init_203 : decode c_Mo_init 203 = .ok (.aload_n 0, 1) := by decide +kernel
theorem d_Mo_init_204 : decode c_Mo_init 204 = .ok (.bipush 112, 2) := by decide +kernel
theorem d_Mo_init_206 : decode c_Mo_init 206 = .ok (.newarray .int, 2) := by decide +kernel
theorem d_Mo_init_208 : decode c_Mo_init 208 = .ok (.putfield 87, 3) := by decide +kernel
theorem d_Mo_init_211 : decode c_Mo_init 211 = .ok (.aload_n 0, 1) := by decide +kernel
theorem d_Mo_init_212 : decode c_Mo_init 212 = .ok (.bipush 8, 2) := by decide +kernel
theorem d_Mo_init_214 : decode c_Mo_init 214 = .ok (.newarray .int, 2) := by decide +kernel
theorem d_Mo_init_216 : decode c_Mo_init 216 = .ok (.putfield 90, 3) := by decide +kernel
theorem d_Mo_init_219 : decode c_Mo_init 219 = .ok (.aload_n 0, 1) := by decide +kernel
theorem d_Mo_init_220 : decode c_Mo_init 220 = .ok (.bipush 24, 2) := by decide +kernel
theorem d_Mo_init_222 : decode c_Mo_init 222 = .ok (.newarray .int, 2) := by decide +kernel
theorem d_Mo_init_224 : decode c_Mo_init 224 = .ok (.putfield 93, 3) := by decide +kernel
theorem d_Mo_init_227 : decode c_Mo_init 227 = .ok (.aload_n 0, 1) := by decide +kernel
theorem d_Mo_init_228 : decode c_Mo_init 228 = .ok (.sipush 625, 3) := by decide +kernel
theorem d_Mo_init_231 : decode c_Mo_init 231 = .ok (.newarray .boolean, 2) := by decide +kernel
theorem d_Mo_init_233 : decode c_Mo_init 233 = .ok (.putfield 96, 3) := by decide +kernel
theorem d_Mo_init_236 : decode c_Mo_init 236 = .ok (.aload_n 0, 1) := by decide +kernel
theorem d_Mo_init_237 : decode c_Mo_init 237 = .ok (.bipush 24, 2) := by decide +kernel
theorem d_Mo_init_239 : decode c_Mo_init 239 = .ok (.newarray .int, 2) := by decide +kernel
theorem d_Mo_init_241 : decode c_Mo_init 241 = .ok (.putfield 99, 3) := by decide +kernel
theorem d_Mo_init_244 : decode c_Mo_init 244 = .ok (.aload_n 0, 1) := by decide +kernel
theorem d_Mo_init_245 : decode c_Mo_init 245 = .ok (.bipush 24, 2) := by decide +kernel
theorem d_Mo_init_247 : decode c_Mo_init 247 = .ok (.newarray .int, 2) := by decide +kernel
theorem d_Mo_init_249 : decode c_Mo_init 249 = .ok (.putfield 102, 3) := by decide +kernel
theorem d_Mo_init_252 : decode c_Mo_init 252 = .ok (.aload_n 0, 1) := by decide +kernel
theorem d_Mo_init_253 : decode c_Mo_init 253 = .ok (.bipush 6, 2) := by decide +kernel
theorem d_Mo_init_255 : decode c_Mo_init 255 = .ok (.newarray .boolean, 2) := by decide +kernel
theorem d_Mo_init_257 : decode c_Mo_init 257 = .ok (.putfield 105, 3) := by decide +kernel
theorem d_Mo_init_260 : decode c_Mo_init 260 = .ok (.aload_n 0, 1) := by decide +kernel
theorem d_Mo_init_261 : decode c_Mo_init 261 = .ok (.bipush 12, 2) := by decide +kernel
theorem d_Mo_init_263 : decode c_Mo_init 263 = .ok (.newarray .boolean, 2) := by decide +kernel
theorem d_Mo_init_265 : decode c_Mo_init 265 = .ok (.putfield 108, 3) := by decide +kernel
theorem d_Mo_init_268 : decode c_Mo_init 268 = .ok (.aload_n 0, 1) := by decide +kernel
theorem d_Mo_init_269 : decode c_Mo_init 269 = .ok (.iconst (-1), 1) := by decide +kernel
theorem d_Mo_init_270 : decode c_Mo_init 270 = .ok (.putfield 111, 3) := by decide +kernel
theorem d_Mo_init_273 : decode c_Mo_init 273 = .ok (.aload_n 0, 1) := by decide +kernel
theorem d_Mo_init_274 : decode c_Mo_init 274 = .ok (.iconst (-1), 1) := by decide +kernel
theorem d_Mo_init_275 : decode c_Mo_init 275 = .ok (.putfield 115, 3) := by decide +kernel
theorem d_Mo_init_278 : decode c_Mo_init 278 = .ok (.return_, 1) := by decide +kernel
set_option maxHeartbeats 4000000 in
set_option maxRecDepth 100000 in
theorem sn_Mo_init_0 {l : Launch} {Γ : gk_G} {p : Program} {e : Env} {s : State} {m : MethodId} {args : Array Value} {below : List Frame} {meth : Method} {c : Code} (B : gk_B p s m args meth c gk_Y Γ c_Mo_init 1 "StageDispatcherModel") (hr : meth.sig.returnType = none) (hin : meth.name = "<init>") {ρ : gk_M}   {a0 : Option Nat} {M : gk_M} (h : fn_Mo_init  a0 M = some ρ) : Gk p l e rm_Mo_init s m args below meth c gk_Y Γ 1 (MQ below (gk_Q gk_Y Γ none ρ) args s rm_Mo_init.cells rm_Mo_init.slots (fun q => Γ.2.2 ≤ q)) 0 0 M 0 [some (va_rf a0)] [] := by
  unfold fn_Mo_init at h
  refine Gk_aload_n (i := 0) (r := a0) B d_Mo_init_0 rfl rfl ?_
  obtain ⟨o1, h1, h⟩ := gk_bind h
  refine Gk_objInit B d_Mo_init_1 tw_754 tw_62 tw_63 h1 (by decide) (by decide) ?_
  refine Gk_aload_n (i := 0) (r := a0) B d_Mo_init_4 rfl rfl ?_
  refine Gk_bipush (v := 24) B d_Mo_init_5 (by decide) ?_
  obtain ⟨M7, h7, h⟩ := gk_bind h
  refine Gk_newarray B d_Mo_init_7 rfl ty_1 tw_84 rfl (by decide) h7 (by decide) (by decide) ?_
  obtain ⟨M9, h9, h⟩ := gk_bind h
  refine Gk_putF (j := 0) (ty := (.array .char)) B hin d_Mo_init_9 in_Mo t_Mo t_Mo_ok n_Mo cl_Mo (by decide) tw_755 rfl rfl rfl rfl (gk_nfa _ _) (gk_ffa _ _) h9 ?_
  refine Gk_aload_n (i := 0) (r := a0) B d_Mo_init_12 rfl rfl ?_
  refine Gk_sipush (v := 624) B d_Mo_init_13 (by decide) ?_
  obtain ⟨M16, h16, h⟩ := gk_bind h
  refine Gk_newarray B d_Mo_init_16 rfl ty_1 tw_84 rfl (by decide) h16 (by decide) (by decide) ?_
  obtain ⟨M18, h18, h⟩ := gk_bind h
  refine Gk_putF (j := 2) (ty := (.array .char)) B hin d_Mo_init_18 in_Mo t_Mo t_Mo_ok n_Mo cl_Mo (by decide) tw_757 rfl rfl rfl rfl (gk_nfa _ _) (gk_ffa _ _) h18 ?_
  refine Gk_aload_n (i := 0) (r := a0) B d_Mo_init_21 rfl rfl ?_
  refine Gk_bipush (v := 26) B d_Mo_init_22 (by decide) ?_
  obtain ⟨M24, h24, h⟩ := gk_bind h
  refine Gk_newarray B d_Mo_init_24 rfl ty_0 tw_151 rfl (by decide) h24 (by decide) (by decide) ?_
  obtain ⟨M26, h26, h⟩ := gk_bind h
  refine Gk_putF (j := 3) (ty := (.array .int)) B hin d_Mo_init_26 in_Mo t_Mo t_Mo_ok n_Mo cl_Mo (by decide) tw_758 rfl rfl rfl rfl (gk_nfa _ _) (gk_ffa _ _) h26 ?_
  refine Gk_aload_n (i := 0) (r := a0) B d_Mo_init_29 rfl rfl ?_
  refine Gk_bipush (v := 12) B d_Mo_init_30 (by decide) ?_
  obtain ⟨M32, h32, h⟩ := gk_bind h
  refine Gk_newarray B d_Mo_init_32 rfl ty_0 tw_151 rfl (by decide) h32 (by decide) (by decide) ?_
  obtain ⟨M34, h34, h⟩ := gk_bind h
  refine Gk_putF (j := 6) (ty := (.array .int)) B hin d_Mo_init_34 in_Mo t_Mo t_Mo_ok n_Mo cl_Mo (by decide) tw_761 rfl rfl rfl rfl (gk_nfa _ _) (gk_ffa _ _) h34 ?_
  refine Gk_aload_n (i := 0) (r := a0) B d_Mo_init_37 rfl rfl ?_
  refine Gk_bipush (v := 12) B d_Mo_init_38 (by decide) ?_
  obtain ⟨M40, h40, h⟩ := gk_bind h
  refine Gk_newarray B d_Mo_init_40 rfl ty_0 tw_151 rfl (by decide) h40 (by decide) (by decide) ?_
  obtain ⟨M42, h42, h⟩ := gk_bind h
  refine Gk_putF (j := 7) (ty := (.array .int)) B hin d_Mo_init_42 in_Mo t_Mo t_Mo_ok n_Mo cl_Mo (by decide) tw_762 rfl rfl rfl rfl (gk_nfa _ _) (gk_ffa _ _) h42 ?_
  refine Gk_aload_n (i := 0) (r := a0) B d_Mo_init_45 rfl rfl ?_
  refine Gk_bipush (v := 12) B d_Mo_init_46 (by decide) ?_
  obtain ⟨M48, h48, h⟩ := gk_bind h
  refine Gk_newarray B d_Mo_init_48 rfl ty_0 tw_151 rfl (by decide) h48 (by decide) (by decide) ?_
  obtain ⟨M50, h50, h⟩ := gk_bind h
  refine Gk_putF (j := 8) (ty := (.array .int)) B hin d_Mo_init_50 in_Mo t_Mo t_Mo_ok n_Mo cl_Mo (by decide) tw_763 rfl rfl rfl rfl (gk_nfa _ _) (gk_ffa _ _) h50 ?_
  refine Gk_aload_n (i := 0) (r := a0) B d_Mo_init_53 rfl rfl ?_
  refine Gk_bipush (v := 12) B d_Mo_init_54 (by decide) ?_
  obtain ⟨M56, h56, h⟩ := gk_bind h
  refine Gk_newarray B d_Mo_init_56 rfl ty_0 tw_151 rfl (by decide) h56 (by decide) (by decide) ?_
  obtain ⟨M58, h58, h⟩ := gk_bind h
  refine Gk_putF (j := 9) (ty := (.array .int)) B hin d_Mo_init_58 in_Mo t_Mo t_Mo_ok n_Mo cl_Mo (by decide) tw_764 rfl rfl rfl rfl (gk_nfa _ _) (gk_ffa _ _) h58 ?_
  refine Gk_aload_n (i := 0) (r := a0) B d_Mo_init_61 rfl rfl ?_
  refine Gk_bipush (v := 12) B d_Mo_init_62 (by decide) ?_
  obtain ⟨M64, h64, h⟩ := gk_bind h
  refine Gk_newarray B d_Mo_init_64 rfl ty_0 tw_151 rfl (by decide) h64 (by decide) (by decide) ?_
  obtain ⟨M66, h66, h⟩ := gk_bind h
  refine Gk_putF (j := 10) (ty := (.array .int)) B hin d_Mo_init_66 in_Mo t_Mo t_Mo_ok n_Mo cl_Mo (by decide) tw_765 rfl rfl rfl rfl (gk_nfa _ _) (gk_ffa _ _) h66 ?_
  refine Gk_aload_n (i := 0) (r := a0) B d_Mo_init_69 rfl rfl ?_
  refine Gk_bipush (v := 12) B d_Mo_init_70 (by decide) ?_
  obtain ⟨M72, h72, h⟩ := gk_bind h
  refine Gk_newarray B d_Mo_init_72 rfl ty_0 tw_151 rfl (by decide) h72 (by decide) (by decide) ?_
  obtain ⟨M74, h74, h⟩ := gk_bind h
  refine Gk_putF (j := 11) (ty := (.array .int)) B hin d_Mo_init_74 in_Mo t_Mo t_Mo_ok n_Mo cl_Mo (by decide) tw_766 rfl rfl rfl rfl (gk_nfa _ _) (gk_ffa _ _) h74 ?_
  refine Gk_aload_n (i := 0) (r := a0) B d_Mo_init_77 rfl rfl ?_
  refine Gk_bipush (v := 12) B d_Mo_init_78 (by decide) ?_
  obtain ⟨M80, h80, h⟩ := gk_bind h
  refine Gk_newarray B d_Mo_init_80 rfl ty_0 tw_151 rfl (by decide) h80 (by decide) (by decide) ?_
  obtain ⟨M82, h82, h⟩ := gk_bind h
  refine Gk_putF (j := 12) (ty := (.array .int)) B hin d_Mo_init_82 in_Mo t_Mo t_Mo_ok n_Mo cl_Mo (by decide) tw_767 rfl rfl rfl rfl (gk_nfa _ _) (gk_ffa _ _) h82 ?_
  refine Gk_aload_n (i := 0) (r := a0) B d_Mo_init_85 rfl rfl ?_
  refine Gk_bipush (v := 12) B d_Mo_init_86 (by decide) ?_
  obtain ⟨M88, h88, h⟩ := gk_bind h
  refine Gk_newarray B d_Mo_init_88 rfl ty_0 tw_151 rfl (by decide) h88 (by decide) (by decide) ?_
  obtain ⟨M90, h90, h⟩ := gk_bind h
  refine Gk_putF (j := 13) (ty := (.array .int)) B hin d_Mo_init_90 in_Mo t_Mo t_Mo_ok n_Mo cl_Mo (by decide) tw_768 rfl rfl rfl rfl (gk_nfa _ _) (gk_ffa _ _) h90 ?_
  refine Gk_aload_n (i := 0) (r := a0) B d_Mo_init_93 rfl rfl ?_
  refine Gk_bipush (v := 8) B d_Mo_init_94 (by decide) ?_
  obtain ⟨M96, h96, h⟩ := gk_bind h
  refine Gk_newarray B d_Mo_init_96 rfl ty_0 tw_151 rfl (by decide) h96 (by decide) (by decide) ?_
  obtain ⟨M98, h98, h⟩ := gk_bind h
  refine Gk_putF (j := 15) (ty := (.array .int)) B hin d_Mo_init_98 in_Mo t_Mo t_Mo_ok n_Mo cl_Mo (by decide) tw_770 rfl rfl rfl rfl (gk_nfa _ _) (gk_ffa _ _) h98 ?_
  refine Gk_aload_n (i := 0) (r := a0) B d_Mo_init_101 rfl rfl ?_
  refine Gk_bipush (v := 8) B d_Mo_init_102 (by decide) ?_
  obtain ⟨M104, h104, h⟩ := gk_bind h
  refine Gk_newarray B d_Mo_init_104 rfl ty_0 tw_151 rfl (by decide) h104 (by decide) (by decide) ?_
  obtain ⟨M106, h106, h⟩ := gk_bind h
  refine Gk_putF (j := 16) (ty := (.array .int)) B hin d_Mo_init_106 in_Mo t_Mo t_Mo_ok n_Mo cl_Mo (by decide) tw_771 rfl rfl rfl rfl (gk_nfa _ _) (gk_ffa _ _) h106 ?_
  refine Gk_aload_n (i := 0) (r := a0) B d_Mo_init_109 rfl rfl ?_
  refine Gk_bipush (v := 8) B d_Mo_init_110 (by decide) ?_
  obtain ⟨M112, h112, h⟩ := gk_bind h
  refine Gk_newarray B d_Mo_init_112 rfl ty_0 tw_151 rfl (by decide) h112 (by decide) (by decide) ?_
  obtain ⟨M114, h114, h⟩ := gk_bind h
  refine Gk_putF (j := 18) (ty := (.array .int)) B hin d_Mo_init_114 in_Mo t_Mo t_Mo_ok n_Mo cl_Mo (by decide) tw_773 rfl rfl rfl rfl (gk_nfa _ _) (gk_ffa _ _) h114 ?_
  refine Gk_aload_n (i := 0) (r := a0) B d_Mo_init_117 rfl rfl ?_
  refine Gk_bipush (v := 8) B d_Mo_init_118 (by decide) ?_
  obtain ⟨M120, h120, h⟩ := gk_bind h
  refine Gk_newarray B d_Mo_init_120 rfl ty_0 tw_151 rfl (by decide) h120 (by decide) (by decide) ?_
  obtain ⟨M122, h122, h⟩ := gk_bind h
  refine Gk_putF (j := 19) (ty := (.array .int)) B hin d_Mo_init_122 in_Mo t_Mo t_Mo_ok n_Mo cl_Mo (by decide) tw_774 rfl rfl rfl rfl (gk_nfa _ _) (gk_ffa _ _) h122 ?_
  refine Gk_aload_n (i := 0) (r := a0) B d_Mo_init_125 rfl rfl ?_
  refine Gk_bipush (v := 8) B d_Mo_init_126 (by decide) ?_
  obtain ⟨M128, h128, h⟩ := gk_bind h
  refine Gk_newarray B d_Mo_init_128 rfl ty_0 tw_151 rfl (by decide) h128 (by decide) (by decide) ?_
  obtain ⟨M130, h130, h⟩ := gk_bind h
  refine Gk_putF (j := 20) (ty := (.array .int)) B hin d_Mo_init_130 in_Mo t_Mo t_Mo_ok n_Mo cl_Mo (by decide) tw_775 rfl rfl rfl rfl (gk_nfa _ _) (gk_ffa _ _) h130 ?_
  refine Gk_aload_n (i := 0) (r := a0) B d_Mo_init_133 rfl rfl ?_
  refine Gk_bipush (v := 8) B d_Mo_init_134 (by decide) ?_
  obtain ⟨M136, h136, h⟩ := gk_bind h
  refine Gk_newarray B d_Mo_init_136 rfl ty_0 tw_151 rfl (by decide) h136 (by decide) (by decide) ?_
  obtain ⟨M138, h138, h⟩ := gk_bind h
  refine Gk_putF (j := 21) (ty := (.array .int)) B hin d_Mo_init_138 in_Mo t_Mo t_Mo_ok n_Mo cl_Mo (by decide) tw_776 rfl rfl rfl rfl (gk_nfa _ _) (gk_ffa _ _) h138 ?_
  refine Gk_aload_n (i := 0) (r := a0) B d_Mo_init_141 rfl rfl ?_
  refine Gk_bipush (v := 8) B d_Mo_init_142 (by decide) ?_
  obtain ⟨M144, h144, h⟩ := gk_bind h
  refine Gk_newarray B d_Mo_init_144 rfl ty_0 tw_151 rfl (by decide) h144 (by decide) (by decide) ?_
  obtain ⟨M146, h146, h⟩ := gk_bind h
  refine Gk_putF (j := 22) (ty := (.array .int)) B hin d_Mo_init_146 in_Mo t_Mo t_Mo_ok n_Mo cl_Mo (by decide) tw_777 rfl rfl rfl rfl (gk_nfa _ _) (gk_ffa _ _) h146 ?_
  refine Gk_aload_n (i := 0) (r := a0) B d_Mo_init_149 rfl rfl ?_
  refine Gk_bipush (v := 8) B d_Mo_init_150 (by decide) ?_
  obtain ⟨M152, h152, h⟩ := gk_bind h
  refine Gk_newarray B d_Mo_init_152 rfl ty_2 tw_927 rfl (by decide) h152 (by decide) (by decide) ?_
  obtain ⟨M154, h154, h⟩ := gk_bind h
  refine Gk_putF (j := 23) (ty := (.array .boolean)) B hin d_Mo_init_154 in_Mo t_Mo t_Mo_ok n_Mo cl_Mo (by decide) tw_778 rfl rfl rfl rfl (gk_nfa _ _) (gk_ffa _ _) h154 ?_
  refine Gk_aload_n (i := 0) (r := a0) B d_Mo_init_157 rfl rfl ?_
  refine Gk_bipush (v := 16) B d_Mo_init_158 (by decide) ?_
  obtain ⟨M160, h160, h⟩ := gk_bind h
  refine Gk_newarray B d_Mo_init_160 rfl ty_0 tw_151 rfl (by decide) h160 (by decide) (by decide) ?_
  obtain ⟨M162, h162, h⟩ := gk_bind h
  refine Gk_putF (j := 24) (ty := (.array .int)) B hin d_Mo_init_162 in_Mo t_Mo t_Mo_ok n_Mo cl_Mo (by decide) tw_779 rfl rfl rfl rfl (gk_nfa _ _) (gk_ffa _ _) h162 ?_
  refine Gk_aload_n (i := 0) (r := a0) B d_Mo_init_165 rfl rfl ?_
  refine Gk_iconst (v := 4) B d_Mo_init_166 (by decide) ?_
  obtain ⟨M167, h167, h⟩ := gk_bind h
  refine Gk_newarray B d_Mo_init_167 rfl ty_0 tw_151 rfl (by decide) h167 (by decide) (by decide) ?_
  obtain ⟨M169, h169, h⟩ := gk_bind h
  refine Gk_putF (j := 26) (ty := (.array .int)) B hin d_Mo_init_169 in_Mo t_Mo t_Mo_ok n_Mo cl_Mo (by decide) tw_781 rfl rfl rfl rfl (gk_nfa _ _) (gk_ffa _ _) h169 ?_
  refine Gk_aload_n (i := 0) (r := a0) B d_Mo_init_172 rfl rfl ?_
  refine Gk_iconst (v := 4) B d_Mo_init_173 (by decide) ?_
  obtain ⟨M174, h174, h⟩ := gk_bind h
  refine Gk_newarray B d_Mo_init_174 rfl ty_0 tw_151 rfl (by decide) h174 (by decide) (by decide) ?_
  obtain ⟨M176, h176, h⟩ := gk_bind h
  refine Gk_putF (j := 27) (ty := (.array .int)) B hin d_Mo_init_176 in_Mo t_Mo t_Mo_ok n_Mo cl_Mo (by decide) tw_782 rfl rfl rfl rfl (gk_nfa _ _) (gk_ffa _ _) h176 ?_
  refine Gk_aload_n (i := 0) (r := a0) B d_Mo_init_179 rfl rfl ?_
  refine Gk_bipush (v := 24) B d_Mo_init_180 (by decide) ?_
  obtain ⟨M182, h182, h⟩ := gk_bind h
  refine Gk_newarray B d_Mo_init_182 rfl ty_1 tw_84 rfl (by decide) h182 (by decide) (by decide) ?_
  obtain ⟨M184, h184, h⟩ := gk_bind h
  refine Gk_putF (j := 28) (ty := (.array .char)) B hin d_Mo_init_184 in_Mo t_Mo t_Mo_ok n_Mo cl_Mo (by decide) tw_783 rfl rfl rfl rfl (gk_nfa _ _) (gk_ffa _ _) h184 ?_
  refine Gk_aload_n (i := 0) (r := a0) B d_Mo_init_187 rfl rfl ?_
  refine Gk_bipush (v := 26) B d_Mo_init_188 (by decide) ?_
  obtain ⟨M190, h190, h⟩ := gk_bind h
  refine Gk_newarray B d_Mo_init_190 rfl ty_0 tw_151 rfl (by decide) h190 (by decide) (by decide) ?_
  obtain ⟨M192, h192, h⟩ := gk_bind h
  refine Gk_putF (j := 41) (ty := (.array .int)) B hin d_Mo_init_192 in_Mo t_Mo t_Mo_ok n_Mo cl_Mo (by decide) tw_796 rfl rfl rfl rfl (gk_nfa _ _) (gk_ffa _ _) h192 ?_
  refine Gk_aload_n (i := 0) (r := a0) B d_Mo_init_195 rfl rfl ?_
  refine Gk_bipush (v := 112) B d_Mo_init_196 (by decide) ?_
  obtain ⟨M198, h198, h⟩ := gk_bind h
  refine Gk_newarray B d_Mo_init_198 rfl ty_0 tw_151 rfl (by decide) h198 (by decide) (by decide) ?_
  obtain ⟨M200, h200, h⟩ := gk_bind h
  refine Gk_putF (j := 43) (ty := (.array .int)) B hin d_Mo_init_200 in_Mo t_Mo t_Mo_ok n_Mo cl_Mo (by decide) tw_798 rfl rfl rfl rfl (gk_nfa _ _) (gk_ffa _ _) h200 ?_
  refine Gk_aload_n (i := 0) (r := a0) B d_Mo_init_203 rfl rfl ?_
  refine Gk_bipush (v := 112) B d_Mo_init_204 (by decide) ?_
  obtain ⟨M206, h206, h⟩ := gk_bind h
  refine Gk_newarray B d_Mo_init_206 rfl ty_0 tw_151 rfl (by decide) h206 (by decide) (by decide) ?_
  obtain ⟨M208, h208, h⟩ := gk_bind h
  refine Gk_putF (j := 44) (ty := (.array .int)) B hin d_Mo_init_208 in_Mo t_Mo t_Mo_ok n_Mo cl_Mo (by decide) tw_799 rfl rfl rfl rfl (gk_nfa _ _) (gk_ffa _ _) h208 ?_
  refine Gk_aload_n (i := 0) (r := a0) B d_Mo_init_211 rfl rfl ?_
  refine Gk_bipush (v := 8) B d_Mo_init_212 (by decide) ?_
  obtain ⟨M214, h214, h⟩ := gk_bind h
  refine Gk_newarray B d_Mo_init_214 rfl ty_0 tw_151 rfl (by decide) h214 (by decide) (by decide) ?_
  obtain ⟨M216, h216, h⟩ := gk_bind h
  refine Gk_putF (j := 46) (ty := (.array .int)) B hin d_Mo_init_216 in_Mo t_Mo t_Mo_ok n_Mo cl_Mo (by decide) tw_801 rfl rfl rfl rfl (gk_nfa _ _) (gk_ffa _ _) h216 ?_
  refine Gk_aload_n (i := 0) (r := a0) B d_Mo_init_219 rfl rfl ?_
  refine Gk_bipush (v := 24) B d_Mo_init_220 (by decide) ?_
  obtain ⟨M222, h222, h⟩ := gk_bind h
  refine Gk_newarray B d_Mo_init_222 rfl ty_0 tw_151 rfl (by decide) h222 (by decide) (by decide) ?_
  obtain ⟨M224, h224, h⟩ := gk_bind h
  refine Gk_putF (j := 48) (ty := (.array .int)) B hin d_Mo_init_224 in_Mo t_Mo t_Mo_ok n_Mo cl_Mo (by decide) tw_803 rfl rfl rfl rfl (gk_nfa _ _) (gk_ffa _ _) h224 ?_
  refine Gk_aload_n (i := 0) (r := a0) B d_Mo_init_227 rfl rfl ?_
  refine Gk_sipush (v := 625) B d_Mo_init_228 (by decide) ?_
  obtain ⟨M231, h231, h⟩ := gk_bind h
  refine Gk_newarray B d_Mo_init_231 rfl ty_2 tw_927 rfl (by decide) h231 (by decide) (by decide) ?_
  obtain ⟨M233, h233, h⟩ := gk_bind h
  refine Gk_putF (j := 49) (ty := (.array .boolean)) B hin d_Mo_init_233 in_Mo t_Mo t_Mo_ok n_Mo cl_Mo (by decide) tw_804 rfl rfl rfl rfl (gk_nfa _ _) (gk_ffa _ _) h233 ?_
  refine Gk_aload_n (i := 0) (r := a0) B d_Mo_init_236 rfl rfl ?_
  refine Gk_bipush (v := 24) B d_Mo_init_237 (by decide) ?_
  obtain ⟨M239, h239, h⟩ := gk_bind h
  refine Gk_newarray B d_Mo_init_239 rfl ty_0 tw_151 rfl (by decide) h239 (by decide) (by decide) ?_
  obtain ⟨M241, h241, h⟩ := gk_bind h
  refine Gk_putF (j := 51) (ty := (.array .int)) B hin d_Mo_init_241 in_Mo t_Mo t_Mo_ok n_Mo cl_Mo (by decide) tw_806 rfl rfl rfl rfl (gk_nfa _ _) (gk_ffa _ _) h241 ?_
  refine Gk_aload_n (i := 0) (r := a0) B d_Mo_init_244 rfl rfl ?_
  refine Gk_bipush (v := 24) B d_Mo_init_245 (by decide) ?_
  obtain ⟨M247, h247, h⟩ := gk_bind h
  refine Gk_newarray B d_Mo_init_247 rfl ty_0 tw_151 rfl (by decide) h247 (by decide) (by decide) ?_
  obtain ⟨M249, h249, h⟩ := gk_bind h
  refine Gk_putF (j := 52) (ty := (.array .int)) B hin d_Mo_init_249 in_Mo t_Mo t_Mo_ok n_Mo cl_Mo (by decide) tw_807 rfl rfl rfl rfl (gk_nfa _ _) (gk_ffa _ _) h249 ?_
  refine Gk_aload_n (i := 0) (r := a0) B d_Mo_init_252 rfl rfl ?_
  refine Gk_bipush (v := 6) B d_Mo_init_253 (by decide) ?_
  obtain ⟨M255, h255, h⟩ := gk_bind h
  refine Gk_newarray B d_Mo_init_255 rfl ty_2 tw_927 rfl (by decide) h255 (by decide) (by decide) ?_
  obtain ⟨M257, h257, h⟩ := gk_bind h
  refine Gk_putF (j := 53) (ty := (.array .boolean)) B hin d_Mo_init_257 in_Mo t_Mo t_Mo_ok n_Mo cl_Mo (by decide) tw_808 rfl rfl rfl rfl (gk_nfa _ _) (gk_ffa _ _) h257 ?_
  refine Gk_aload_n (i := 0) (r := a0) B d_Mo_init_260 rfl rfl ?_
  refine Gk_bipush (v := 12) B d_Mo_init_261 (by decide) ?_
  obtain ⟨M263, h263, h⟩ := gk_bind h
  refine Gk_newarray B d_Mo_init_263 rfl ty_2 tw_927 rfl (by decide) h263 (by decide) (by decide) ?_
  obtain ⟨M265, h265, h⟩ := gk_bind h
  refine Gk_putF (j := 54) (ty := (.array .boolean)) B hin d_Mo_init_265 in_Mo t_Mo t_Mo_ok n_Mo cl_Mo (by decide) tw_809 rfl rfl rfl rfl (gk_nfa _ _) (gk_ffa _ _) h265 ?_
  refine Gk_aload_n (i := 0) (r := a0) B d_Mo_init_268 rfl rfl ?_
  refine Gk_iconst (v := (-1)) B d_Mo_init_269 (by decide) ?_
  obtain ⟨M270, h270, h⟩ := gk_bind h
  refine Gk_put (j := 39) (ty := .int) B d_Mo_init_270 in_Mo t_Mo t_Mo_ok n_Mo cl_Mo (by decide) tw_794 rfl rfl rfl rfl rfl h270 ?_
  refine Gk_aload_n (i := 0) (r := a0) B d_Mo_init_273 rfl rfl ?_
  refine Gk_iconst (v := (-1)) B d_Mo_init_274 (by decide) ?_
  obtain ⟨M275, h275, h⟩ := gk_bind h
  refine Gk_put (j := 35) (ty := .int) B d_Mo_init_275 in_Mo t_Mo t_Mo_ok n_Mo cl_Mo (by decide) tw_790 rfl rfl rfl rfl rfl h275 ?_
  cases h
  exact Gk_vret B hr d_Mo_init_278 (by decide) (by decide) rfl
theorem sn_Mo_init {l : Launch} {Γ : gk_G} {a0 : Option Nat} {M : gk_M} {ρ : gk_M} (h : fn_Mo_init a0 M = some ρ) : gk_Met l gk_Y Γ y_Mo_init (.code y_Mo_init c_Mo_init 1 none :: gk_Y.2.2.2) rm_Mo_init [va_rf a0] M none ρ :=
  gk_start (by decide) (by simp [lg_sl, gk_rc, gk_ic, gk_jc]) [some (va_rf a0)] (by simp [gk_as, lv_args, gk_rc, gk_ic, gk_jc]) (fun p e s m args below meth c B hr hin => sn_Mo_init_0 B hr hin h)
theorem d_Text_append_0 : decode c_Text_append 0 = .ok (.iload_n 1, 1) := by decide +kernel
theorem d_Text_append_1 : decode c_Text_append 1 = .ok (.bipush 97, 2) := by decide +kernel
theorem d_Text_append_3 : decode c_Text_append 3 = .ok (.if_icmp .lt 9, 3) := by decide +kernel
theorem d_Text_append_6 : decode c_Text_append 6 = .ok (.iload_n 1, 1) := by decide +kernel
theorem d_Text_append_7 : decode c_Text_append 7 = .ok (.bipush 122, 2) := by decide +kernel
theorem d_Text_append_9 : decode c_Text_append 9 = .ok (.if_icmp .le 33, 3) := by decide +kernel
theorem d_Text_append_12 : decode c_Text_append 12 = .ok (.iload_n 1, 1) := by decide +kernel
theorem d_Text_append_13 : decode c_Text_append 13 = .ok (.bipush 48, 2) := by decide +kernel
theorem d_Text_append_15 : decode c_Text_append 15 = .ok (.if_icmp .lt 9, 3) := by decide +kernel
theorem d_Text_append_18 : decode c_Text_append 18 = .ok (.iload_n 1, 1) := by decide +kernel
theorem d_Text_append_19 : decode c_Text_append 19 = .ok (.bipush 57, 2) := by decide +kernel
theorem d_Text_append_21 : decode c_Text_append 21 = .ok (.if_icmp .le 21, 3) := by decide +kernel
theorem d_Text_append_24 : decode c_Text_append 24 = .ok (.iload_n 1, 1) := by decide +kernel
theorem d_Text_append_25 : decode c_Text_append 25 = .ok (.bipush 47, 2) := by decide +kernel
theorem d_Text_append_27 : decode c_Text_append 27 = .ok (.if_icmp .eq 15, 3) := by decide +kernel
theorem d_Text_append_30 : decode c_Text_append 30 = .ok (.iload_n 1, 1) := by decide +kernel
theorem d_Text_append_31 : decode c_Text_append 31 = .ok (.bipush 123, 2) := by decide +kernel
theorem d_Text_append_33 : decode c_Text_append 33 = .ok (.if_icmp .eq 9, 3) := by decide +kernel
theorem d_Text_append_36 : decode c_Text_append 36 = .ok (.iload_n 1, 1) := by decide +kernel
theorem d_Text_append_37 : decode c_Text_append 37 = .ok (.bipush 125, 2) := by decide +kernel
theorem d_Text_append_39 : decode c_Text_append 39 = .ok (.if_icmp .ne 7, 3) := by decide +kernel
theorem d_Text_append_42 : decode c_Text_append 42 = .ok (.iconst 1, 1) := by decide +kernel
theorem d_Text_append_43 : decode c_Text_append 43 = .ok (.goto 4, 3) := by decide +kernel
theorem d_Text_append_46 : decode c_Text_append 46 = .ok (.iconst 0, 1) := by decide +kernel
theorem d_Text_append_47 : decode c_Text_append 47 = .ok (.istore_n 2, 1) := by decide +kernel
theorem d_Text_append_48 : decode c_Text_append 48 = .ok (.iload_n 2, 1) := by decide +kernel
theorem d_Text_append_49 : decode c_Text_append 49 = .ok (.ifCond .eq 12, 3) := by decide +kernel
theorem d_Text_append_52 : decode c_Text_append 52 = .ok (.aload_n 0, 1) := by decide +kernel
theorem d_Text_append_53 : decode c_Text_append 53 = .ok (.getfield 15, 3) := by decide +kernel
theorem d_Text_append_56 : decode c_Text_append 56 = .ok (.bipush 24, 2) := by decide +kernel
theorem d_Text_append_58 : decode c_Text_append 58 = .ok (.if_icmp .lt 5, 3) := by decide +kernel
theorem d_Text_append_61 : decode c_Text_append 61 = .ok (.iconst 0, 1) := by decide +kernel
theorem d_Text_append_62 : decode c_Text_append 62 = .ok (.ireturn, 1) := by decide +kernel
theorem d_Text_append_63 : decode c_Text_append 63 = .ok (.aload_n 0, 1) := by decide +kernel
theorem d_Text_append_64 : decode c_Text_append 64 = .ok (.getfield 9, 3) := by decide +kernel
theorem d_Text_append_67 : decode c_Text_append 67 = .ok (.aload_n 0, 1) := by decide +kernel
theorem d_Text_append_68 : decode c_Text_append 68 = .ok (.getfield 15, 3) := by decide +kernel
theorem d_Text_append_71 : decode c_Text_append 71 = .ok (.iload_n 1, 1) := by decide +kernel
theorem d_Text_append_72 : decode c_Text_append 72 = .ok (.castore, 1) := by decide +kernel
theorem d_Text_append_73 : decode c_Text_append 73 = .ok (.aload_n 0, 1) := by decide +kernel
theorem d_Text_append_74 : decode c_Text_append 74 = .ok (.dup, 1) := by decide +kernel
theorem d_Text_append_75 : decode c_Text_append 75 = .ok (.getfield 15, 3) := by decide +kernel
theorem d_Text_append_78 : decode c_Text_append 78 = .ok (.iconst 1, 1) := by decide +kernel
theorem d_Text_append_79 : decode c_Text_append 79 = .ok (.iadd, 1) := by decide +kernel
theorem d_Text_append_80 : decode c_Text_append 80 = .ok (.putfield 15, 3) := by decide +kernel
theorem d_Text_append_83 : decode c_Text_append 83 = .ok (.iconst 1, 1) := by decide +kernel
theorem d_Text_append_84 : decode c_Text_append 84 = .ok (.ireturn, 1) := by decide +kernel
set_option maxHeartbeats 4000000 in
set_option maxRecDepth 100000 in
theorem sn_Text_append_47 {l : Launch} {Γ : gk_G} {p : Program} {e : Env} {s : State} {m : MethodId} {args : Array Value} {below : List Frame} {meth : Method} {c : Code} (B : gk_B p s m args meth c gk_Y Γ c_Text_append 3 "StageDispatcher$Text") (hr : meth.sig.returnType = (some .boolean)) {ρ : Int32 × gk_M}   {a0 : Option Nat} {x1 : Int32} {s0 : Int32} {M : gk_M} (h : fn_Text_append_47  a0 x1 s0 M = some ρ) : Gk p l e rm_Text_append s m args below meth c gk_Y Γ 3 (MQ below (gk_Q gk_Y Γ (some (.int ρ.1)) ρ.2) args s rm_Text_append.cells rm_Text_append.slots (fun q => Γ.2.2 ≤ q)) 0 0 M 47 [some (va_rf a0), some (.int x1), none] [.int s0] := by
  unfold fn_Text_append_47 at h
  refine Gk_istore_n (i := 2) (L' := [some (va_rf a0), some (.int x1), some (.int s0)]) B d_Text_append_47 rfl (by decide) (gk_c1_i rfl) rfl ?_
  refine Gk_iload_n (i := 2) (x := s0) B d_Text_append_48 rfl rfl ?_
  refine Gk_if_eq (tgt := 61) B d_Text_append_49 rfl (fun c49 => ?_) (fun c49 => ?_)
  · rw [if_pos c49] at h
    refine Gk_iconst (v := 0) B d_Text_append_61 (by decide) ?_
    obtain ⟨z, hz, h⟩ := gk_bind h
    obtain ⟨hz1, hz2⟩ := gk_z_eq hz
    cases h
    subst hz1
    exact Gk_iret B hr d_Text_append_62 (gk_nz hz2) (by decide) (by decide) rfl
  rw [if_neg c49] at h
  refine Gk_aload_n (i := 0) (r := a0) B d_Text_append_52 rfl rfl ?_
  obtain ⟨v53, h53, h⟩ := gk_bind h
  refine Gk_getI (j := 1) B d_Text_append_53 in_Text cl_Text (by decide) tw_76 rfl h53 ?_
  refine Gk_bipush (v := 24) B d_Text_append_56 (by decide) ?_
  refine Gk_icmp_lt (tgt := 63) B d_Text_append_58 rfl (fun c58 => ?_) (fun c58 => ?_)
  · rw [if_pos c58] at h
    refine Gk_aload_n (i := 0) (r := a0) B d_Text_append_63 rfl rfl ?_
    obtain ⟨v64, h64, h⟩ := gk_bind h
    refine Gk_getR (j := 0) B d_Text_append_64 in_Text cl_Text (by decide) tw_70 rfl h64 ?_
    refine Gk_aload_n (i := 0) (r := a0) B d_Text_append_67 rfl rfl ?_
    obtain ⟨v68, h68, h⟩ := gk_bind h
    refine Gk_getI (j := 1) B d_Text_append_68 in_Text cl_Text (by decide) tw_76 rfl h68 ?_
    refine Gk_iload_n (i := 1) (x := x1) B d_Text_append_71 rfl rfl ?_
    obtain ⟨M72, h72, h⟩ := gk_bind h
    refine Gk_castore B d_Text_append_72 ty_1 h72 ?_
    refine Gk_aload_n (i := 0) (r := a0) B d_Text_append_73 rfl rfl ?_
    refine Gk_dup B d_Text_append_74 (gk_rc _) ?_
    obtain ⟨v75, h75, h⟩ := gk_bind h
    refine Gk_getI (j := 1) B d_Text_append_75 in_Text cl_Text (by decide) tw_76 rfl h75 ?_
    refine Gk_iconst (v := 1) B d_Text_append_78 (by decide) ?_
    refine Gk_iadd B d_Text_append_79 ?_
    obtain ⟨M80, h80, h⟩ := gk_bind h
    refine Gk_put (j := 1) (ty := .int) B d_Text_append_80 in_Text t_Text t_Text_ok n_Text cl_Text (by decide) tw_76 rfl rfl rfl rfl rfl h80 ?_
    refine Gk_iconst (v := 1) B d_Text_append_83 (by decide) ?_
    obtain ⟨z, hz, h⟩ := gk_bind h
    obtain ⟨hz1, hz2⟩ := gk_z_eq hz
    cases h
    subst hz1
    exact Gk_iret B hr d_Text_append_84 (gk_nz hz2) (by decide) (by decide) rfl
  rw [if_neg c58] at h
  refine Gk_iconst (v := 0) B d_Text_append_61 (by decide) ?_
  obtain ⟨z, hz, h⟩ := gk_bind h
  obtain ⟨hz1, hz2⟩ := gk_z_eq hz
  cases h
  subst hz1
  exact Gk_iret B hr d_Text_append_62 (gk_nz hz2) (by decide) (by decide) rfl
set_option maxHeartbeats 4000000 in
set_option maxRecDepth 100000 in
theorem sn_Text_append_42 {l : Launch} {Γ : gk_G} {p : Program} {e : Env} {s : State} {m : MethodId} {args : Array Value} {below : List Frame} {meth : Method} {c : Code} (B : gk_B p s m args meth c gk_Y Γ c_Text_append 3 "StageDispatcher$Text") (hr : meth.sig.returnType = (some .boolean)) {ρ : Int32 × gk_M}   {a0 : Option Nat} {x1 : Int32} {M : gk_M} (h : fn_Text_append_42  a0 x1 M = some ρ) : Gk p l e rm_Text_append s m args below meth c gk_Y Γ 3 (MQ below (gk_Q gk_Y Γ (some (.int ρ.1)) ρ.2) args s rm_Text_append.cells rm_Text_append.slots (fun q => Γ.2.2 ≤ q)) 0 0 M 42 [some (va_rf a0), some (.int x1), none] [] := by
  unfold fn_Text_append_42 at h
  refine Gk_iconst (v := 1) B d_Text_append_42 (by decide) ?_
  refine Gk_goto (tgt := 47) B d_Text_append_43 rfl ?_
  exact sn_Text_append_47 B hr h
set_option maxHeartbeats 4000000 in
set_option maxRecDepth 100000 in
theorem sn_Text_append_24 {l : Launch} {Γ : gk_G} {p : Program} {e : Env} {s : State} {m : MethodId} {args : Array Value} {below : List Frame} {meth : Method} {c : Code} (B : gk_B p s m args meth c gk_Y Γ c_Text_append 3 "StageDispatcher$Text") (hr : meth.sig.returnType = (some .boolean)) {ρ : Int32 × gk_M}   {a0 : Option Nat} {x1 : Int32} {M : gk_M} (h : fn_Text_append_24  a0 x1 M = some ρ) : Gk p l e rm_Text_append s m args below meth c gk_Y Γ 3 (MQ below (gk_Q gk_Y Γ (some (.int ρ.1)) ρ.2) args s rm_Text_append.cells rm_Text_append.slots (fun q => Γ.2.2 ≤ q)) 0 0 M 24 [some (va_rf a0), some (.int x1), none] [] := by
  unfold fn_Text_append_24 at h
  refine Gk_iload_n (i := 1) (x := x1) B d_Text_append_24 rfl rfl ?_
  refine Gk_bipush (v := 47) B d_Text_append_25 (by decide) ?_
  refine Gk_icmp_eq (tgt := 42) B d_Text_append_27 rfl (fun c27 => ?_) (fun c27 => ?_)
  · rw [if_pos c27] at h
    exact sn_Text_append_42 B hr h
  rw [if_neg c27] at h
  refine Gk_iload_n (i := 1) (x := x1) B d_Text_append_30 rfl rfl ?_
  refine Gk_bipush (v := 123) B d_Text_append_31 (by decide) ?_
  refine Gk_icmp_eq (tgt := 42) B d_Text_append_33 rfl (fun c33 => ?_) (fun c33 => ?_)
  · rw [if_pos c33] at h
    exact sn_Text_append_42 B hr h
  rw [if_neg c33] at h
  refine Gk_iload_n (i := 1) (x := x1) B d_Text_append_36 rfl rfl ?_
  refine Gk_bipush (v := 125) B d_Text_append_37 (by decide) ?_
  refine Gk_icmp_ne (tgt := 46) B d_Text_append_39 rfl (fun c39 => ?_) (fun c39 => ?_)
  · rw [if_neg c39] at h
    refine Gk_iconst (v := 0) B d_Text_append_46 (by decide) ?_
    exact sn_Text_append_47 B hr h
  rw [if_pos c39] at h
  exact sn_Text_append_42 B hr h
set_option maxHeartbeats 4000000 in
set_option maxRecDepth 100000 in
theorem sn_Text_append_12 {l : Launch} {Γ : gk_G} {p : Program} {e : Env} {s : State} {m : MethodId} {args : Array Value} {below : List Frame} {meth : Method} {c : Code} (B : gk_B p s m args meth c gk_Y Γ c_Text_append 3 "StageDispatcher$Text") (hr : meth.sig.returnType = (some .boolean)) {ρ : Int32 × gk_M}   {a0 : Option Nat} {x1 : Int32} {M : gk_M} (h : fn_Text_append_12  a0 x1 M = some ρ) : Gk p l e rm_Text_append s m args below meth c gk_Y Γ 3 (MQ below (gk_Q gk_Y Γ (some (.int ρ.1)) ρ.2) args s rm_Text_append.cells rm_Text_append.slots (fun q => Γ.2.2 ≤ q)) 0 0 M 12 [some (va_rf a0), some (.int x1), none] [] := by
  unfold fn_Text_append_12 at h
  refine Gk_iload_n (i := 1) (x := x1) B d_Text_append_12 rfl rfl ?_
  refine Gk_bipush (v := 48) B d_Text_append_13 (by decide) ?_
  refine Gk_icmp_lt (tgt := 24) B d_Text_append_15 rfl (fun c15 => ?_) (fun c15 => ?_)
  · rw [if_pos c15] at h
    exact sn_Text_append_24 B hr h
  rw [if_neg c15] at h
  refine Gk_iload_n (i := 1) (x := x1) B d_Text_append_18 rfl rfl ?_
  refine Gk_bipush (v := 57) B d_Text_append_19 (by decide) ?_
  refine Gk_icmp_le (tgt := 42) B d_Text_append_21 rfl (fun c21 => ?_) (fun c21 => ?_)
  · rw [if_pos c21] at h
    exact sn_Text_append_42 B hr h
  rw [if_neg c21] at h
  exact sn_Text_append_24 B hr h
set_option maxHeartbeats 4000000 in
set_option maxRecDepth 100000 in
theorem sn_Text_append_0 {l : Launch} {Γ : gk_G} {p : Program} {e : Env} {s : State} {m : MethodId} {args : Array Value} {below : List Frame} {meth : Method} {c : Code} (B : gk_B p s m args meth c gk_Y Γ c_Text_append 3 "StageDispatcher$Text") (hr : meth.sig.returnType = (some .boolean)) {ρ : Int32 × gk_M}   {a0 : Option Nat} {x1 : Int32} {M : gk_M} (h : fn_Text_append  a0 x1 M = some ρ) : Gk p l e rm_Text_append s m args below meth c gk_Y Γ 3 (MQ below (gk_Q gk_Y Γ (some (.int ρ.1)) ρ.2) args s rm_Text_append.cells rm_Text_append.slots (fun q => Γ.2.2 ≤ q)) 0 0 M 0 [some (va_rf a0), some (.int x1), none] [] := by
  unfold fn_Text_append at h
  refine Gk_iload_n (i := 1) (x := x1) B d_Text_append_0 rfl rfl ?_
  refine Gk_bipush (v := 97) B d_Text_append_1 (by decide) ?_
  refine Gk_icmp_lt (tgt := 12) B d_Text_append_3 rfl (fun c3 => ?_) (fun c3 => ?_)
  · rw [if_pos c3] at h
    exact sn_Text_append_12 B hr h
  rw [if_neg c3] at h
  refine Gk_iload_n (i := 1) (x := x1) B d_Text_append_6 rfl rfl ?_
  refine Gk_bipush (v := 122) B d_Text_append_7 (by decide) ?_
  refine Gk_icmp_le (tgt := 42) B d_Text_append_9 rfl (fun c9 => ?_) (fun c9 => ?_)
  · rw [if_pos c9] at h
    exact sn_Text_append_42 B hr h
  rw [if_neg c9] at h
  exact sn_Text_append_12 B hr h
theorem sn_Text_append {l : Launch} {Γ : gk_G} {a0 : Option Nat} {x1 : Int32} {M : gk_M} {ρ : Int32 × gk_M} (h : fn_Text_append a0 x1 M = some ρ) : gk_Met l gk_Y Γ y_Text_append (.code y_Text_append c_Text_append 3 (some .boolean) :: gk_Y.2.2.2) rm_Text_append [va_rf a0, .int x1] M (some (.int ρ.1)) ρ.2 :=
  gk_start (by decide) (by simp [lg_sl, gk_rc, gk_ic, gk_jc]) [some (va_rf a0), some (.int x1), none] (by simp [gk_as, lv_args, gk_rc, gk_ic, gk_jc]) (fun p e s m args below meth c B hr hin => sn_Text_append_0 B hr h)
theorem d_SD_put_0 : decode c_SD_put 0 = .ok (.aload_n 0, 1) := by decide +kernel
theorem d_SD_put_1 : decode c_SD_put 1 = .ok (.getfield 10, 3) := by decide +kernel
theorem d_SD_put_4 : decode c_SD_put 4 = .ok (.iload_n 1, 1) := by decide +kernel
theorem d_SD_put_5 : decode c_SD_put 5 = .ok (.invokevirtual 55, 3) := by decide +kernel
theorem d_SD_put_8 : decode c_SD_put 8 = .ok (.ireturn, 1) := by decide +kernel
set_option maxHeartbeats 4000000 in
set_option maxRecDepth 100000 in
theorem sn_SD_put_0 {l : Launch} {Γ : gk_G} {p : Program} {e : Env} {s : State} {m : MethodId} {args : Array Value} {below : List Frame} {meth : Method} {c : Code} (B : gk_B p s m args meth c gk_Y Γ c_SD_put 2 "StageDispatcher") (hr : meth.sig.returnType = (some .boolean)) {ρ : Int32 × gk_M}   {a0 : Option Nat} {x1 : Int32} {M : gk_M} (h : fn_SD_put  a0 x1 M = some ρ) : Gk p l e rm_SD_put s m args below meth c gk_Y Γ 2 (MQ below (gk_Q gk_Y Γ (some (.int ρ.1)) ρ.2) args s rm_SD_put.cells rm_SD_put.slots (fun q => Γ.2.2 ≤ q)) 0 0 M 0 [some (va_rf a0), some (.int x1)] [] := by
  unfold fn_SD_put at h
  refine Gk_aload_n (i := 0) (r := a0) B d_SD_put_0 rfl rfl ?_
  obtain ⟨v1, h1, h⟩ := gk_bind h
  refine Gk_getR (j := 0) B d_SD_put_1 in_SD cl_SD (by decide) tw_278 rfl h1 ?_
  refine Gk_iload_n (i := 1) (x := x1) B d_SD_put_4 rfl rfl ?_
  obtain ⟨o5, g5, h⟩ := gk_bind h
  obtain ⟨w5, h5, h⟩ := gk_bind h
  refine Gk_callV (As := [.int x1]) (rest := []) (st1 := [.int w5.1]) (k1 := 0) (n1 := 0) B gk_hG d_SD_put_5 (sn_Text_append h5) g5 cl_Text tw_307 tw_304 tw_305 tw_306 tw_41 nm_Text_append rfl (by decide) ⟨by decide, by decide⟩ ⟨by decide, by decide⟩ rfl rfl rfl rfl ?_
  obtain ⟨z, hz, h⟩ := gk_bind h
  obtain ⟨hz1, hz2⟩ := gk_z_eq hz
  cases h
  subst hz1
  exact Gk_iret B hr d_SD_put_8 (gk_nz hz2) (by decide) (by decide) rfl
theorem sn_SD_put {l : Launch} {Γ : gk_G} {a0 : Option Nat} {x1 : Int32} {M : gk_M} {ρ : Int32 × gk_M} (h : fn_SD_put a0 x1 M = some ρ) : gk_Met l gk_Y Γ y_SD_put (.code y_SD_put c_SD_put 2 (some .boolean) :: gk_Y.2.2.2) rm_SD_put [va_rf a0, .int x1] M (some (.int ρ.1)) ρ.2 :=
  gk_start (by decide) (by simp [lg_sl, gk_rc, gk_ic, gk_jc]) [some (va_rf a0), some (.int x1)] (by simp [gk_as, lv_args, gk_rc, gk_ic, gk_jc]) (fun p e s m args below meth c B hr hin => sn_SD_put_0 B hr h)
theorem d_Mo_put_0 : decode c_Mo_put 0 = .ok (.iload_n 1, 1) := by decide +kernel
theorem d_Mo_put_1 : decode c_Mo_put 1 = .ok (.bipush 97, 2) := by decide +kernel
theorem d_Mo_put_3 : decode c_Mo_put 3 = .ok (.if_icmp .lt 9, 3) := by decide +kernel
theorem d_Mo_put_6 : decode c_Mo_put 6 = .ok (.iload_n 1, 1) := by decide +kernel
theorem d_Mo_put_7 : decode c_Mo_put 7 = .ok (.bipush 122, 2) := by decide +kernel
theorem d_Mo_put_9 : decode c_Mo_put 9 = .ok (.if_icmp .le 33, 3) := by decide +kernel
theorem d_Mo_put_12 : decode c_Mo_put 12 = .ok (.iload_n 1, 1) := by decide +kernel
theorem d_Mo_put_13 : decode c_Mo_put 13 = .ok (.bipush 48, 2) := by decide +kernel
theorem d_Mo_put_15 : decode c_Mo_put 15 = .ok (.if_icmp .lt 9, 3) := by decide +kernel
theorem d_Mo_put_18 : decode c_Mo_put 18 = .ok (.iload_n 1, 1) := by decide +kernel
theorem d_Mo_put_19 : decode c_Mo_put 19 = .ok (.bipush 57, 2) := by decide +kernel
theorem d_Mo_put_21 : decode c_Mo_put 21 = .ok (.if_icmp .le 21, 3) := by decide +kernel
theorem d_Mo_put_24 : decode c_Mo_put 24 = .ok (.iload_n 1, 1) := by decide +kernel
theorem d_Mo_put_25 : decode c_Mo_put 25 = .ok (.bipush 47, 2) := by decide +kernel
theorem d_Mo_put_27 : decode c_Mo_put 27 = .ok (.if_icmp .eq 15, 3) := by decide +kernel
theorem d_Mo_put_30 : decode c_Mo_put 30 = .ok (.iload_n 1, 1) := by decide +kernel
theorem d_Mo_put_31 : decode c_Mo_put 31 = .ok (.bipush 123, 2) := by decide +kernel
theorem d_Mo_put_33 : decode c_Mo_put 33 = .ok (.if_icmp .eq 9, 3) := by decide +kernel
theorem d_Mo_put_36 : decode c_Mo_put 36 = .ok (.iload_n 1, 1) := by decide +kernel
theorem d_Mo_put_37 : decode c_Mo_put 37 = .ok (.bipush 125, 2) := by decide +kernel
theorem d_Mo_put_39 : decode c_Mo_put 39 = .ok (.if_icmp .ne 7, 3) := by decide +kernel
theorem d_Mo_put_42 : decode c_Mo_put 42 = .ok (.iconst 1, 1) := by decide +kernel
theorem d_Mo_put_43 : decode c_Mo_put 43 = .ok (.goto 4, 3) := by decide +kernel
theorem d_Mo_put_46 : decode c_Mo_put 46 = .ok (.iconst 0, 1) := by decide +kernel
theorem d_Mo_put_47 : decode c_Mo_put 47 = .ok (.istore_n 2, 1) := by decide +kernel
theorem d_Mo_put_48 : decode c_Mo_put 48 = .ok (.iload_n 2, 1) := by decide +kernel
theorem d_Mo_put_49 : decode c_Mo_put 49 = .ok (.ifCond .eq 12, 3) := by decide +kernel
theorem d_Mo_put_52 : decode c_Mo_put 52 = .ok (.aload_n 0, 1) := by decide +kernel
theorem d_Mo_put_53 : decode c_Mo_put 53 = .ok (.getfield 118, 3) := by decide +kernel
theorem d_Mo_put_56 : decode c_Mo_put 56 = .ok (.bipush 24, 2) := by decide +kernel
theorem d_Mo_put_58 : decode c_Mo_put 58 = .ok (.if_icmp .lt 5, 3) := by decide +kernel
theorem d_Mo_put_61 : decode c_Mo_put 61 = .ok (.iconst 0, 1) := by decide +kernel
theorem d_Mo_put_62 : decode c_Mo_put 62 = .ok (.ireturn, 1) := by decide +kernel
theorem d_Mo_put_63 : decode c_Mo_put 63 = .ok (.aload_n 0, 1) := by decide +kernel
theorem d_Mo_put_64 : decode c_Mo_put 64 = .ok (.getfield 7, 3) := by decide +kernel
theorem d_Mo_put_67 : decode c_Mo_put 67 = .ok (.aload_n 0, 1) := by decide +kernel
theorem d_Mo_put_68 : decode c_Mo_put 68 = .ok (.getfield 118, 3) := by decide +kernel
theorem d_Mo_put_71 : decode c_Mo_put 71 = .ok (.iload_n 1, 1) := by decide +kernel
theorem d_Mo_put_72 : decode c_Mo_put 72 = .ok (.castore, 1) := by decide +kernel
theorem d_Mo_put_73 : decode c_Mo_put 73 = .ok (.aload_n 0, 1) := by decide +kernel
theorem d_Mo_put_74 : decode c_Mo_put 74 = .ok (.dup, 1) := by decide +kernel
theorem d_Mo_put_75 : decode c_Mo_put 75 = .ok (.getfield 118, 3) := by decide +kernel
theorem d_Mo_put_78 : decode c_Mo_put 78 = .ok (.iconst 1, 1) := by decide +kernel
theorem d_Mo_put_79 : decode c_Mo_put 79 = .ok (.iadd, 1) := by decide +kernel
theorem d_Mo_put_80 : decode c_Mo_put 80 = .ok (.putfield 118, 3) := by decide +kernel
theorem d_Mo_put_83 : decode c_Mo_put 83 = .ok (.iconst 1, 1) := by decide +kernel
theorem d_Mo_put_84 : decode c_Mo_put 84 = .ok (.ireturn, 1) := by decide +kernel
set_option maxHeartbeats 4000000 in
set_option maxRecDepth 100000 in
theorem sn_Mo_put_47 {l : Launch} {Γ : gk_G} {p : Program} {e : Env} {s : State} {m : MethodId} {args : Array Value} {below : List Frame} {meth : Method} {c : Code} (B : gk_B p s m args meth c gk_Y Γ c_Mo_put 3 "StageDispatcherModel") (hr : meth.sig.returnType = (some .boolean)) {ρ : Int32 × gk_M}   {a0 : Option Nat} {x1 : Int32} {s0 : Int32} {M : gk_M} (h : fn_Mo_put_47  a0 x1 s0 M = some ρ) : Gk p l e rm_Mo_put s m args below meth c gk_Y Γ 3 (MQ below (gk_Q gk_Y Γ (some (.int ρ.1)) ρ.2) args s rm_Mo_put.cells rm_Mo_put.slots (fun q => Γ.2.2 ≤ q)) 0 0 M 47 [some (va_rf a0), some (.int x1), none] [.int s0] := by
  unfold fn_Mo_put_47 at h
  refine Gk_istore_n (i := 2) (L' := [some (va_rf a0), some (.int x1), some (.int s0)]) B d_Mo_put_47 rfl (by decide) (gk_c1_i rfl) rfl ?_
  refine Gk_iload_n (i := 2) (x := s0) B d_Mo_put_48 rfl rfl ?_
  refine Gk_if_eq (tgt := 61) B d_Mo_put_49 rfl (fun c49 => ?_) (fun c49 => ?_)
  · rw [if_pos c49] at h
    refine Gk_iconst (v := 0) B d_Mo_put_61 (by decide) ?_
    obtain ⟨z, hz, h⟩ := gk_bind h
    obtain ⟨hz1, hz2⟩ := gk_z_eq hz
    cases h
    subst hz1
    exact Gk_iret B hr d_Mo_put_62 (gk_nz hz2) (by decide) (by decide) rfl
  rw [if_neg c49] at h
  refine Gk_aload_n (i := 0) (r := a0) B d_Mo_put_52 rfl rfl ?_
  obtain ⟨v53, h53, h⟩ := gk_bind h
  refine Gk_getI (j := 1) B d_Mo_put_53 in_Mo cl_Mo (by decide) tw_756 rfl h53 ?_
  refine Gk_bipush (v := 24) B d_Mo_put_56 (by decide) ?_
  refine Gk_icmp_lt (tgt := 63) B d_Mo_put_58 rfl (fun c58 => ?_) (fun c58 => ?_)
  · rw [if_pos c58] at h
    refine Gk_aload_n (i := 0) (r := a0) B d_Mo_put_63 rfl rfl ?_
    obtain ⟨v64, h64, h⟩ := gk_bind h
    refine Gk_getR (j := 0) B d_Mo_put_64 in_Mo cl_Mo (by decide) tw_755 rfl h64 ?_
    refine Gk_aload_n (i := 0) (r := a0) B d_Mo_put_67 rfl rfl ?_
    obtain ⟨v68, h68, h⟩ := gk_bind h
    refine Gk_getI (j := 1) B d_Mo_put_68 in_Mo cl_Mo (by decide) tw_756 rfl h68 ?_
    refine Gk_iload_n (i := 1) (x := x1) B d_Mo_put_71 rfl rfl ?_
    obtain ⟨M72, h72, h⟩ := gk_bind h
    refine Gk_castore B d_Mo_put_72 ty_1 h72 ?_
    refine Gk_aload_n (i := 0) (r := a0) B d_Mo_put_73 rfl rfl ?_
    refine Gk_dup B d_Mo_put_74 (gk_rc _) ?_
    obtain ⟨v75, h75, h⟩ := gk_bind h
    refine Gk_getI (j := 1) B d_Mo_put_75 in_Mo cl_Mo (by decide) tw_756 rfl h75 ?_
    refine Gk_iconst (v := 1) B d_Mo_put_78 (by decide) ?_
    refine Gk_iadd B d_Mo_put_79 ?_
    obtain ⟨M80, h80, h⟩ := gk_bind h
    refine Gk_put (j := 1) (ty := .int) B d_Mo_put_80 in_Mo t_Mo t_Mo_ok n_Mo cl_Mo (by decide) tw_756 rfl rfl rfl rfl rfl h80 ?_
    refine Gk_iconst (v := 1) B d_Mo_put_83 (by decide) ?_
    obtain ⟨z, hz, h⟩ := gk_bind h
    obtain ⟨hz1, hz2⟩ := gk_z_eq hz
    cases h
    subst hz1
    exact Gk_iret B hr d_Mo_put_84 (gk_nz hz2) (by decide) (by decide) rfl
  rw [if_neg c58] at h
  refine Gk_iconst (v := 0) B d_Mo_put_61 (by decide) ?_
  obtain ⟨z, hz, h⟩ := gk_bind h
  obtain ⟨hz1, hz2⟩ := gk_z_eq hz
  cases h
  subst hz1
  exact Gk_iret B hr d_Mo_put_62 (gk_nz hz2) (by decide) (by decide) rfl
set_option maxHeartbeats 4000000 in
set_option maxRecDepth 100000 in
theorem sn_Mo_put_42 {l : Launch} {Γ : gk_G} {p : Program} {e : Env} {s : State} {m : MethodId} {args : Array Value} {below : List Frame} {meth : Method} {c : Code} (B : gk_B p s m args meth c gk_Y Γ c_Mo_put 3 "StageDispatcherModel") (hr : meth.sig.returnType = (some .boolean)) {ρ : Int32 × gk_M}   {a0 : Option Nat} {x1 : Int32} {M : gk_M} (h : fn_Mo_put_42  a0 x1 M = some ρ) : Gk p l e rm_Mo_put s m args below meth c gk_Y Γ 3 (MQ below (gk_Q gk_Y Γ (some (.int ρ.1)) ρ.2) args s rm_Mo_put.cells rm_Mo_put.slots (fun q => Γ.2.2 ≤ q)) 0 0 M 42 [some (va_rf a0), some (.int x1), none] [] := by
  unfold fn_Mo_put_42 at h
  refine Gk_iconst (v := 1) B d_Mo_put_42 (by decide) ?_
  refine Gk_goto (tgt := 47) B d_Mo_put_43 rfl ?_
  exact sn_Mo_put_47 B hr h
set_option maxHeartbeats 4000000 in
set_option maxRecDepth 100000 in
theorem sn_Mo_put_24 {l : Launch} {Γ : gk_G} {p : Program} {e : Env} {s : State} {m : MethodId} {args : Array Value} {below : List Frame} {meth : Method} {c : Code} (B : gk_B p s m args meth c gk_Y Γ c_Mo_put 3 "StageDispatcherModel") (hr : meth.sig.returnType = (some .boolean)) {ρ : Int32 × gk_M}   {a0 : Option Nat} {x1 : Int32} {M : gk_M} (h : fn_Mo_put_24  a0 x1 M = some ρ) : Gk p l e rm_Mo_put s m args below meth c gk_Y Γ 3 (MQ below (gk_Q gk_Y Γ (some (.int ρ.1)) ρ.2) args s rm_Mo_put.cells rm_Mo_put.slots (fun q => Γ.2.2 ≤ q)) 0 0 M 24 [some (va_rf a0), some (.int x1), none] [] := by
  unfold fn_Mo_put_24 at h
  refine Gk_iload_n (i := 1) (x := x1) B d_Mo_put_24 rfl rfl ?_
  refine Gk_bipush (v := 47) B d_Mo_put_25 (by decide) ?_
  refine Gk_icmp_eq (tgt := 42) B d_Mo_put_27 rfl (fun c27 => ?_) (fun c27 => ?_)
  · rw [if_pos c27] at h
    exact sn_Mo_put_42 B hr h
  rw [if_neg c27] at h
  refine Gk_iload_n (i := 1) (x := x1) B d_Mo_put_30 rfl rfl ?_
  refine Gk_bipush (v := 123) B d_Mo_put_31 (by decide) ?_
  refine Gk_icmp_eq (tgt := 42) B d_Mo_put_33 rfl (fun c33 => ?_) (fun c33 => ?_)
  · rw [if_pos c33] at h
    exact sn_Mo_put_42 B hr h
  rw [if_neg c33] at h
  refine Gk_iload_n (i := 1) (x := x1) B d_Mo_put_36 rfl rfl ?_
  refine Gk_bipush (v := 125) B d_Mo_put_37 (by decide) ?_
  refine Gk_icmp_ne (tgt := 46) B d_Mo_put_39 rfl (fun c39 => ?_) (fun c39 => ?_)
  · rw [if_neg c39] at h
    refine Gk_iconst (v := 0) B d_Mo_put_46 (by decide) ?_
    exact sn_Mo_put_47 B hr h
  rw [if_pos c39] at h
  exact sn_Mo_put_42 B hr h
set_option maxHeartbeats 4000000 in
set_option maxRecDepth 100000 in
theorem sn_Mo_put_12 {l : Launch} {Γ : gk_G} {p : Program} {e : Env} {s : State} {m : MethodId} {args : Array Value} {below : List Frame} {meth : Method} {c : Code} (B : gk_B p s m args meth c gk_Y Γ c_Mo_put 3 "StageDispatcherModel") (hr : meth.sig.returnType = (some .boolean)) {ρ : Int32 × gk_M}   {a0 : Option Nat} {x1 : Int32} {M : gk_M} (h : fn_Mo_put_12  a0 x1 M = some ρ) : Gk p l e rm_Mo_put s m args below meth c gk_Y Γ 3 (MQ below (gk_Q gk_Y Γ (some (.int ρ.1)) ρ.2) args s rm_Mo_put.cells rm_Mo_put.slots (fun q => Γ.2.2 ≤ q)) 0 0 M 12 [some (va_rf a0), some (.int x1), none] [] := by
  unfold fn_Mo_put_12 at h
  refine Gk_iload_n (i := 1) (x := x1) B d_Mo_put_12 rfl rfl ?_
  refine Gk_bipush (v := 48) B d_Mo_put_13 (by decide) ?_
  refine Gk_icmp_lt (tgt := 24) B d_Mo_put_15 rfl (fun c15 => ?_) (fun c15 => ?_)
  · rw [if_pos c15] at h
    exact sn_Mo_put_24 B hr h
  rw [if_neg c15] at h
  refine Gk_iload_n (i := 1) (x := x1) B d_Mo_put_18 rfl rfl ?_
  refine Gk_bipush (v := 57) B d_Mo_put_19 (by decide) ?_
  refine Gk_icmp_le (tgt := 42) B d_Mo_put_21 rfl (fun c21 => ?_) (fun c21 => ?_)
  · rw [if_pos c21] at h
    exact sn_Mo_put_42 B hr h
  rw [if_neg c21] at h
  exact sn_Mo_put_24 B hr h
set_option maxHeartbeats 4000000 in
set_option maxRecDepth 100000 in
theorem sn_Mo_put_0 {l : Launch} {Γ : gk_G} {p : Program} {e : Env} {s : State} {m : MethodId} {args : Array Value} {below : List Frame} {meth : Method} {c : Code} (B : gk_B p s m args meth c gk_Y Γ c_Mo_put 3 "StageDispatcherModel") (hr : meth.sig.returnType = (some .boolean)) {ρ : Int32 × gk_M}   {a0 : Option Nat} {x1 : Int32} {M : gk_M} (h : fn_Mo_put  a0 x1 M = some ρ) : Gk p l e rm_Mo_put s m args below meth c gk_Y Γ 3 (MQ below (gk_Q gk_Y Γ (some (.int ρ.1)) ρ.2) args s rm_Mo_put.cells rm_Mo_put.slots (fun q => Γ.2.2 ≤ q)) 0 0 M 0 [some (va_rf a0), some (.int x1), none] [] := by
  unfold fn_Mo_put at h
  refine Gk_iload_n (i := 1) (x := x1) B d_Mo_put_0 rfl rfl ?_
  refine Gk_bipush (v := 97) B d_Mo_put_1 (by decide) ?_
  refine Gk_icmp_lt (tgt := 12) B d_Mo_put_3 rfl (fun c3 => ?_) (fun c3 => ?_)
  · rw [if_pos c3] at h
    exact sn_Mo_put_12 B hr h
  rw [if_neg c3] at h
  refine Gk_iload_n (i := 1) (x := x1) B d_Mo_put_6 rfl rfl ?_
  refine Gk_bipush (v := 122) B d_Mo_put_7 (by decide) ?_
  refine Gk_icmp_le (tgt := 42) B d_Mo_put_9 rfl (fun c9 => ?_) (fun c9 => ?_)
  · rw [if_pos c9] at h
    exact sn_Mo_put_42 B hr h
  rw [if_neg c9] at h
  exact sn_Mo_put_12 B hr h
theorem sn_Mo_put {l : Launch} {Γ : gk_G} {a0 : Option Nat} {x1 : Int32} {M : gk_M} {ρ : Int32 × gk_M} (h : fn_Mo_put a0 x1 M = some ρ) : gk_Met l gk_Y Γ y_Mo_put (.code y_Mo_put c_Mo_put 3 (some .boolean) :: gk_Y.2.2.2) rm_Mo_put [va_rf a0, .int x1] M (some (.int ρ.1)) ρ.2 :=
  gk_start (by decide) (by simp [lg_sl, gk_rc, gk_ic, gk_jc]) [some (va_rf a0), some (.int x1), none] (by simp [gk_as, lv_args, gk_rc, gk_ic, gk_jc]) (fun p e s m args below meth c B hr hin => sn_Mo_put_0 B hr h)
theorem d_Text_has_0 : decode c_Text_has 0 = .ok (.iload_n 1, 1) := by decide +kernel
theorem d_Text_has_1 : decode c_Text_has 1 = .ok (.ifCond .lt 25, 3) := by decide +kernel
theorem d_Text_has_4 : decode c_Text_has 4 = .ok (.iload_n 1, 1) := by decide +kernel
theorem d_Text_has_5 : decode c_Text_has 5 = .ok (.aload_n 0, 1) := by decide +kernel
theorem d_Text_has_6 : decode c_Text_has 6 = .ok (.getfield 15, 3) := by decide +kernel
theorem d_Text_has_9 : decode c_Text_has 9 = .ok (.if_icmp .ge 17, 3) := by decide +kernel
theorem d_Text_has_12 : decode c_Text_has 12 = .ok (.aload_n 0, 1) := by decide +kernel
theorem d_Text_has_13 : decode c_Text_has 13 = .ok (.getfield 9, 3) := by decide +kernel
theorem d_Text_has_16 : decode c_Text_has 16 = .ok (.iload_n 1, 1) := by decide +kernel
theorem d_Text_has_17 : decode c_Text_has 17 = .ok (.caload, 1) := by decide +kernel
theorem d_Text_has_18 : decode c_Text_has 18 = .ok (.iload_n 2, 1) := by decide +kernel
theorem d_Text_has_19 : decode c_Text_has 19 = .ok (.if_icmp .ne 7, 3) := by decide +kernel
theorem d_Text_has_22 : decode c_Text_has 22 = .ok (.iconst 1, 1) := by decide +kernel
theorem d_Text_has_23 : decode c_Text_has 23 = .ok (.goto 4, 3) := by decide +kernel
theorem d_Text_has_26 : decode c_Text_has 26 = .ok (.iconst 0, 1) := by decide +kernel
theorem d_Text_has_27 : decode c_Text_has 27 = .ok (.ireturn, 1) := by decide +kernel
set_option maxHeartbeats 4000000 in
set_option maxRecDepth 100000 in
theorem sn_Text_has_26 {l : Launch} {Γ : gk_G} {p : Program} {e : Env} {s : State} {m : MethodId} {args : Array Value} {below : List Frame} {meth : Method} {c : Code} (B : gk_B p s m args meth c gk_Y Γ c_Text_has 3 "StageDispatcher$Text") (hr : meth.sig.returnType = (some .boolean)) {ρ : Int32 × gk_M}    {M : gk_M} (h : fn_Text_has_26   M = some ρ) : Gk p l e rm_Text_has s m args below meth c gk_Y Γ 3 (MQ below (gk_Q gk_Y Γ (some (.int ρ.1)) ρ.2) args s rm_Text_has.cells rm_Text_has.slots (fun q => Γ.2.2 ≤ q)) 0 0 M 26 [none, none, none] [] := by
  unfold fn_Text_has_26 at h
  refine Gk_iconst (v := 0) B d_Text_has_26 (by decide) ?_
  obtain ⟨z, hz, h⟩ := gk_bind h
  obtain ⟨hz1, hz2⟩ := gk_z_eq hz
  cases h
  subst hz1
  exact Gk_iret B hr d_Text_has_27 (gk_nz hz2) (by decide) (by decide) rfl
set_option maxHeartbeats 4000000 in
set_option maxRecDepth 100000 in
theorem sn_Text_has_0 {l : Launch} {Γ : gk_G} {p : Program} {e : Env} {s : State} {m : MethodId} {args : Array Value} {below : List Frame} {meth : Method} {c : Code} (B : gk_B p s m args meth c gk_Y Γ c_Text_has 3 "StageDispatcher$Text") (hr : meth.sig.returnType = (some .boolean)) {ρ : Int32 × gk_M}   {a0 : Option Nat} {x1 : Int32} {x2 : Int32} {M : gk_M} (h : fn_Text_has  a0 x1 x2 M = some ρ) : Gk p l e rm_Text_has s m args below meth c gk_Y Γ 3 (MQ below (gk_Q gk_Y Γ (some (.int ρ.1)) ρ.2) args s rm_Text_has.cells rm_Text_has.slots (fun q => Γ.2.2 ≤ q)) 0 0 M 0 [some (va_rf a0), some (.int x1), some (.int x2)] [] := by
  unfold fn_Text_has at h
  refine Gk_iload_n (i := 1) (x := x1) B d_Text_has_0 rfl rfl ?_
  refine Gk_if_lt (tgt := 26) B d_Text_has_1 rfl (fun c1 => ?_) (fun c1 => ?_)
  · rw [if_pos c1] at h
    refine Gk_weak [false, false, false] (L' := [none, none, none]) rfl ?_
    exact sn_Text_has_26 B hr h
  rw [if_neg c1] at h
  refine Gk_iload_n (i := 1) (x := x1) B d_Text_has_4 rfl rfl ?_
  refine Gk_aload_n (i := 0) (r := a0) B d_Text_has_5 rfl rfl ?_
  obtain ⟨v6, h6, h⟩ := gk_bind h
  refine Gk_getI (j := 1) B d_Text_has_6 in_Text cl_Text (by decide) tw_76 rfl h6 ?_
  refine Gk_icmp_ge (tgt := 26) B d_Text_has_9 rfl (fun c9 => ?_) (fun c9 => ?_)
  · rw [if_pos c9] at h
    refine Gk_weak [false, false, false] (L' := [none, none, none]) rfl ?_
    exact sn_Text_has_26 B hr h
  rw [if_neg c9] at h
  refine Gk_aload_n (i := 0) (r := a0) B d_Text_has_12 rfl rfl ?_
  obtain ⟨v13, h13, h⟩ := gk_bind h
  refine Gk_getR (j := 0) B d_Text_has_13 in_Text cl_Text (by decide) tw_70 rfl h13 ?_
  refine Gk_iload_n (i := 1) (x := x1) B d_Text_has_16 rfl rfl ?_
  obtain ⟨v17, h17, h⟩ := gk_bind h
  refine Gk_caload B d_Text_has_17 ty_1 h17 ?_
  refine Gk_iload_n (i := 2) (x := x2) B d_Text_has_18 rfl rfl ?_
  refine Gk_icmp_ne (tgt := 26) B d_Text_has_19 rfl (fun c19 => ?_) (fun c19 => ?_)
  · rw [if_neg c19] at h
    refine Gk_weak [false, false, false] (L' := [none, none, none]) rfl ?_
    exact sn_Text_has_26 B hr h
  rw [if_pos c19] at h
  refine Gk_iconst (v := 1) B d_Text_has_22 (by decide) ?_
  refine Gk_goto (tgt := 27) B d_Text_has_23 rfl ?_
  obtain ⟨z, hz, h⟩ := gk_bind h
  obtain ⟨hz1, hz2⟩ := gk_z_eq hz
  cases h
  subst hz1
  exact Gk_iret B hr d_Text_has_27 (gk_nz hz2) (by decide) (by decide) rfl
theorem sn_Text_has {l : Launch} {Γ : gk_G} {a0 : Option Nat} {x1 : Int32} {x2 : Int32} {M : gk_M} {ρ : Int32 × gk_M} (h : fn_Text_has a0 x1 x2 M = some ρ) : gk_Met l gk_Y Γ y_Text_has (.code y_Text_has c_Text_has 3 (some .boolean) :: gk_Y.2.2.2) rm_Text_has [va_rf a0, .int x1, .int x2] M (some (.int ρ.1)) ρ.2 :=
  gk_start (by decide) (by simp [lg_sl, gk_rc, gk_ic, gk_jc]) [some (va_rf a0), some (.int x1), some (.int x2)] (by simp [gk_as, lv_args, gk_rc, gk_ic, gk_jc]) (fun p e s m args below meth c B hr hin => sn_Text_has_0 B hr h)
