theorem d_Mo_weigh_0 : decode c_Mo_weigh 0 = .ok (.aload_n 0, 1) := by decide +kernel
theorem d_Mo_weigh_1 : decode c_Mo_weigh 1 = .ok (.getfield 29, 3) := by decide +kernel
theorem d_Mo_weigh_4 : decode c_Mo_weigh 4 = .ok (.iload_n 1, 1) := by decide +kernel
theorem d_Mo_weigh_5 : decode c_Mo_weigh 5 = .ok (.iaload, 1) := by decide +kernel
theorem d_Mo_weigh_6 : decode c_Mo_weigh 6 = .ok (.istore 5, 2) := by decide +kernel
theorem d_Mo_weigh_8 : decode c_Mo_weigh 8 = .ok (.iload 4, 2) := by decide +kernel
theorem d_Mo_weigh_10 : decode c_Mo_weigh 10 = .ok (.ifCond .eq 12, 3) := by decide +kernel
theorem d_Mo_weigh_13 : decode c_Mo_weigh 13 = .ok (.iload 5, 2) := by decide +kernel
theorem d_Mo_weigh_15 : decode c_Mo_weigh 15 = .ok (.iload_n 3, 1) := by decide +kernel
theorem d_Mo_weigh_16 : decode c_Mo_weigh 16 = .ok (.invokestatic 212, 3) := by decide +kernel
theorem d_Mo_weigh_19 : decode c_Mo_weigh 19 = .ok (.ifCond .ne 4, 3) := by decide +kernel
theorem d_Mo_weigh_22 : decode c_Mo_weigh 22 = .ok (.return_, 1) := by decide +kernel
theorem d_Mo_weigh_23 : decode c_Mo_weigh 23 = .ok (.iload 5, 2) := by decide +kernel
theorem d_Mo_weigh_25 : decode c_Mo_weigh 25 = .ok (.iload_n 3, 1) := by decide +kernel
theorem d_Mo_weigh_26 : decode c_Mo_weigh 26 = .ok (.invokestatic 152, 3) := by decide +kernel
theorem d_Mo_weigh_29 : decode c_Mo_weigh 29 = .ok (.ifCond .eq 7, 3) := by decide +kernel
theorem d_Mo_weigh_32 : decode c_Mo_weigh 32 = .ok (.iload_n 3, 1) := by decide +kernel
theorem d_Mo_weigh_33 : decode c_Mo_weigh 33 = .ok (.goto 5, 3) := by decide +kernel
theorem d_Mo_weigh_36 : decode c_Mo_weigh 36 = .ok (.iload 5, 2) := by decide +kernel
theorem d_Mo_weigh_38 : decode c_Mo_weigh 38 = .ok (.istore 6, 2) := by decide +kernel
theorem d_Mo_weigh_40 : decode c_Mo_weigh 40 = .ok (.iload 5, 2) := by decide +kernel
theorem d_Mo_weigh_42 : decode c_Mo_weigh 42 = .ok (.invokestatic 215, 3) := by decide +kernel
theorem d_Mo_weigh_45 : decode c_Mo_weigh 45 = .ok (.iload_n 3, 1) := by decide +kernel
theorem d_Mo_weigh_46 : decode c_Mo_weigh 46 = .ok (.invokestatic 215, 3) := by decide +kernel
theorem d_Mo_weigh_49 : decode c_Mo_weigh 49 = .ok (.isub, 1) := by decide +kernel
theorem d_Mo_weigh_50 : decode c_Mo_weigh 50 = .ok (.istore 7, 2) := by decide +kernel
theorem d_Mo_weigh_52 : decode c_Mo_weigh 52 = .ok (.iload_n 2, 1) := by decide +kernel
theorem d_Mo_weigh_53 : decode c_Mo_weigh 53 = .ok (.ifCond .ne 7, 3) := by decide +kernel
theorem d_Mo_weigh_56 : decode c_Mo_weigh 56 = .ok (.lconst 0, 1) := by decide +kernel
theorem d_Mo_weigh_57 : decode c_Mo_weigh 57 = .ok (.goto 13, 3) := by decide +kernel
theorem d_Mo_weigh_60 : decode c_Mo_weigh 60 = .ok (.aload_n 0, 1) := by decide +kernel
theorem d_Mo_weigh_61 : decode c_Mo_weigh 61 = .ok (.getfield 26, 3) := by decide +kernel
theorem d_Mo_weigh_64 : decode c_Mo_weigh 64 = .ok (.iload_n 1, 1) := by decide +kernel
theorem d_Mo_weigh_65 : decode c_Mo_weigh 65 = .ok (.iaload, 1) := by decide +kernel
theorem d_Mo_weigh_66 : decode c_Mo_weigh 66 = .ok (.invokestatic 215, 3) := by decide +kernel
theorem d_Mo_weigh_69 : decode c_Mo_weigh 69 = .ok (.i2l, 1) := by decide +kernel
theorem d_Mo_weigh_70 : decode c_Mo_weigh 70 = .ok (.lstore 8, 2) := by decide +kernel
theorem d_Mo_weigh_72 : decode c_Mo_weigh 72 = .ok (.ldc2_w 218, 3) := by decide +kernel
theorem d_Mo_weigh_75 : decode c_Mo_weigh 75 = .ok (.lload 8, 2) := by decide +kernel
theorem d_Mo_weigh_77 : decode c_Mo_weigh 77 = .ok (.lmul, 1) := by decide +kernel
theorem d_Mo_weigh_78 : decode c_Mo_weigh 78 = .ok (.iload 6, 2) := by decide +kernel
theorem d_Mo_weigh_80 : decode c_Mo_weigh 80 = .ok (.invokestatic 215, 3) := by decide +kernel
theorem d_Mo_weigh_83 : decode c_Mo_weigh 83 = .ok (.i2l, 1) := by decide +kernel
theorem d_Mo_weigh_84 : decode c_Mo_weigh 84 = .ok (.ladd, 1) := by decide +kernel
theorem d_Mo_weigh_85 : decode c_Mo_weigh 85 = .ok (.lstore 8, 2) := by decide +kernel
theorem d_Mo_weigh_87 : decode c_Mo_weigh 87 = .ok (.ldc2_w 220, 3) := by decide +kernel
theorem d_Mo_weigh_90 : decode c_Mo_weigh 90 = .ok (.lload 8, 2) := by decide +kernel
theorem d_Mo_weigh_92 : decode c_Mo_weigh 92 = .ok (.lmul, 1) := by decide +kernel
theorem d_Mo_weigh_93 : decode c_Mo_weigh 93 = .ok (.iload 4, 2) := by decide +kernel
theorem d_Mo_weigh_95 : decode c_Mo_weigh 95 = .ok (.i2l, 1) := by decide +kernel
theorem d_Mo_weigh_96 : decode c_Mo_weigh 96 = .ok (.ladd, 1) := by decide +kernel
theorem d_Mo_weigh_97 : decode c_Mo_weigh 97 = .ok (.lstore 8, 2) := by decide +kernel
theorem d_Mo_weigh_99 : decode c_Mo_weigh 99 = .ok (.ldc2_w 220, 3) := by decide +kernel
theorem d_Mo_weigh_102 : decode c_Mo_weigh 102 = .ok (.lload 8, 2) := by decide +kernel
theorem d_Mo_weigh_104 : decode c_Mo_weigh 104 = .ok (.lmul, 1) := by decide +kernel
theorem d_Mo_weigh_105 : decode c_Mo_weigh 105 = .ok (.aload_n 0, 1) := by decide +kernel
theorem d_Mo_weigh_106 : decode c_Mo_weigh 106 = .ok (.getfield 32, 3) := by decide +kernel
theorem d_Mo_weigh_109 : decode c_Mo_weigh 109 = .ok (.iload_n 1, 1) := by decide +kernel
theorem d_Mo_weigh_110 : decode c_Mo_weigh 110 = .ok (.iaload, 1) := by decide +kernel
theorem d_Mo_weigh_111 : decode c_Mo_weigh 111 = .ok (.i2l, 1) := by decide +kernel
theorem d_Mo_weigh_112 : decode c_Mo_weigh 112 = .ok (.ladd, 1) := by decide +kernel
theorem d_Mo_weigh_113 : decode c_Mo_weigh 113 = .ok (.lstore 8, 2) := by decide +kernel
theorem d_Mo_weigh_115 : decode c_Mo_weigh 115 = .ok (.ldc2_w 218, 3) := by decide +kernel
theorem d_Mo_weigh_118 : decode c_Mo_weigh 118 = .ok (.lload 8, 2) := by decide +kernel
theorem d_Mo_weigh_120 : decode c_Mo_weigh 120 = .ok (.lmul, 1) := by decide +kernel
theorem d_Mo_weigh_121 : decode c_Mo_weigh 121 = .ok (.ldc2_w 222, 3) := by decide +kernel
theorem d_Mo_weigh_124 : decode c_Mo_weigh 124 = .ok (.ladd, 1) := by decide +kernel
theorem d_Mo_weigh_125 : decode c_Mo_weigh 125 = .ok (.iload 7, 2) := by decide +kernel
theorem d_Mo_weigh_127 : decode c_Mo_weigh 127 = .ok (.ifCond .ge 9, 3) := by decide +kernel
theorem d_Mo_weigh_130 : decode c_Mo_weigh 130 = .ok (.iload 7, 2) := by decide +kernel
theorem d_Mo_weigh_132 : decode c_Mo_weigh 132 = .ok (.ineg, 1) := by decide +kernel
theorem d_Mo_weigh_133 : decode c_Mo_weigh 133 = .ok (.goto 5, 3) := by decide +kernel
theorem d_Mo_weigh_136 : decode c_Mo_weigh 136 = .ok (.iload 7, 2) := by decide +kernel
theorem d_Mo_weigh_138 : decode c_Mo_weigh 138 = .ok (.i2l, 1) := by decide +kernel
theorem d_Mo_weigh_139 : decode c_Mo_weigh 139 = .ok (.lsub, 1) := by decide +kernel
theorem d_Mo_weigh_140 : decode c_Mo_weigh 140 = .ok (.lstore 8, 2) := by decide +kernel
theorem d_Mo_weigh_142 : decode c_Mo_weigh 142 = .ok (.lload 8, 2) := by decide +kernel
theorem d_Mo_weigh_144 : decode c_Mo_weigh 144 = .ok (.aload_n 0, 1) := by decide +kernel
theorem d_Mo_weigh_145 : decode c_Mo_weigh 145 = .ok (.getfield 224, 3) := by decide +kernel
theorem d_Mo_weigh_148 : decode c_Mo_weigh 148 = .ok (.lcmp, 1) := by decide +kernel
theorem d_Mo_weigh_149 : decode c_Mo_weigh 149 = .ok (.ifCond .le 20, 3) := by decide +kernel
theorem d_Mo_weigh_152 : decode c_Mo_weigh 152 = .ok (.aload_n 0, 1) := by decide +kernel
theorem d_Mo_weigh_153 : decode c_Mo_weigh 153 = .ok (.lload 8, 2) := by decide +kernel
theorem d_Mo_weigh_155 : decode c_Mo_weigh 155 = .ok (.putfield 224, 3) := by decide +kernel
theorem d_Mo_weigh_158 : decode c_Mo_weigh 158 = .ok (.aload_n 0, 1) := by decide +kernel
theorem d_Mo_weigh_159 : decode c_Mo_weigh 159 = .ok (.iload 6, 2) := by decide +kernel
theorem d_Mo_weigh_161 : decode c_Mo_weigh 161 = .ok (.putfield 228, 3) := by decide +kernel
theorem d_Mo_weigh_164 : decode c_Mo_weigh 164 = .ok (.aload_n 0, 1) := by decide +kernel
theorem d_Mo_weigh_165 : decode c_Mo_weigh 165 = .ok (.iload_n 1, 1) := by decide +kernel
theorem d_Mo_weigh_166 : decode c_Mo_weigh 166 = .ok (.putfield 115, 3) := by decide +kernel
theorem d_Mo_weigh_169 : decode c_Mo_weigh 169 = .ok (.return_, 1) := by decide +kernel
set_option maxHeartbeats 4000000 in
set_option maxRecDepth 100000 in
theorem sn_Mo_weigh_138 {l : Launch} {Γ : gk_G} {p : Program} {e : Env} {s : State} {m : MethodId} {args : Array Value} {below : List Frame} {meth : Method} {c : Code} (B : gk_B p s m args meth c gk_Y Γ c_Mo_weigh 10 "StageDispatcherModel") (hr : meth.sig.returnType = none) {ρ : gk_M}   {a0 : Option Nat} {x1 : Int32} {x6 : Int32} {s0 : Int64} {s1 : Int32} {M : gk_M} (h : fn_Mo_weigh_138  a0 x1 x6 s0 s1 M = some ρ) : Gk p l e rm_Mo_weigh s m args below meth c gk_Y Γ 10 (MQ below (gk_Q gk_Y Γ none ρ) args s rm_Mo_weigh.cells rm_Mo_weigh.slots (fun q => Γ.2.2 ≤ q)) 0 0 M 138 [some (va_rf a0), some (.int x1), none, none, none, none, some (.int x6), none, none, none] [.int s1, .long s0] := by
  unfold fn_Mo_weigh_138 at h
  refine Gk_i2l B d_Mo_weigh_138 ?_
  refine Gk_lsub B d_Mo_weigh_139 ?_
  refine Gk_lstore (L' := [some (va_rf a0), some (.int x1), none, none, none, none, some (.int x6), none, some (.long (s0 - (s1.toInt64))), none]) B d_Mo_weigh_140 (by decide) (gk_c1_n rfl) rfl ?_
  refine Gk_lload (x := (s0 - (s1.toInt64))) B d_Mo_weigh_142 rfl ?_
  refine Gk_aload_n (i := 0) (r := a0) B d_Mo_weigh_144 rfl rfl ?_
  obtain ⟨v145, h145, h⟩ := gk_bind h
  refine Gk_getJ (j := 55) B d_Mo_weigh_145 in_Mo cl_Mo (by decide) tw_810 rfl h145 ?_
  refine Gk_lcmp B d_Mo_weigh_148 ?_
  refine Gk_if_le (tgt := 169) B d_Mo_weigh_149 rfl (fun c149 => ?_) (fun c149 => ?_)
  · rw [if_pos c149] at h
    cases h
    exact Gk_vret B hr d_Mo_weigh_169 (by decide) (by decide) rfl
  rw [if_neg c149] at h
  refine Gk_aload_n (i := 0) (r := a0) B d_Mo_weigh_152 rfl rfl ?_
  refine Gk_lload (x := (s0 - (s1.toInt64))) B d_Mo_weigh_153 rfl ?_
  obtain ⟨M155, h155, h⟩ := gk_bind h
  refine Gk_put (j := 55) (ty := .long) B d_Mo_weigh_155 in_Mo t_Mo t_Mo_ok n_Mo cl_Mo (by decide) tw_810 rfl rfl rfl rfl rfl h155 ?_
  refine Gk_aload_n (i := 0) (r := a0) B d_Mo_weigh_158 rfl rfl ?_
  refine Gk_iload (x := x6) B d_Mo_weigh_159 rfl ?_
  obtain ⟨M161, h161, h⟩ := gk_bind h
  refine Gk_put (j := 56) (ty := .int) B d_Mo_weigh_161 in_Mo t_Mo t_Mo_ok n_Mo cl_Mo (by decide) tw_811 rfl rfl rfl rfl rfl h161 ?_
  refine Gk_aload_n (i := 0) (r := a0) B d_Mo_weigh_164 rfl rfl ?_
  refine Gk_iload_n (i := 1) (x := x1) B d_Mo_weigh_165 rfl rfl ?_
  obtain ⟨M166, h166, h⟩ := gk_bind h
  refine Gk_put (j := 35) (ty := .int) B d_Mo_weigh_166 in_Mo t_Mo t_Mo_ok n_Mo cl_Mo (by decide) tw_790 rfl rfl rfl rfl rfl h166 ?_
  cases h
  exact Gk_vret B hr d_Mo_weigh_169 (by decide) (by decide) rfl
set_option maxHeartbeats 4000000 in
set_option maxRecDepth 100000 in
theorem sn_Mo_weigh_70 {l : Launch} {Γ : gk_G} {p : Program} {e : Env} {s : State} {m : MethodId} {args : Array Value} {below : List Frame} {meth : Method} {c : Code} (B : gk_B p s m args meth c gk_Y Γ c_Mo_weigh 10 "StageDispatcherModel") (hr : meth.sig.returnType = none) {ρ : gk_M}   {a0 : Option Nat} {x1 : Int32} {x4 : Int32} {x6 : Int32} {x7 : Int32} {s0 : Int64} {M : gk_M} (h : fn_Mo_weigh_70  a0 x1 x4 x6 x7 s0 M = some ρ) : Gk p l e rm_Mo_weigh s m args below meth c gk_Y Γ 10 (MQ below (gk_Q gk_Y Γ none ρ) args s rm_Mo_weigh.cells rm_Mo_weigh.slots (fun q => Γ.2.2 ≤ q)) 0 0 M 70 [some (va_rf a0), some (.int x1), none, none, some (.int x4), none, some (.int x6), some (.int x7), none, none] [.long s0] := by
  unfold fn_Mo_weigh_70 at h
  refine Gk_lstore (L' := [some (va_rf a0), some (.int x1), none, none, some (.int x4), none, some (.int x6), some (.int x7), some (.long s0), none]) B d_Mo_weigh_70 (by decide) (gk_c1_i rfl) rfl ?_
  refine Gk_ldc2 (v := 3) B d_Mo_weigh_72 tw_1075 ?_
  refine Gk_lload (x := s0) B d_Mo_weigh_75 rfl ?_
  refine Gk_lmul B d_Mo_weigh_77 ?_
  refine Gk_iload (x := x6) B d_Mo_weigh_78 rfl ?_
  obtain ⟨w80, h80, h⟩ := gk_bind h
  refine Gk_callS (As := [.int x6]) (rest := [.long ((3 : Int64) * s0)]) (st1 := [.int w80.1, .long ((3 : Int64) * s0)]) (k1 := 0) (n1 := 0) B gk_hG d_Mo_weigh_80 (sn_Mo_rank h80) tw_1074 tw_1072 tw_1073 tw_48 nm_Mo_rank rfl (by simp [gk_rc, gk_ic, gk_jc, rm_Mo_weigh]) ⟨by decide, by decide⟩ ⟨by decide, by decide⟩ rfl rfl rfl rfl ?_
  refine Gk_i2l B d_Mo_weigh_83 ?_
  refine Gk_ladd B d_Mo_weigh_84 ?_
  refine Gk_lstore (L' := [some (va_rf a0), some (.int x1), none, none, some (.int x4), none, some (.int x6), some (.int x7), some (.long (((3 : Int64) * s0) + (w80.1.toInt64))), none]) B d_Mo_weigh_85 (by decide) (gk_c1_i rfl) rfl ?_
  refine Gk_ldc2 (v := 1001) B d_Mo_weigh_87 tw_1076 ?_
  refine Gk_lload (x := (((3 : Int64) * s0) + (w80.1.toInt64))) B d_Mo_weigh_90 rfl ?_
  refine Gk_lmul B d_Mo_weigh_92 ?_
  refine Gk_iload (x := x4) B d_Mo_weigh_93 rfl ?_
  refine Gk_i2l B d_Mo_weigh_95 ?_
  refine Gk_ladd B d_Mo_weigh_96 ?_
  refine Gk_lstore (L' := [some (va_rf a0), some (.int x1), none, none, some (.int x4), none, some (.int x6), some (.int x7), some (.long (((1001 : Int64) * (((3 : Int64) * s0) + (w80.1.toInt64))) + (x4.toInt64))), none]) B d_Mo_weigh_97 (by decide) (gk_c1_i rfl) rfl ?_
  refine Gk_ldc2 (v := 1001) B d_Mo_weigh_99 tw_1076 ?_
  refine Gk_lload (x := (((1001 : Int64) * (((3 : Int64) * s0) + (w80.1.toInt64))) + (x4.toInt64))) B d_Mo_weigh_102 rfl ?_
  refine Gk_lmul B d_Mo_weigh_104 ?_
  refine Gk_aload_n (i := 0) (r := a0) B d_Mo_weigh_105 rfl rfl ?_
  obtain ⟨v106, h106, h⟩ := gk_bind h
  refine Gk_getR (j := 10) B d_Mo_weigh_106 in_Mo cl_Mo (by decide) tw_765 rfl h106 ?_
  refine Gk_iload_n (i := 1) (x := x1) B d_Mo_weigh_109 rfl rfl ?_
  obtain ⟨v110, h110, h⟩ := gk_bind h
  refine Gk_iaload B d_Mo_weigh_110 ty_0 h110 ?_
  refine Gk_i2l B d_Mo_weigh_111 ?_
  refine Gk_ladd B d_Mo_weigh_112 ?_
  refine Gk_lstore (L' := [some (va_rf a0), some (.int x1), none, none, some (.int x4), none, some (.int x6), some (.int x7), some (.long (((1001 : Int64) * (((1001 : Int64) * (((3 : Int64) * s0) + (w80.1.toInt64))) + (x4.toInt64))) + (v110.toInt64))), none]) B d_Mo_weigh_113 (by decide) (gk_c1_i rfl) rfl ?_
  refine Gk_ldc2 (v := 3) B d_Mo_weigh_115 tw_1075 ?_
  refine Gk_lload (x := (((1001 : Int64) * (((1001 : Int64) * (((3 : Int64) * s0) + (w80.1.toInt64))) + (x4.toInt64))) + (v110.toInt64))) B d_Mo_weigh_118 rfl ?_
  refine Gk_lmul B d_Mo_weigh_120 ?_
  refine Gk_ldc2 (v := 2) B d_Mo_weigh_121 tw_1077 ?_
  refine Gk_ladd B d_Mo_weigh_124 ?_
  refine Gk_iload (x := x7) B d_Mo_weigh_125 rfl ?_
  refine Gk_if_ge (tgt := 136) B d_Mo_weigh_127 rfl (fun c127 => ?_) (fun c127 => ?_)
  · rw [if_pos c127] at h
    refine Gk_iload (x := x7) B d_Mo_weigh_136 rfl ?_
    refine Gk_weak [true, true, false, false, false, false, true, false, false, false] (L' := [some (va_rf a0), some (.int x1), none, none, none, none, some (.int x6), none, none, none]) rfl ?_
    exact sn_Mo_weigh_138 B hr h
  rw [if_neg c127] at h
  refine Gk_iload (x := x7) B d_Mo_weigh_130 rfl ?_
  refine Gk_ineg B d_Mo_weigh_132 ?_
  refine Gk_goto (tgt := 138) B d_Mo_weigh_133 rfl ?_
  refine Gk_weak [true, true, false, false, false, false, true, false, false, false] (L' := [some (va_rf a0), some (.int x1), none, none, none, none, some (.int x6), none, none, none]) rfl ?_
  exact sn_Mo_weigh_138 B hr h
set_option maxHeartbeats 4000000 in
set_option maxRecDepth 100000 in
theorem sn_Mo_weigh_38 {l : Launch} {Γ : gk_G} {p : Program} {e : Env} {s : State} {m : MethodId} {args : Array Value} {below : List Frame} {meth : Method} {c : Code} (B : gk_B p s m args meth c gk_Y Γ c_Mo_weigh 10 "StageDispatcherModel") (hr : meth.sig.returnType = none) {ρ : gk_M}   {a0 : Option Nat} {x1 : Int32} {x2 : Int32} {x3 : Int32} {x4 : Int32} {x5 : Int32} {s0 : Int32} {M : gk_M} (h : fn_Mo_weigh_38  a0 x1 x2 x3 x4 x5 s0 M = some ρ) : Gk p l e rm_Mo_weigh s m args below meth c gk_Y Γ 10 (MQ below (gk_Q gk_Y Γ none ρ) args s rm_Mo_weigh.cells rm_Mo_weigh.slots (fun q => Γ.2.2 ≤ q)) 0 0 M 38 [some (va_rf a0), some (.int x1), some (.int x2), some (.int x3), some (.int x4), some (.int x5), none, none, none, none] [.int s0] := by
  unfold fn_Mo_weigh_38 at h
  refine Gk_istore (L' := [some (va_rf a0), some (.int x1), some (.int x2), some (.int x3), some (.int x4), some (.int x5), some (.int s0), none, none, none]) B d_Mo_weigh_38 (by decide) (gk_c1_i rfl) rfl ?_
  refine Gk_iload (x := x5) B d_Mo_weigh_40 rfl ?_
  obtain ⟨w42, h42, h⟩ := gk_bind h
  refine Gk_callS (As := [.int x5]) (rest := []) (st1 := [.int w42.1]) (k1 := 0) (n1 := 0) B gk_hG d_Mo_weigh_42 (sn_Mo_rank h42) tw_1074 tw_1072 tw_1073 tw_48 nm_Mo_rank rfl (by decide) ⟨by decide, by decide⟩ ⟨by decide, by decide⟩ rfl rfl rfl rfl ?_
  refine Gk_iload_n (i := 3) (x := x3) B d_Mo_weigh_45 rfl rfl ?_
  obtain ⟨w46, h46, h⟩ := gk_bind h
  refine Gk_callS (As := [.int x3]) (rest := [.int w42.1]) (st1 := [.int w46.1, .int w42.1]) (k1 := 0) (n1 := 0) B gk_hG d_Mo_weigh_46 (sn_Mo_rank h46) tw_1074 tw_1072 tw_1073 tw_48 nm_Mo_rank rfl (by simp [gk_rc, gk_ic, gk_jc, rm_Mo_weigh]) ⟨by decide, by decide⟩ ⟨by decide, by decide⟩ rfl rfl rfl rfl ?_
  refine Gk_isub B d_Mo_weigh_49 ?_
  refine Gk_istore (L' := [some (va_rf a0), some (.int x1), some (.int x2), some (.int x3), some (.int x4), some (.int x5), some (.int s0), some (.int (w42.1 - w46.1)), none, none]) B d_Mo_weigh_50 (by decide) (gk_c1_i rfl) rfl ?_
  refine Gk_iload_n (i := 2) (x := x2) B d_Mo_weigh_52 rfl rfl ?_
  refine Gk_if_ne (tgt := 60) B d_Mo_weigh_53 rfl (fun c53 => ?_) (fun c53 => ?_)
  · rw [if_neg c53] at h
    refine Gk_aload_n (i := 0) (r := a0) B d_Mo_weigh_60 rfl rfl ?_
    obtain ⟨v61, h61, h⟩ := gk_bind h
    refine Gk_getR (j := 8) B d_Mo_weigh_61 in_Mo cl_Mo (by decide) tw_763 rfl h61 ?_
    refine Gk_iload_n (i := 1) (x := x1) B d_Mo_weigh_64 rfl rfl ?_
    obtain ⟨v65, h65, h⟩ := gk_bind h
    refine Gk_iaload B d_Mo_weigh_65 ty_0 h65 ?_
    obtain ⟨w66, h66, h⟩ := gk_bind h
    refine Gk_callS (As := [.int v65]) (rest := []) (st1 := [.int w66.1]) (k1 := 0) (n1 := 0) B gk_hG d_Mo_weigh_66 (sn_Mo_rank h66) tw_1074 tw_1072 tw_1073 tw_48 nm_Mo_rank rfl (by decide) ⟨by decide, by decide⟩ ⟨by decide, by decide⟩ rfl rfl rfl rfl ?_
    refine Gk_i2l B d_Mo_weigh_69 ?_
    refine Gk_weak [true, true, false, false, true, false, true, true, false, false] (L' := [some (va_rf a0), some (.int x1), none, none, some (.int x4), none, some (.int s0), some (.int (w42.1 - w46.1)), none, none]) rfl ?_
    exact sn_Mo_weigh_70 B hr h
  rw [if_pos c53] at h
  refine Gk_lconst (v := 0) B d_Mo_weigh_56 (by decide) ?_
  refine Gk_goto (tgt := 70) B d_Mo_weigh_57 rfl ?_
  refine Gk_weak [true, true, false, false, true, false, true, true, false, false] (L' := [some (va_rf a0), some (.int x1), none, none, some (.int x4), none, some (.int s0), some (.int (w42.1 - w46.1)), none, none]) rfl ?_
  exact sn_Mo_weigh_70 B hr h
set_option maxHeartbeats 4000000 in
set_option maxRecDepth 100000 in
theorem sn_Mo_weigh_0 {l : Launch} {Γ : gk_G} {p : Program} {e : Env} {s : State} {m : MethodId} {args : Array Value} {below : List Frame} {meth : Method} {c : Code} (B : gk_B p s m args meth c gk_Y Γ c_Mo_weigh 10 "StageDispatcherModel") (hr : meth.sig.returnType = none) {ρ : gk_M}   {a0 : Option Nat} {x1 : Int32} {x2 : Int32} {x3 : Int32} {x4 : Int32} {M : gk_M} (h : fn_Mo_weigh  a0 x1 x2 x3 x4 M = some ρ) : Gk p l e rm_Mo_weigh s m args below meth c gk_Y Γ 10 (MQ below (gk_Q gk_Y Γ none ρ) args s rm_Mo_weigh.cells rm_Mo_weigh.slots (fun q => Γ.2.2 ≤ q)) 0 0 M 0 [some (va_rf a0), some (.int x1), some (.int x2), some (.int x3), some (.int x4), none, none, none, none, none] [] := by
  unfold fn_Mo_weigh at h
  refine Gk_aload_n (i := 0) (r := a0) B d_Mo_weigh_0 rfl rfl ?_
  obtain ⟨v1, h1, h⟩ := gk_bind h
  refine Gk_getR (j := 9) B d_Mo_weigh_1 in_Mo cl_Mo (by decide) tw_764 rfl h1 ?_
  refine Gk_iload_n (i := 1) (x := x1) B d_Mo_weigh_4 rfl rfl ?_
  obtain ⟨v5, h5, h⟩ := gk_bind h
  refine Gk_iaload B d_Mo_weigh_5 ty_0 h5 ?_
  refine Gk_istore (L' := [some (va_rf a0), some (.int x1), some (.int x2), some (.int x3), some (.int x4), some (.int v5), none, none, none, none]) B d_Mo_weigh_6 (by decide) (gk_c1_i rfl) rfl ?_
  refine Gk_iload (x := x4) B d_Mo_weigh_8 rfl ?_
  refine Gk_if_eq (tgt := 22) B d_Mo_weigh_10 rfl (fun c10 => ?_) (fun c10 => ?_)
  · rw [if_pos c10] at h
    cases h
    exact Gk_vret B hr d_Mo_weigh_22 (by decide) (by decide) rfl
  rw [if_neg c10] at h
  refine Gk_iload (x := v5) B d_Mo_weigh_13 rfl ?_
  refine Gk_iload_n (i := 3) (x := x3) B d_Mo_weigh_15 rfl rfl ?_
  obtain ⟨w16, h16, h⟩ := gk_bind h
  refine Gk_callS (As := [.int v5, .int x3]) (rest := []) (st1 := [.int w16.1]) (k1 := 0) (n1 := 0) B gk_hG d_Mo_weigh_16 (sn_Mo_meet h16) tw_1066 tw_1064 tw_1065 tw_48 nm_Mo_meet rfl (by decide) ⟨by decide, by decide⟩ ⟨by decide, by decide⟩ rfl rfl rfl rfl ?_
  refine Gk_if_ne (tgt := 23) B d_Mo_weigh_19 rfl (fun c19 => ?_) (fun c19 => ?_)
  · rw [if_neg c19] at h
    refine Gk_iload (x := v5) B d_Mo_weigh_23 rfl ?_
    refine Gk_iload_n (i := 3) (x := x3) B d_Mo_weigh_25 rfl rfl ?_
    obtain ⟨w26, h26, h⟩ := gk_bind h
    refine Gk_callS (As := [.int v5, .int x3]) (rest := []) (st1 := [.int w26.1]) (k1 := 0) (n1 := 0) B gk_hG d_Mo_weigh_26 (sn_Mo_covers h26) tw_1055 tw_1053 tw_1054 tw_48 nm_Mo_covers rfl (by decide) ⟨by decide, by decide⟩ ⟨by decide, by decide⟩ rfl rfl rfl rfl ?_
    refine Gk_if_eq (tgt := 36) B d_Mo_weigh_29 rfl (fun c29 => ?_) (fun c29 => ?_)
    · rw [if_pos c29] at h
      refine Gk_iload (x := v5) B d_Mo_weigh_36 rfl ?_
      exact sn_Mo_weigh_38 B hr h
    rw [if_neg c29] at h
    refine Gk_iload_n (i := 3) (x := x3) B d_Mo_weigh_32 rfl rfl ?_
    refine Gk_goto (tgt := 38) B d_Mo_weigh_33 rfl ?_
    exact sn_Mo_weigh_38 B hr h
  rw [if_pos c19] at h
  cases h
  exact Gk_vret B hr d_Mo_weigh_22 (by decide) (by decide) rfl
theorem sn_Mo_weigh {l : Launch} {Γ : gk_G} {a0 : Option Nat} {x1 : Int32} {x2 : Int32} {x3 : Int32} {x4 : Int32} {M : gk_M} {ρ : gk_M} (h : fn_Mo_weigh a0 x1 x2 x3 x4 M = some ρ) : gk_Met l gk_Y Γ y_Mo_weigh (.code y_Mo_weigh c_Mo_weigh 10 none :: gk_Y.2.2.2) rm_Mo_weigh [va_rf a0, .int x1, .int x2, .int x3, .int x4] M none ρ :=
  gk_start (by decide) (by simp [lg_sl, gk_rc, gk_ic, gk_jc]) [some (va_rf a0), some (.int x1), some (.int x2), some (.int x3), some (.int x4), none, none, none, none, none] (by simp [gk_as, lv_args, gk_rc, gk_ic, gk_jc]) (fun p e s m args below meth c B hr hin => sn_Mo_weigh_0 B hr h)
theorem d_Mo_stageThree_0 : decode c_Mo_stageThree 0 = .ok (.aload_n 0, 1) := by decide +kernel
theorem d_Mo_stageThree_1 : decode c_Mo_stageThree 1 = .ok (.bipush 32, 2) := by decide +kernel
theorem d_Mo_stageThree_3 : decode c_Mo_stageThree 3 = .ok (.putfield 231, 3) := by decide +kernel
theorem d_Mo_stageThree_6 : decode c_Mo_stageThree 6 = .ok (.iconst 0, 1) := by decide +kernel
theorem d_Mo_stageThree_7 : decode c_Mo_stageThree 7 = .ok (.istore_n 2, 1) := by decide +kernel
theorem d_Mo_stageThree_8 : decode c_Mo_stageThree 8 = .ok (.iload_n 2, 1) := by decide +kernel
theorem d_Mo_stageThree_9 : decode c_Mo_stageThree 9 = .ok (.aload_n 0, 1) := by decide +kernel
theorem d_Mo_stageThree_10 : decode c_Mo_stageThree 10 = .ok (.getfield 175, 3) := by decide +kernel
theorem d_Mo_stageThree_13 : decode c_Mo_stageThree 13 = .ok (.if_icmp .ge 58, 3) := by decide +kernel
theorem d_Mo_stageThree_16 : decode c_Mo_stageThree 16 = .ok (.aload_n 0, 1) := by decide +kernel
theorem d_Mo_stageThree_17 : decode c_Mo_stageThree 17 = .ok (.aload_n 0, 1) := by decide +kernel
theorem d_Mo_stageThree_18 : decode c_Mo_stageThree 18 = .ok (.getfield 108, 3) := by decide +kernel
theorem d_Mo_stageThree_21 : decode c_Mo_stageThree 21 = .ok (.iload_n 2, 1) := by decide +kernel
theorem d_Mo_stageThree_22 : decode c_Mo_stageThree 22 = .ok (.baload, 1) := by decide +kernel
theorem d_Mo_stageThree_23 : decode c_Mo_stageThree 23 = .ok (.ifCond .eq 35, 3) := by decide +kernel
theorem d_Mo_stageThree_26 : decode c_Mo_stageThree 26 = .ok (.aload_n 0, 1) := by decide +kernel
theorem d_Mo_stageThree_27 : decode c_Mo_stageThree 27 = .ok (.getfield 231, 3) := by decide +kernel
theorem d_Mo_stageThree_30 : decode c_Mo_stageThree 30 = .ok (.iconst 1, 1) := by decide +kernel
theorem d_Mo_stageThree_31 : decode c_Mo_stageThree 31 = .ok (.aload_n 0, 1) := by decide +kernel
theorem d_Mo_stageThree_32 : decode c_Mo_stageThree 32 = .ok (.getfield 23, 3) := by decide +kernel
theorem d_Mo_stageThree_35 : decode c_Mo_stageThree 35 = .ok (.iload_n 2, 1) := by decide +kernel
theorem d_Mo_stageThree_36 : decode c_Mo_stageThree 36 = .ok (.iaload, 1) := by decide +kernel
theorem d_Mo_stageThree_37 : decode c_Mo_stageThree 37 = .ok (.ishl, 1) := by decide +kernel
theorem d_Mo_stageThree_38 : decode c_Mo_stageThree 38 = .ok (.ior, 1) := by decide +kernel
theorem d_Mo_stageThree_39 : decode c_Mo_stageThree 39 = .ok (.aload_n 0, 1) := by decide +kernel
theorem d_Mo_stageThree_40 : decode c_Mo_stageThree 40 = .ok (.getfield 23, 3) := by decide +kernel
theorem d_Mo_stageThree_43 : decode c_Mo_stageThree 43 = .ok (.iload_n 2, 1) := by decide +kernel
theorem d_Mo_stageThree_44 : decode c_Mo_stageThree 44 = .ok (.iaload, 1) := by decide +kernel
theorem d_Mo_stageThree_45 : decode c_Mo_stageThree 45 = .ok (.ifCond .ne 8, 3) := by decide +kernel
theorem d_Mo_stageThree_48 : decode c_Mo_stageThree 48 = .ok (.bipush 16, 2) := by decide +kernel
theorem d_Mo_stageThree_50 : decode c_Mo_stageThree 50 = .ok (.goto 4, 3) := by decide +kernel
theorem d_Mo_stageThree_53 : decode c_Mo_stageThree 53 = .ok (.iconst 0, 1) := by decide +kernel
theorem d_Mo_stageThree_54 : decode c_Mo_stageThree 54 = .ok (.ior, 1) := by decide +kernel
theorem d_Mo_stageThree_55 : decode c_Mo_stageThree 55 = .ok (.goto 7, 3) := by decide +kernel
theorem d_Mo_stageThree_58 : decode c_Mo_stageThree 58 = .ok (.aload_n 0, 1) := by decide +kernel
theorem d_Mo_stageThree_59 : decode c_Mo_stageThree 59 = .ok (.getfield 231, 3) := by decide +kernel
theorem d_Mo_stageThree_62 : decode c_Mo_stageThree 62 = .ok (.putfield 231, 3) := by decide +kernel
theorem d_Mo_stageThree_65 : decode c_Mo_stageThree 65 = .ok (.iinc 2 1, 3) := by decide +kernel
theorem d_Mo_stageThree_68 : decode c_Mo_stageThree 68 = .ok (.goto (-60), 3) := by decide +kernel
theorem d_Mo_stageThree_71 : decode c_Mo_stageThree 71 = .ok (.aload_n 0, 1) := by decide +kernel
theorem d_Mo_stageThree_72 : decode c_Mo_stageThree 72 = .ok (.aload_n 0, 1) := by decide +kernel
theorem d_Mo_stageThree_73 : decode c_Mo_stageThree 73 = .ok (.getfield 234, 3) := by decide +kernel
theorem d_Mo_stageThree_76 : decode c_Mo_stageThree 76 = .ok (.invokevirtual 237, 3) := by decide +kernel
theorem d_Mo_stageThree_79 : decode c_Mo_stageThree 79 = .ok (.ifCond .ne 19, 3) := by decide +kernel
theorem d_Mo_stageThree_82 : decode c_Mo_stageThree 82 = .ok (.aload_n 0, 1) := by decide +kernel
theorem d_Mo_stageThree_83 : decode c_Mo_stageThree 83 = .ok (.getfield 234, 3) := by decide +kernel
theorem d_Mo_stageThree_86 : decode c_Mo_stageThree 86 = .ok (.iconst 4, 1) := by decide +kernel
theorem d_Mo_stageThree_87 : decode c_Mo_stageThree 87 = .ok (.if_icmp .ne 15, 3) := by decide +kernel
theorem d_Mo_stageThree_90 : decode c_Mo_stageThree 90 = .ok (.aload_n 0, 1) := by decide +kernel
theorem d_Mo_stageThree_91 : decode c_Mo_stageThree 91 = .ok (.iconst 0, 1) := by decide +kernel
theorem d_Mo_stageThree_92 : decode c_Mo_stageThree 92 = .ok (.invokevirtual 237, 3) := by decide +kernel
theorem d_Mo_stageThree_95 : decode c_Mo_stageThree 95 = .ok (.ifCond .eq 7, 3) := by decide +kernel
theorem d_Mo_stageThree_98 : decode c_Mo_stageThree 98 = .ok (.iconst 1, 1) := by decide +kernel
theorem d_Mo_stageThree_99 : decode c_Mo_stageThree 99 = .ok (.goto 4, 3) := by decide +kernel
theorem d_Mo_stageThree_102 : decode c_Mo_stageThree 102 = .ok (.iconst 0, 1) := by decide +kernel
theorem d_Mo_stageThree_103 : decode c_Mo_stageThree 103 = .ok (.istore_n 2, 1) := by decide +kernel
theorem d_Mo_stageThree_104 : decode c_Mo_stageThree 104 = .ok (.iload_n 2, 1) := by decide +kernel
theorem d_Mo_stageThree_105 : decode c_Mo_stageThree 105 = .ok (.ifCond .ne 18, 3) := by decide +kernel
theorem d_Mo_stageThree_108 : decode c_Mo_stageThree 108 = .ok (.aload_n 0, 1) := by decide +kernel
theorem d_Mo_stageThree_109 : decode c_Mo_stageThree 109 = .ok (.getfield 234, 3) := by decide +kernel
theorem d_Mo_stageThree_112 : decode c_Mo_stageThree 112 = .ok (.iconst 5, 1) := by decide +kernel
theorem d_Mo_stageThree_113 : decode c_Mo_stageThree 113 = .ok (.if_icmp .ne 7, 3) := by decide +kernel
theorem d_Mo_stageThree_116 : decode c_Mo_stageThree 116 = .ok (.iconst (-1), 1) := by decide +kernel
theorem d_Mo_stageThree_117 : decode c_Mo_stageThree 117 = .ok (.goto 5, 3) := by decide +kernel
theorem d_Mo_stageThree_120 : decode c_Mo_stageThree 120 = .ok (.bipush 9, 2) := by decide +kernel
theorem d_Mo_stageThree_122 : decode c_Mo_stageThree 122 = .ok (.ireturn, 1) := by decide +kernel
theorem d_Mo_stageThree_123 : decode c_Mo_stageThree 123 = .ok (.iconst 0, 1) := by decide +kernel
theorem d_Mo_stageThree_124 : decode c_Mo_stageThree 124 = .ok (.istore_n 3, 1) := by decide +kernel
theorem d_Mo_stageThree_125 : decode c_Mo_stageThree 125 = .ok (.iload_n 3, 1) := by decide +kernel
theorem d_Mo_stageThree_126 : decode c_Mo_stageThree 126 = .ok (.aload_n 0, 1) := by decide +kernel
theorem d_Mo_stageThree_127 : decode c_Mo_stageThree 127 = .ok (.getfield 175, 3) := by decide +kernel
theorem d_Mo_stageThree_130 : decode c_Mo_stageThree 130 = .ok (.if_icmp .ge 46, 3) := by decide +kernel
theorem d_Mo_stageThree_133 : decode c_Mo_stageThree 133 = .ok (.aload_n 0, 1) := by decide +kernel
theorem d_Mo_stageThree_134 : decode c_Mo_stageThree 134 = .ok (.getfield 108, 3) := by decide +kernel
theorem d_Mo_stageThree_137 : decode c_Mo_stageThree 137 = .ok (.iload_n 3, 1) := by decide +kernel
theorem d_Mo_stageThree_138 : decode c_Mo_stageThree 138 = .ok (.aload_n 0, 1) := by decide +kernel
theorem d_Mo_stageThree_139 : decode c_Mo_stageThree 139 = .ok (.getfield 108, 3) := by decide +kernel
theorem d_Mo_stageThree_142 : decode c_Mo_stageThree 142 = .ok (.iload_n 3, 1) := by decide +kernel
theorem d_Mo_stageThree_143 : decode c_Mo_stageThree 143 = .ok (.baload, 1) := by decide +kernel
theorem d_Mo_stageThree_144 : decode c_Mo_stageThree 144 = .ok (.ifCond .eq 24, 3) := by decide +kernel
theorem d_Mo_stageThree_147 : decode c_Mo_stageThree 147 = .ok (.iload_n 1, 1) := by decide +kernel
theorem d_Mo_stageThree_148 : decode c_Mo_stageThree 148 = .ok (.ifCond .eq 16, 3) := by decide +kernel
theorem d_Mo_stageThree_151 : decode c_Mo_stageThree 151 = .ok (.aload_n 0, 1) := by decide +kernel
theorem d_Mo_stageThree_152 : decode c_Mo_stageThree 152 = .ok (.getfield 26, 3) := by decide +kernel
theorem d_Mo_stageThree_155 : decode c_Mo_stageThree 155 = .ok (.iload_n 3, 1) := by decide +kernel
theorem d_Mo_stageThree_156 : decode c_Mo_stageThree 156 = .ok (.iaload, 1) := by decide +kernel
theorem d_Mo_stageThree_157 : decode c_Mo_stageThree 157 = .ok (.iload_n 1, 1) := by decide +kernel
theorem d_Mo_stageThree_158 : decode c_Mo_stageThree 158 = .ok (.invokestatic 152, 3) := by decide +kernel
theorem d_Mo_stageThree_161 : decode c_Mo_stageThree 161 = .ok (.ifCond .eq 7, 3) := by decide +kernel
theorem d_Mo_stageThree_164 : decode c_Mo_stageThree 164 = .ok (.iconst 1, 1) := by decide +kernel
theorem d_Mo_stageThree_165 : decode c_Mo_stageThree 165 = .ok (.goto 4, 3) := by decide +kernel
theorem d_Mo_stageThree_168 : decode c_Mo_stageThree 168 = .ok (.iconst 0, 1) := by decide +kernel
theorem d_Mo_stageThree_169 : decode c_Mo_stageThree 169 = .ok (.bastore, 1) := by decide +kernel
theorem d_Mo_stageThree_170 : decode c_Mo_stageThree 170 = .ok (.iinc 3 1, 3) := by decide +kernel
theorem d_Mo_stageThree_173 : decode c_Mo_stageThree 173 = .ok (.goto (-48), 3) := by decide +kernel
theorem d_Mo_stageThree_176 : decode c_Mo_stageThree 176 = .ok (.aload_n 0, 1) := by decide +kernel
theorem d_Mo_stageThree_177 : decode c_Mo_stageThree 177 = .ok (.invokevirtual 240, 3) := by decide +kernel
theorem d_Mo_stageThree_180 : decode c_Mo_stageThree 180 = .ok (.ifCond .ne 6, 3) := by decide +kernel
theorem d_Mo_stageThree_183 : decode c_Mo_stageThree 183 = .ok (.bipush 11, 2) := by decide +kernel
theorem d_Mo_stageThree_185 : decode c_Mo_stageThree 185 = .ok (.ireturn, 1) := by decide +kernel
theorem d_Mo_stageThree_186 : decode c_Mo_stageThree 186 = .ok (.iconst 0, 1) := by decide +kernel
theorem d_Mo_stageThree_187 : decode c_Mo_stageThree 187 = .ok (.istore_n 3, 1) := by decide +kernel
theorem d_Mo_stageThree_188 : decode c_Mo_stageThree 188 = .ok (.iload_n 3, 1) := by decide +kernel
theorem d_Mo_stageThree_189 : decode c_Mo_stageThree 189 = .ok (.aload_n 0, 1) := by decide +kernel
theorem d_Mo_stageThree_190 : decode c_Mo_stageThree 190 = .ok (.getfield 175, 3) := by decide +kernel
theorem d_Mo_stageThree_193 : decode c_Mo_stageThree 193 = .ok (.if_icmp .ge 37, 3) := by decide +kernel
theorem d_Mo_stageThree_196 : decode c_Mo_stageThree 196 = .ok (.aload_n 0, 1) := by decide +kernel
theorem d_Mo_stageThree_197 : decode c_Mo_stageThree 197 = .ok (.getfield 108, 3) := by decide +kernel
theorem d_Mo_stageThree_200 : decode c_Mo_stageThree 200 = .ok (.iload_n 3, 1) := by decide +kernel
theorem d_Mo_stageThree_201 : decode c_Mo_stageThree 201 = .ok (.aload_n 0, 1) := by decide +kernel
theorem d_Mo_stageThree_202 : decode c_Mo_stageThree 202 = .ok (.getfield 108, 3) := by decide +kernel
theorem d_Mo_stageThree_205 : decode c_Mo_stageThree 205 = .ok (.iload_n 3, 1) := by decide +kernel
theorem d_Mo_stageThree_206 : decode c_Mo_stageThree 206 = .ok (.baload, 1) := by decide +kernel
theorem d_Mo_stageThree_207 : decode c_Mo_stageThree 207 = .ok (.ifCond .eq 15, 3) := by decide +kernel
theorem d_Mo_stageThree_210 : decode c_Mo_stageThree 210 = .ok (.aload_n 0, 1) := by decide +kernel
theorem d_Mo_stageThree_211 : decode c_Mo_stageThree 211 = .ok (.iload_n 3, 1) := by decide +kernel
theorem d_Mo_stageThree_212 : decode c_Mo_stageThree 212 = .ok (.invokevirtual 243, 3) := by decide +kernel
theorem d_Mo_stageThree_215 : decode c_Mo_stageThree 215 = .ok (.ifCond .eq 7, 3) := by decide +kernel
theorem d_Mo_stageThree_218 : decode c_Mo_stageThree 218 = .ok (.iconst 1, 1) := by decide +kernel
theorem d_Mo_stageThree_219 : decode c_Mo_stageThree 219 = .ok (.goto 4, 3) := by decide +kernel
theorem d_Mo_stageThree_222 : decode c_Mo_stageThree 222 = .ok (.iconst 0, 1) := by decide +kernel
theorem d_Mo_stageThree_223 : decode c_Mo_stageThree 223 = .ok (.bastore, 1) := by decide +kernel
theorem d_Mo_stageThree_224 : decode c_Mo_stageThree 224 = .ok (.iinc 3 1, 3) := by decide +kernel
theorem d_Mo_stageThree_227 : decode c_Mo_stageThree 227 = .ok (.goto (-39), 3) := by decide +kernel
theorem d_Mo_stageThree_230 : decode c_Mo_stageThree 230 = .ok (.aload_n 0, 1) := by decide +kernel
theorem d_Mo_stageThree_231 : decode c_Mo_stageThree 231 = .ok (.invokevirtual 240, 3) := by decide +kernel
theorem d_Mo_stageThree_234 : decode c_Mo_stageThree 234 = .ok (.ifCond .ne 6, 3) := by decide +kernel
theorem d_Mo_stageThree_237 : decode c_Mo_stageThree 237 = .ok (.bipush 10, 2) := by decide +kernel
theorem d_Mo_stageThree_239 : decode c_Mo_stageThree 239 = .ok (.ireturn, 1) := by decide +kernel
theorem d_Mo_stageThree_240 : decode c_Mo_stageThree 240 = .ok (.aload_n 0, 1) := by decide +kernel
theorem d_Mo_stageThree_241 : decode c_Mo_stageThree 241 = .ok (.ldc2_w 246, 3) := by decide +kernel
theorem d_Mo_stageThree_244 : decode c_Mo_stageThree 244 = .ok (.putfield 224, 3) := by decide +kernel
theorem d_Mo_stageThree_247 : decode c_Mo_stageThree 247 = .ok (.iconst (-1), 1) := by decide +kernel
theorem d_Mo_stageThree_248 : decode c_Mo_stageThree 248 = .ok (.istore_n 3, 1) := by decide +kernel
theorem d_Mo_stageThree_249 : decode c_Mo_stageThree 249 = .ok (.iconst 0, 1) := by decide +kernel
theorem d_Mo_stageThree_250 : decode c_Mo_stageThree 250 = .ok (.istore 4, 2) := by decide +kernel
theorem d_Mo_stageThree_252 : decode c_Mo_stageThree 252 = .ok (.iload 4, 2) := by decide +kernel
theorem d_Mo_stageThree_254 : decode c_Mo_stageThree 254 = .ok (.aload_n 0, 1) := by decide +kernel
theorem d_Mo_stageThree_255 : decode c_Mo_stageThree 255 = .ok (.getfield 175, 3) := by decide +kernel
theorem d_Mo_stageThree_258 : decode c_Mo_stageThree 258 = .ok (.if_icmp .ge 86, 3) := by decide +kernel
theorem d_Mo_stageThree_261 : decode c_Mo_stageThree 261 = .ok (.iconst 0, 1) := by decide +kernel
theorem d_Mo_stageThree_262 : decode c_Mo_stageThree 262 = .ok (.istore 5, 2) := by decide +kernel
theorem d_Mo_stageThree_264 : decode c_Mo_stageThree 264 = .ok (.iload 5, 2) := by decide +kernel
theorem d_Mo_stageThree_266 : decode c_Mo_stageThree 266 = .ok (.aload_n 0, 1) := by decide +kernel
theorem d_Mo_stageThree_267 : decode c_Mo_stageThree 267 = .ok (.getfield 184, 3) := by decide +kernel
theorem d_Mo_stageThree_270 : decode c_Mo_stageThree 270 = .ok (.if_icmp .ge 40, 3) := by decide +kernel
theorem d_Mo_stageThree_273 : decode c_Mo_stageThree 273 = .ok (.aload_n 0, 1) := by decide +kernel
theorem d_Mo_stageThree_274 : decode c_Mo_stageThree 274 = .ok (.getfield 108, 3) := by decide +kernel
theorem d_Mo_stageThree_277 : decode c_Mo_stageThree 277 = .ok (.iload 4, 2) := by decide +kernel
theorem d_Mo_stageThree_279 : decode c_Mo_stageThree 279 = .ok (.baload, 1) := by decide +kernel
theorem d_Mo_stageThree_280 : decode c_Mo_stageThree 280 = .ok (.ifCond .eq 30, 3) := by decide +kernel
theorem d_Mo_stageThree_283 : decode c_Mo_stageThree 283 = .ok (.aload_n 0, 1) := by decide +kernel
theorem d_Mo_stageThree_284 : decode c_Mo_stageThree 284 = .ok (.iload 4, 2) := by decide +kernel
theorem d_Mo_stageThree_286 : decode c_Mo_stageThree 286 = .ok (.iload_n 1, 1) := by decide +kernel
theorem d_Mo_stageThree_287 : decode c_Mo_stageThree 287 = .ok (.aload_n 0, 1) := by decide +kernel
theorem d_Mo_stageThree_288 : decode c_Mo_stageThree 288 = .ok (.getfield 72, 3) := by decide +kernel
theorem d_Mo_stageThree_291 : decode c_Mo_stageThree 291 = .ok (.iload 5, 2) := by decide +kernel
theorem d_Mo_stageThree_293 : decode c_Mo_stageThree 293 = .ok (.iaload, 1) := by decide +kernel
theorem d_Mo_stageThree_294 : decode c_Mo_stageThree 294 = .ok (.aload_n 0, 1) := by decide +kernel
theorem d_Mo_stageThree_295 : decode c_Mo_stageThree 295 = .ok (.getfield 75, 3) := by decide +kernel
theorem d_Mo_stageThree_298 : decode c_Mo_stageThree 298 = .ok (.iload 5, 2) := by decide +kernel
theorem d_Mo_stageThree_300 : decode c_Mo_stageThree 300 = .ok (.iaload, 1) := by decide +kernel
theorem d_Mo_stageThree_301 : decode c_Mo_stageThree 301 = .ok (.invokevirtual 248, 3) := by decide +kernel
theorem d_Mo_stageThree_304 : decode c_Mo_stageThree 304 = .ok (.iinc 5 1, 3) := by decide +kernel
theorem d_Mo_stageThree_307 : decode c_Mo_stageThree 307 = .ok (.goto (-43), 3) := by decide +kernel
theorem d_Mo_stageThree_310 : decode c_Mo_stageThree 310 = .ok (.aload_n 0, 1) := by decide +kernel
theorem d_Mo_stageThree_311 : decode c_Mo_stageThree 311 = .ok (.getfield 184, 3) := by decide +kernel
theorem d_Mo_stageThree_314 : decode c_Mo_stageThree 314 = .ok (.ifCond .ne 24, 3) := by decide +kernel
theorem d_Mo_stageThree_317 : decode c_Mo_stageThree 317 = .ok (.aload_n 0, 1) := by decide +kernel
theorem d_Mo_stageThree_318 : decode c_Mo_stageThree 318 = .ok (.getfield 108, 3) := by decide +kernel
theorem d_Mo_stageThree_321 : decode c_Mo_stageThree 321 = .ok (.iload 4, 2) := by decide +kernel
theorem d_Mo_stageThree_323 : decode c_Mo_stageThree 323 = .ok (.baload, 1) := by decide +kernel
theorem d_Mo_stageThree_324 : decode c_Mo_stageThree 324 = .ok (.ifCond .eq 14, 3) := by decide +kernel
theorem d_Mo_stageThree_327 : decode c_Mo_stageThree 327 = .ok (.aload_n 0, 1) := by decide +kernel
theorem d_Mo_stageThree_328 : decode c_Mo_stageThree 328 = .ok (.iload 4, 2) := by decide +kernel
theorem d_Mo_stageThree_330 : decode c_Mo_stageThree 330 = .ok (.iload_n 1, 1) := by decide +kernel
theorem d_Mo_stageThree_331 : decode c_Mo_stageThree 331 = .ok (.iconst 0, 1) := by decide +kernel
theorem d_Mo_stageThree_332 : decode c_Mo_stageThree 332 = .ok (.sipush 1000, 3) := by decide +kernel
theorem d_Mo_stageThree_335 : decode c_Mo_stageThree 335 = .ok (.invokevirtual 248, 3) := by decide +kernel
theorem d_Mo_stageThree_338 : decode c_Mo_stageThree 338 = .ok (.iinc 4 1, 3) := by decide +kernel
theorem d_Mo_stageThree_341 : decode c_Mo_stageThree 341 = .ok (.goto (-89), 3) := by decide +kernel
theorem d_Mo_stageThree_344 : decode c_Mo_stageThree 344 = .ok (.aload_n 0, 1) := by decide +kernel
theorem d_Mo_stageThree_345 : decode c_Mo_stageThree 345 = .ok (.getfield 115, 3) := by decide +kernel
theorem d_Mo_stageThree_348 : decode c_Mo_stageThree 348 = .ok (.istore_n 3, 1) := by decide +kernel
theorem d_Mo_stageThree_349 : decode c_Mo_stageThree 349 = .ok (.aload_n 0, 1) := by decide +kernel
theorem d_Mo_stageThree_350 : decode c_Mo_stageThree 350 = .ok (.iconst (-1), 1) := by decide +kernel
theorem d_Mo_stageThree_351 : decode c_Mo_stageThree 351 = .ok (.putfield 115, 3) := by decide +kernel
theorem d_Mo_stageThree_354 : decode c_Mo_stageThree 354 = .ok (.aload_n 0, 1) := by decide +kernel
theorem d_Mo_stageThree_355 : decode c_Mo_stageThree 355 = .ok (.getfield 228, 3) := by decide +kernel
theorem d_Mo_stageThree_358 : decode c_Mo_stageThree 358 = .ok (.bipush 16, 2) := by decide +kernel
theorem d_Mo_stageThree_360 : decode c_Mo_stageThree 360 = .ok (.irem, 1) := by decide +kernel
theorem d_Mo_stageThree_361 : decode c_Mo_stageThree 361 = .ok (.ifCond .ne 15, 3) := by decide +kernel
theorem d_Mo_stageThree_364 : decode c_Mo_stageThree 364 = .ok (.aload_n 0, 1) := by decide +kernel
theorem d_Mo_stageThree_365 : decode c_Mo_stageThree 365 = .ok (.getfield 228, 3) := by decide +kernel
theorem d_Mo_stageThree_368 : decode c_Mo_stageThree 368 = .ok (.bipush 16, 2) := by decide +kernel
theorem d_Mo_stageThree_370 : decode c_Mo_stageThree 370 = .ok (.if_icmp .le 6, 3) := by decide +kernel
theorem d_Mo_stageThree_373 : decode c_Mo_stageThree 373 = .ok (.bipush 10, 2) := by decide +kernel
theorem d_Mo_stageThree_375 : decode c_Mo_stageThree 375 = .ok (.ireturn, 1) := by decide +kernel
theorem d_Mo_stageThree_376 : decode c_Mo_stageThree 376 = .ok (.aload_n 0, 1) := by decide +kernel
theorem d_Mo_stageThree_377 : decode c_Mo_stageThree 377 = .ok (.iload_n 3, 1) := by decide +kernel
theorem d_Mo_stageThree_378 : decode c_Mo_stageThree 378 = .ok (.putfield 115, 3) := by decide +kernel
theorem d_Mo_stageThree_381 : decode c_Mo_stageThree 381 = .ok (.aload_n 0, 1) := by decide +kernel
theorem d_Mo_stageThree_382 : decode c_Mo_stageThree 382 = .ok (.aload_n 0, 1) := by decide +kernel
theorem d_Mo_stageThree_383 : decode c_Mo_stageThree 383 = .ok (.getfield 228, 3) := by decide +kernel
theorem d_Mo_stageThree_386 : decode c_Mo_stageThree 386 = .ok (.bipush 16, 2) := by decide +kernel
theorem d_Mo_stageThree_388 : decode c_Mo_stageThree 388 = .ok (.irem, 1) := by decide +kernel
theorem d_Mo_stageThree_389 : decode c_Mo_stageThree 389 = .ok (.ifCond .ne 9, 3) := by decide +kernel
theorem d_Mo_stageThree_392 : decode c_Mo_stageThree 392 = .ok (.sipush 255, 3) := by decide +kernel
theorem d_Mo_stageThree_395 : decode c_Mo_stageThree 395 = .ok (.goto 7, 3) := by decide +kernel
theorem d_Mo_stageThree_398 : decode c_Mo_stageThree 398 = .ok (.aload_n 0, 1) := by decide +kernel
theorem d_Mo_stageThree_399 : decode c_Mo_stageThree 399 = .ok (.getfield 228, 3) := by decide +kernel
theorem d_Mo_stageThree_402 : decode c_Mo_stageThree 402 = .ok (.putfield 111, 3) := by decide +kernel
theorem d_Mo_stageThree_405 : decode c_Mo_stageThree 405 = .ok (.iconst 0, 1) := by decide +kernel
theorem d_Mo_stageThree_406 : decode c_Mo_stageThree 406 = .ok (.ireturn, 1) := by decide +kernel
set_option maxHeartbeats 4000000 in
set_option maxRecDepth 100000 in
theorem sn_Mo_stageThree_62 {l : Launch} {Γ : gk_G} {p : Program} {e : Env} {s : State} {m : MethodId} {args : Array Value} {below : List Frame} {meth : Method} {c : Code} (B : gk_B p s m args meth c gk_Y Γ c_Mo_stageThree 6 "StageDispatcherModel") (hr : meth.sig.returnType = (some .int)) {ρ : Int32 × gk_M} {k8 : Option Nat → Int32 → Int32 → gk_M → Option (Int32 × gk_M)} (H8 : ∀ (a0 : Option Nat) (x1 : Int32) (x2 : Int32) (M : gk_M), k8 a0 x1 x2 M = some ρ → Gk p l e rm_Mo_stageThree s m args below meth c gk_Y Γ 6 (MQ below (gk_Q gk_Y Γ (some (.int ρ.1)) ρ.2) args s rm_Mo_stageThree.cells rm_Mo_stageThree.slots (fun q => Γ.2.2 ≤ q)) 0 0 M 8 [some (va_rf a0), some (.int x1), some (.int x2), none, none, none] []) {a0 : Option Nat} {x1 : Int32} {x2 : Int32} {s0 : Option Nat} {s1 : Int32} {M : gk_M} (h : fn_Mo_stageThree_62 k8 a0 x1 x2 s0 s1 M = some ρ) : Gk p l e rm_Mo_stageThree s m args below meth c gk_Y Γ 6 (MQ below (gk_Q gk_Y Γ (some (.int ρ.1)) ρ.2) args s rm_Mo_stageThree.cells rm_Mo_stageThree.slots (fun q => Γ.2.2 ≤ q)) 0 0 M 62 [some (va_rf a0), some (.int x1), some (.int x2), none, none, none] [.int s1, va_rf s0] := by
  unfold fn_Mo_stageThree_62 at h
  obtain ⟨M62, h62, h⟩ := gk_bind h
  refine Gk_put (j := 38) (ty := .int) B d_Mo_stageThree_62 in_Mo t_Mo t_Mo_ok n_Mo cl_Mo (by decide) tw_793 rfl rfl rfl rfl rfl h62 ?_
  refine Gk_iinc (x := x2) (v := (x2 + 1)) (L' := [some (va_rf a0), some (.int x1), some (.int (x2 + 1)), none, none, none]) B d_Mo_stageThree_65 rfl (congrArg (fun z => x2 + z) (by decide : Int32.ofInt 1 = 1)) (by decide) (gk_c1_i rfl) rfl ?_
  refine Gk_goto (tgt := 8) B d_Mo_stageThree_68 rfl ?_
  exact H8 a0 x1 (x2 + 1) M62 h
set_option maxHeartbeats 4000000 in
set_option maxRecDepth 100000 in
theorem sn_Mo_stageThree_54 {l : Launch} {Γ : gk_G} {p : Program} {e : Env} {s : State} {m : MethodId} {args : Array Value} {below : List Frame} {meth : Method} {c : Code} (B : gk_B p s m args meth c gk_Y Γ c_Mo_stageThree 6 "StageDispatcherModel") (hr : meth.sig.returnType = (some .int)) {ρ : Int32 × gk_M} {k8 : Option Nat → Int32 → Int32 → gk_M → Option (Int32 × gk_M)} (H8 : ∀ (a0 : Option Nat) (x1 : Int32) (x2 : Int32) (M : gk_M), k8 a0 x1 x2 M = some ρ → Gk p l e rm_Mo_stageThree s m args below meth c gk_Y Γ 6 (MQ below (gk_Q gk_Y Γ (some (.int ρ.1)) ρ.2) args s rm_Mo_stageThree.cells rm_Mo_stageThree.slots (fun q => Γ.2.2 ≤ q)) 0 0 M 8 [some (va_rf a0), some (.int x1), some (.int x2), none, none, none] []) {a0 : Option Nat} {x1 : Int32} {x2 : Int32} {s0 : Option Nat} {s1 : Int32} {s2 : Int32} {M : gk_M} (h : fn_Mo_stageThree_54 k8 a0 x1 x2 s0 s1 s2 M = some ρ) : Gk p l e rm_Mo_stageThree s m args below meth c gk_Y Γ 6 (MQ below (gk_Q gk_Y Γ (some (.int ρ.1)) ρ.2) args s rm_Mo_stageThree.cells rm_Mo_stageThree.slots (fun q => Γ.2.2 ≤ q)) 0 0 M 54 [some (va_rf a0), some (.int x1), some (.int x2), none, none, none] [.int s2, .int s1, va_rf s0] := by
  unfold fn_Mo_stageThree_54 at h
  refine Gk_ior B d_Mo_stageThree_54 ?_
  refine Gk_goto (tgt := 62) B d_Mo_stageThree_55 rfl ?_
  exact sn_Mo_stageThree_62 B hr H8 h
set_option maxHeartbeats 4000000 in
set_option maxRecDepth 100000 in
theorem sn_Mo_stageThree_169 {l : Launch} {Γ : gk_G} {p : Program} {e : Env} {s : State} {m : MethodId} {args : Array Value} {below : List Frame} {meth : Method} {c : Code} (B : gk_B p s m args meth c gk_Y Γ c_Mo_stageThree 6 "StageDispatcherModel") (hr : meth.sig.returnType = (some .int)) {ρ : Int32 × gk_M} {k125 : Option Nat → Int32 → Int32 → gk_M → Option (Int32 × gk_M)} (H125 : ∀ (a0 : Option Nat) (x1 : Int32) (x3 : Int32) (M : gk_M), k125 a0 x1 x3 M = some ρ → Gk p l e rm_Mo_stageThree s m args below meth c gk_Y Γ 6 (MQ below (gk_Q gk_Y Γ (some (.int ρ.1)) ρ.2) args s rm_Mo_stageThree.cells rm_Mo_stageThree.slots (fun q => Γ.2.2 ≤ q)) 0 0 M 125 [some (va_rf a0), some (.int x1), none, some (.int x3), none, none] []) {a0 : Option Nat} {x1 : Int32} {x3 : Int32} {s0 : Option Nat} {s1 : Int32} {s2 : Int32} {M : gk_M} (h : fn_Mo_stageThree_169 k125 a0 x1 x3 s0 s1 s2 M = some ρ) : Gk p l e rm_Mo_stageThree s m args below meth c gk_Y Γ 6 (MQ below (gk_Q gk_Y Γ (some (.int ρ.1)) ρ.2) args s rm_Mo_stageThree.cells rm_Mo_stageThree.slots (fun q => Γ.2.2 ≤ q)) 0 0 M 169 [some (va_rf a0), some (.int x1), none, some (.int x3), none, none] [.int s2, .int s1, va_rf s0] := by
  unfold fn_Mo_stageThree_169 at h
  obtain ⟨M169, h169, h⟩ := gk_bind h
  refine Gk_zastore B d_Mo_stageThree_169 ty_2 h169 ?_
  refine Gk_iinc (x := x3) (v := (x3 + 1)) (L' := [some (va_rf a0), some (.int x1), none, some (.int (x3 + 1)), none, none]) B d_Mo_stageThree_170 rfl (congrArg (fun z => x3 + z) (by decide : Int32.ofInt 1 = 1)) (by decide) (gk_c1_n rfl) rfl ?_
  refine Gk_goto (tgt := 125) B d_Mo_stageThree_173 rfl ?_
  exact H125 a0 x1 (x3 + 1) M169 h
set_option maxHeartbeats 4000000 in
set_option maxRecDepth 100000 in
theorem sn_Mo_stageThree_168 {l : Launch} {Γ : gk_G} {p : Program} {e : Env} {s : State} {m : MethodId} {args : Array Value} {below : List Frame} {meth : Method} {c : Code} (B : gk_B p s m args meth c gk_Y Γ c_Mo_stageThree 6 "StageDispatcherModel") (hr : meth.sig.returnType = (some .int)) {ρ : Int32 × gk_M} {k125 : Option Nat → Int32 → Int32 → gk_M → Option (Int32 × gk_M)} (H125 : ∀ (a0 : Option Nat) (x1 : Int32) (x3 : Int32) (M : gk_M), k125 a0 x1 x3 M = some ρ → Gk p l e rm_Mo_stageThree s m args below meth c gk_Y Γ 6 (MQ below (gk_Q gk_Y Γ (some (.int ρ.1)) ρ.2) args s rm_Mo_stageThree.cells rm_Mo_stageThree.slots (fun q => Γ.2.2 ≤ q)) 0 0 M 125 [some (va_rf a0), some (.int x1), none, some (.int x3), none, none] []) {a0 : Option Nat} {x1 : Int32} {x3 : Int32} {s0 : Option Nat} {s1 : Int32} {M : gk_M} (h : fn_Mo_stageThree_168 k125 a0 x1 x3 s0 s1 M = some ρ) : Gk p l e rm_Mo_stageThree s m args below meth c gk_Y Γ 6 (MQ below (gk_Q gk_Y Γ (some (.int ρ.1)) ρ.2) args s rm_Mo_stageThree.cells rm_Mo_stageThree.slots (fun q => Γ.2.2 ≤ q)) 0 0 M 168 [some (va_rf a0), some (.int x1), none, some (.int x3), none, none] [.int s1, va_rf s0] := by
  unfold fn_Mo_stageThree_168 at h
  refine Gk_iconst (v := 0) B d_Mo_stageThree_168 (by decide) ?_
  exact sn_Mo_stageThree_169 B hr H125 h
set_option maxHeartbeats 4000000 in
set_option maxRecDepth 100000 in
theorem sn_Mo_stageThree_164 {l : Launch} {Γ : gk_G} {p : Program} {e : Env} {s : State} {m : MethodId} {args : Array Value} {below : List Frame} {meth : Method} {c : Code} (B : gk_B p s m args meth c gk_Y Γ c_Mo_stageThree 6 "StageDispatcherModel") (hr : meth.sig.returnType = (some .int)) {ρ : Int32 × gk_M} {k125 : Option Nat → Int32 → Int32 → gk_M → Option (Int32 × gk_M)} (H125 : ∀ (a0 : Option Nat) (x1 : Int32) (x3 : Int32) (M : gk_M), k125 a0 x1 x3 M = some ρ → Gk p l e rm_Mo_stageThree s m args below meth c gk_Y Γ 6 (MQ below (gk_Q gk_Y Γ (some (.int ρ.1)) ρ.2) args s rm_Mo_stageThree.cells rm_Mo_stageThree.slots (fun q => Γ.2.2 ≤ q)) 0 0 M 125 [some (va_rf a0), some (.int x1), none, some (.int x3), none, none] []) {a0 : Option Nat} {x1 : Int32} {x3 : Int32} {s0 : Option Nat} {s1 : Int32} {M : gk_M} (h : fn_Mo_stageThree_164 k125 a0 x1 x3 s0 s1 M = some ρ) : Gk p l e rm_Mo_stageThree s m args below meth c gk_Y Γ 6 (MQ below (gk_Q gk_Y Γ (some (.int ρ.1)) ρ.2) args s rm_Mo_stageThree.cells rm_Mo_stageThree.slots (fun q => Γ.2.2 ≤ q)) 0 0 M 164 [some (va_rf a0), some (.int x1), none, some (.int x3), none, none] [.int s1, va_rf s0] := by
  unfold fn_Mo_stageThree_164 at h
  refine Gk_iconst (v := 1) B d_Mo_stageThree_164 (by decide) ?_
  refine Gk_goto (tgt := 169) B d_Mo_stageThree_165 rfl ?_
  exact sn_Mo_stageThree_169 B hr H125 h
set_option maxHeartbeats 4000000 in
set_option maxRecDepth 100000 in
theorem sn_Mo_stageThree_223 {l : Launch} {Γ : gk_G} {p : Program} {e : Env} {s : State} {m : MethodId} {args : Array Value} {below : List Frame} {meth : Method} {c : Code} (B : gk_B p s m args meth c gk_Y Γ c_Mo_stageThree 6 "StageDispatcherModel") (hr : meth.sig.returnType = (some .int)) {ρ : Int32 × gk_M} {k188 : Option Nat → Int32 → Int32 → gk_M → Option (Int32 × gk_M)} (H188 : ∀ (a0 : Option Nat) (x1 : Int32) (x3 : Int32) (M : gk_M), k188 a0 x1 x3 M = some ρ → Gk p l e rm_Mo_stageThree s m args below meth c gk_Y Γ 6 (MQ below (gk_Q gk_Y Γ (some (.int ρ.1)) ρ.2) args s rm_Mo_stageThree.cells rm_Mo_stageThree.slots (fun q => Γ.2.2 ≤ q)) 0 0 M 188 [some (va_rf a0), some (.int x1), none, some (.int x3), none, none] []) {a0 : Option Nat} {x1 : Int32} {x3 : Int32} {s0 : Option Nat} {s1 : Int32} {s2 : Int32} {M : gk_M} (h : fn_Mo_stageThree_223 k188 a0 x1 x3 s0 s1 s2 M = some ρ) : Gk p l e rm_Mo_stageThree s m args below meth c gk_Y Γ 6 (MQ below (gk_Q gk_Y Γ (some (.int ρ.1)) ρ.2) args s rm_Mo_stageThree.cells rm_Mo_stageThree.slots (fun q => Γ.2.2 ≤ q)) 0 0 M 223 [some (va_rf a0), some (.int x1), none, some (.int x3), none, none] [.int s2, .int s1, va_rf s0] := by
  unfold fn_Mo_stageThree_223 at h
  obtain ⟨M223, h223, h⟩ := gk_bind h
  refine Gk_zastore B d_Mo_stageThree_223 ty_2 h223 ?_
  refine Gk_iinc (x := x3) (v := (x3 + 1)) (L' := [some (va_rf a0), some (.int x1), none, some (.int (x3 + 1)), none, none]) B d_Mo_stageThree_224 rfl (congrArg (fun z => x3 + z) (by decide : Int32.ofInt 1 = 1)) (by decide) (gk_c1_n rfl) rfl ?_
  refine Gk_goto (tgt := 188) B d_Mo_stageThree_227 rfl ?_
  exact H188 a0 x1 (x3 + 1) M223 h
set_option maxHeartbeats 4000000 in
set_option maxRecDepth 100000 in
theorem sn_Mo_stageThree_222 {l : Launch} {Γ : gk_G} {p : Program} {e : Env} {s : State} {m : MethodId} {args : Array Value} {below : List Frame} {meth : Method} {c : Code} (B : gk_B p s m args meth c gk_Y Γ c_Mo_stageThree 6 "StageDispatcherModel") (hr : meth.sig.returnType = (some .int)) {ρ : Int32 × gk_M} {k188 : Option Nat → Int32 → Int32 → gk_M → Option (Int32 × gk_M)} (H188 : ∀ (a0 : Option Nat) (x1 : Int32) (x3 : Int32) (M : gk_M), k188 a0 x1 x3 M = some ρ → Gk p l e rm_Mo_stageThree s m args below meth c gk_Y Γ 6 (MQ below (gk_Q gk_Y Γ (some (.int ρ.1)) ρ.2) args s rm_Mo_stageThree.cells rm_Mo_stageThree.slots (fun q => Γ.2.2 ≤ q)) 0 0 M 188 [some (va_rf a0), some (.int x1), none, some (.int x3), none, none] []) {a0 : Option Nat} {x1 : Int32} {x3 : Int32} {s0 : Option Nat} {s1 : Int32} {M : gk_M} (h : fn_Mo_stageThree_222 k188 a0 x1 x3 s0 s1 M = some ρ) : Gk p l e rm_Mo_stageThree s m args below meth c gk_Y Γ 6 (MQ below (gk_Q gk_Y Γ (some (.int ρ.1)) ρ.2) args s rm_Mo_stageThree.cells rm_Mo_stageThree.slots (fun q => Γ.2.2 ≤ q)) 0 0 M 222 [some (va_rf a0), some (.int x1), none, some (.int x3), none, none] [.int s1, va_rf s0] := by
  unfold fn_Mo_stageThree_222 at h
  refine Gk_iconst (v := 0) B d_Mo_stageThree_222 (by decide) ?_
  exact sn_Mo_stageThree_223 B hr H188 h
set_option maxHeartbeats 4000000 in
set_option maxRecDepth 100000 in
theorem sn_Mo_stageThree_338 {l : Launch} {Γ : gk_G} {p : Program} {e : Env} {s : State} {m : MethodId} {args : Array Value} {below : List Frame} {meth : Method} {c : Code} (B : gk_B p s m args meth c gk_Y Γ c_Mo_stageThree 6 "StageDispatcherModel") (hr : meth.sig.returnType = (some .int)) {ρ : Int32 × gk_M} {k252 : Option Nat → Int32 → Int32 → gk_M → Option (Int32 × gk_M)} (H252 : ∀ (a0 : Option Nat) (x1 : Int32) (x4 : Int32) (M : gk_M), k252 a0 x1 x4 M = some ρ → Gk p l e rm_Mo_stageThree s m args below meth c gk_Y Γ 6 (MQ below (gk_Q gk_Y Γ (some (.int ρ.1)) ρ.2) args s rm_Mo_stageThree.cells rm_Mo_stageThree.slots (fun q => Γ.2.2 ≤ q)) 0 0 M 252 [some (va_rf a0), some (.int x1), none, none, some (.int x4), none] []) {a0 : Option Nat} {x1 : Int32} {x4 : Int32} {M : gk_M} (h : fn_Mo_stageThree_338 k252 a0 x1 x4 M = some ρ) : Gk p l e rm_Mo_stageThree s m args below meth c gk_Y Γ 6 (MQ below (gk_Q gk_Y Γ (some (.int ρ.1)) ρ.2) args s rm_Mo_stageThree.cells rm_Mo_stageThree.slots (fun q => Γ.2.2 ≤ q)) 0 0 M 338 [some (va_rf a0), some (.int x1), none, none, some (.int x4), none] [] := by
  unfold fn_Mo_stageThree_338 at h
  refine Gk_iinc (x := x4) (v := (x4 + 1)) (L' := [some (va_rf a0), some (.int x1), none, none, some (.int (x4 + 1)), none]) B d_Mo_stageThree_338 rfl (congrArg (fun z => x4 + z) (by decide : Int32.ofInt 1 = 1)) (by decide) (gk_c1_n rfl) rfl ?_
  refine Gk_goto (tgt := 252) B d_Mo_stageThree_341 rfl ?_
  exact H252 a0 x1 (x4 + 1) M h
set_option maxHeartbeats 4000000 in
set_option maxRecDepth 100000 in
theorem sn_Mo_stageThree_310 {l : Launch} {Γ : gk_G} {p : Program} {e : Env} {s : State} {m : MethodId} {args : Array Value} {below : List Frame} {meth : Method} {c : Code} (B : gk_B p s m args meth c gk_Y Γ c_Mo_stageThree 6 "StageDispatcherModel") (hr : meth.sig.returnType = (some .int)) {ρ : Int32 × gk_M} {k252 : Option Nat → Int32 → Int32 → gk_M → Option (Int32 × gk_M)} (H252 : ∀ (a0 : Option Nat) (x1 : Int32) (x4 : Int32) (M : gk_M), k252 a0 x1 x4 M = some ρ → Gk p l e rm_Mo_stageThree s m args below meth c gk_Y Γ 6 (MQ below (gk_Q gk_Y Γ (some (.int ρ.1)) ρ.2) args s rm_Mo_stageThree.cells rm_Mo_stageThree.slots (fun q => Γ.2.2 ≤ q)) 0 0 M 252 [some (va_rf a0), some (.int x1), none, none, some (.int x4), none] []) {a0 : Option Nat} {x1 : Int32} {x4 : Int32} {M : gk_M} (h : fn_Mo_stageThree_310 k252 a0 x1 x4 M = some ρ) : Gk p l e rm_Mo_stageThree s m args below meth c gk_Y Γ 6 (MQ below (gk_Q gk_Y Γ (some (.int ρ.1)) ρ.2) args s rm_Mo_stageThree.cells rm_Mo_stageThree.slots (fun q => Γ.2.2 ≤ q)) 0 0 M 310 [some (va_rf a0), some (.int x1), none, none, some (.int x4), none] [] := by
  unfold fn_Mo_stageThree_310 at h
  refine Gk_aload_n (i := 0) (r := a0) B d_Mo_stageThree_310 rfl rfl ?_
  obtain ⟨v311, h311, h⟩ := gk_bind h
  refine Gk_getI (j := 25) B d_Mo_stageThree_311 in_Mo cl_Mo (by decide) tw_780 rfl h311 ?_
  refine Gk_if_ne (tgt := 338) B d_Mo_stageThree_314 rfl (fun c314 => ?_) (fun c314 => ?_)
  · rw [if_neg c314] at h
    exact sn_Mo_stageThree_338 B hr H252 h
  rw [if_pos c314] at h
  refine Gk_aload_n (i := 0) (r := a0) B d_Mo_stageThree_317 rfl rfl ?_
  obtain ⟨v318, h318, h⟩ := gk_bind h
  refine Gk_getR (j := 54) B d_Mo_stageThree_318 in_Mo cl_Mo (by decide) tw_809 rfl h318 ?_
  refine Gk_iload (x := x4) B d_Mo_stageThree_321 rfl ?_
  obtain ⟨v323, h323, h⟩ := gk_bind h
  refine Gk_zaload B d_Mo_stageThree_323 ty_2 h323 ?_
  refine Gk_if_eq (tgt := 338) B d_Mo_stageThree_324 rfl (fun c324 => ?_) (fun c324 => ?_)
  · rw [if_pos c324] at h
    exact sn_Mo_stageThree_338 B hr H252 h
  rw [if_neg c324] at h
  refine Gk_aload_n (i := 0) (r := a0) B d_Mo_stageThree_327 rfl rfl ?_
  refine Gk_iload (x := x4) B d_Mo_stageThree_328 rfl ?_
  refine Gk_iload_n (i := 1) (x := x1) B d_Mo_stageThree_330 rfl rfl ?_
  refine Gk_iconst (v := 0) B d_Mo_stageThree_331 (by decide) ?_
  refine Gk_sipush (v := 1000) B d_Mo_stageThree_332 (by decide) ?_
  obtain ⟨o335, g335, h⟩ := gk_bind h
  obtain ⟨w335, h335, h⟩ := gk_bind h
  refine Gk_callV (As := [.int x4, .int x1, .int 0, .int 1000]) (rest := []) (st1 := []) (k1 := 0) (n1 := 0) B gk_hG d_Mo_stageThree_335 (sn_Mo_weigh h335) g335 cl_Mo tw_1071 tw_1068 tw_1070 tw_35 tw_48 nm_Mo_weigh rfl (by decide) ⟨by decide, by decide⟩ ⟨by decide, by decide⟩ rfl rfl rfl rfl ?_
  exact sn_Mo_stageThree_338 B hr H252 h
set_option maxHeartbeats 4000000 in
set_option maxRecDepth 100000 in
theorem sn_Mo_stageThree_264_bd {l : Launch} {Γ : gk_G} {p : Program} {e : Env} {s : State} {m : MethodId} {args : Array Value} {below : List Frame} {meth : Method} {c : Code} (B : gk_B p s m args meth c gk_Y Γ c_Mo_stageThree 6 "StageDispatcherModel") (hr : meth.sig.returnType = (some .int)) {ρ : Int32 × gk_M} {k252 : Option Nat → Int32 → Int32 → gk_M → Option (Int32 × gk_M)} {k264 : Option Nat → Int32 → Int32 → Int32 → gk_M → Option (Int32 × gk_M)} (H252 : ∀ (a0 : Option Nat) (x1 : Int32) (x4 : Int32) (M : gk_M), k252 a0 x1 x4 M = some ρ → Gk p l e rm_Mo_stageThree s m args below meth c gk_Y Γ 6 (MQ below (gk_Q gk_Y Γ (some (.int ρ.1)) ρ.2) args s rm_Mo_stageThree.cells rm_Mo_stageThree.slots (fun q => Γ.2.2 ≤ q)) 0 0 M 252 [some (va_rf a0), some (.int x1), none, none, some (.int x4), none] []) (H264 : ∀ (a0 : Option Nat) (x1 : Int32) (x4 : Int32) (x5 : Int32) (M : gk_M), k264 a0 x1 x4 x5 M = some ρ → Gk p l e rm_Mo_stageThree s m args below meth c gk_Y Γ 6 (MQ below (gk_Q gk_Y Γ (some (.int ρ.1)) ρ.2) args s rm_Mo_stageThree.cells rm_Mo_stageThree.slots (fun q => Γ.2.2 ≤ q)) 0 0 M 264 [some (va_rf a0), some (.int x1), none, none, some (.int x4), some (.int x5)] []) {a0 : Option Nat} {x1 : Int32} {x4 : Int32} {x5 : Int32} {M : gk_M} (h : fn_Mo_stageThree_264_bd k252 k264 a0 x1 x4 x5 M = some ρ) : Gk p l e rm_Mo_stageThree s m args below meth c gk_Y Γ 6 (MQ below (gk_Q gk_Y Γ (some (.int ρ.1)) ρ.2) args s rm_Mo_stageThree.cells rm_Mo_stageThree.slots (fun q => Γ.2.2 ≤ q)) 0 0 M 264 [some (va_rf a0), some (.int x1), none, none, some (.int x4), some (.int x5)] [] := by
  unfold fn_Mo_stageThree_264_bd at h
  refine Gk_iload (x := x5) B d_Mo_stageThree_264 rfl ?_
  refine Gk_aload_n (i := 0) (r := a0) B d_Mo_stageThree_266 rfl rfl ?_
  obtain ⟨v267, h267, h⟩ := gk_bind h
  refine Gk_getI (j := 25) B d_Mo_stageThree_267 in_Mo cl_Mo (by decide) tw_780 rfl h267 ?_
  refine Gk_icmp_ge (tgt := 310) B d_Mo_stageThree_270 rfl (fun c270 => ?_) (fun c270 => ?_)
  · rw [if_pos c270] at h
    refine Gk_weak [true, true, false, false, true, false] (L' := [some (va_rf a0), some (.int x1), none, none, some (.int x4), none]) rfl ?_
    exact sn_Mo_stageThree_310 B hr H252 h
  rw [if_neg c270] at h
  refine Gk_aload_n (i := 0) (r := a0) B d_Mo_stageThree_273 rfl rfl ?_
  obtain ⟨v274, h274, h⟩ := gk_bind h
  refine Gk_getR (j := 54) B d_Mo_stageThree_274 in_Mo cl_Mo (by decide) tw_809 rfl h274 ?_
  refine Gk_iload (x := x4) B d_Mo_stageThree_277 rfl ?_
  obtain ⟨v279, h279, h⟩ := gk_bind h
  refine Gk_zaload B d_Mo_stageThree_279 ty_2 h279 ?_
  refine Gk_if_eq (tgt := 310) B d_Mo_stageThree_280 rfl (fun c280 => ?_) (fun c280 => ?_)
  · rw [if_pos c280] at h
    refine Gk_weak [true, true, false, false, true, false] (L' := [some (va_rf a0), some (.int x1), none, none, some (.int x4), none]) rfl ?_
    exact sn_Mo_stageThree_310 B hr H252 h
  rw [if_neg c280] at h
  refine Gk_aload_n (i := 0) (r := a0) B d_Mo_stageThree_283 rfl rfl ?_
  refine Gk_iload (x := x4) B d_Mo_stageThree_284 rfl ?_
  refine Gk_iload_n (i := 1) (x := x1) B d_Mo_stageThree_286 rfl rfl ?_
  refine Gk_aload_n (i := 0) (r := a0) B d_Mo_stageThree_287 rfl rfl ?_
  obtain ⟨v288, h288, h⟩ := gk_bind h
  refine Gk_getR (j := 26) B d_Mo_stageThree_288 in_Mo cl_Mo (by decide) tw_781 rfl h288 ?_
  refine Gk_iload (x := x5) B d_Mo_stageThree_291 rfl ?_
  obtain ⟨v293, h293, h⟩ := gk_bind h
  refine Gk_iaload B d_Mo_stageThree_293 ty_0 h293 ?_
  refine Gk_aload_n (i := 0) (r := a0) B d_Mo_stageThree_294 rfl rfl ?_
  obtain ⟨v295, h295, h⟩ := gk_bind h
  refine Gk_getR (j := 27) B d_Mo_stageThree_295 in_Mo cl_Mo (by decide) tw_782 rfl h295 ?_
  refine Gk_iload (x := x5) B d_Mo_stageThree_298 rfl ?_
  obtain ⟨v300, h300, h⟩ := gk_bind h
  refine Gk_iaload B d_Mo_stageThree_300 ty_0 h300 ?_
  obtain ⟨o301, g301, h⟩ := gk_bind h
  obtain ⟨w301, h301, h⟩ := gk_bind h
  refine Gk_callV (As := [.int x4, .int x1, .int v293, .int v300]) (rest := []) (st1 := []) (k1 := 0) (n1 := 0) B gk_hG d_Mo_stageThree_301 (sn_Mo_weigh h301) g301 cl_Mo tw_1071 tw_1068 tw_1070 tw_35 tw_48 nm_Mo_weigh rfl (by decide) ⟨by decide, by decide⟩ ⟨by decide, by decide⟩ rfl rfl rfl rfl ?_
  refine Gk_iinc (x := x5) (v := (x5 + 1)) (L' := [some (va_rf a0), some (.int x1), none, none, some (.int x4), some (.int (x5 + 1))]) B d_Mo_stageThree_304 rfl (congrArg (fun z => x5 + z) (by decide : Int32.ofInt 1 = 1)) (by decide) (gk_c1_i rfl) rfl ?_
  refine Gk_goto (tgt := 264) B d_Mo_stageThree_307 rfl ?_
  exact H264 a0 x1 x4 (x5 + 1) w301 h
set_option maxHeartbeats 4000000 in
set_option maxRecDepth 100000 in
theorem sn_Mo_stageThree_264 {l : Launch} {Γ : gk_G} {p : Program} {e : Env} {s : State} {m : MethodId} {args : Array Value} {below : List Frame} {meth : Method} {c : Code} (B : gk_B p s m args meth c gk_Y Γ c_Mo_stageThree 6 "StageDispatcherModel") (hr : meth.sig.returnType = (some .int)) {ρ : Int32 × gk_M} {k252 : Option Nat → Int32 → Int32 → gk_M → Option (Int32 × gk_M)} (H252 : ∀ (a0 : Option Nat) (x1 : Int32) (x4 : Int32) (M : gk_M), k252 a0 x1 x4 M = some ρ → Gk p l e rm_Mo_stageThree s m args below meth c gk_Y Γ 6 (MQ below (gk_Q gk_Y Γ (some (.int ρ.1)) ρ.2) args s rm_Mo_stageThree.cells rm_Mo_stageThree.slots (fun q => Γ.2.2 ≤ q)) 0 0 M 252 [some (va_rf a0), some (.int x1), none, none, some (.int x4), none] []) {a0 : Option Nat} {x1 : Int32} {x4 : Int32} {x5 : Int32} {M : gk_M} (h : fn_Mo_stageThree_264 k252 a0 x1 x4 x5 M = some ρ) : Gk p l e rm_Mo_stageThree s m args below meth c gk_Y Γ 6 (MQ below (gk_Q gk_Y Γ (some (.int ρ.1)) ρ.2) args s rm_Mo_stageThree.cells rm_Mo_stageThree.slots (fun q => Γ.2.2 ≤ q)) 0 0 M 264 [some (va_rf a0), some (.int x1), none, none, some (.int x4), some (.int x5)] [] := by
  unfold fn_Mo_stageThree_264 at h
  exact gk_loop_sound (α := Option Nat × Int32 × Int32 × Int32 × gk_M) (P := fun a => Gk p l e rm_Mo_stageThree s m args below meth c gk_Y Γ 6 (MQ below (gk_Q gk_Y Γ (some (.int ρ.1)) ρ.2) args s rm_Mo_stageThree.cells rm_Mo_stageThree.slots (fun q => Γ.2.2 ≤ q)) 0 0 a.2.2.2.2 264 [some (va_rf a.1), some (.int a.2.1), none, none, some (.int a.2.2.1), some (.int a.2.2.2.1)] []) (fun kk a Hk hb => sn_Mo_stageThree_264_bd B hr H252 (fun a0 x1 x4 x5 M hh => Hk (a0, x1, x4, x5, M) hh) hb) _ _ h
set_option maxHeartbeats 4000000 in
set_option maxRecDepth 100000 in
theorem sn_Mo_stageThree_402 {l : Launch} {Γ : gk_G} {p : Program} {e : Env} {s : State} {m : MethodId} {args : Array Value} {below : List Frame} {meth : Method} {c : Code} (B : gk_B p s m args meth c gk_Y Γ c_Mo_stageThree 6 "StageDispatcherModel") (hr : meth.sig.returnType = (some .int)) {ρ : Int32 × gk_M}   {s0 : Option Nat} {s1 : Int32} {M : gk_M} (h : fn_Mo_stageThree_402  s0 s1 M = some ρ) : Gk p l e rm_Mo_stageThree s m args below meth c gk_Y Γ 6 (MQ below (gk_Q gk_Y Γ (some (.int ρ.1)) ρ.2) args s rm_Mo_stageThree.cells rm_Mo_stageThree.slots (fun q => Γ.2.2 ≤ q)) 0 0 M 402 [none, none, none, none, none, none] [.int s1, va_rf s0] := by
  unfold fn_Mo_stageThree_402 at h
  obtain ⟨M402, h402, h⟩ := gk_bind h
  refine Gk_put (j := 39) (ty := .int) B d_Mo_stageThree_402 in_Mo t_Mo t_Mo_ok n_Mo cl_Mo (by decide) tw_794 rfl rfl rfl rfl rfl h402 ?_
  refine Gk_iconst (v := 0) B d_Mo_stageThree_405 (by decide) ?_
  cases h
  exact Gk_iret B hr d_Mo_stageThree_406 rfl (by decide) (by decide) rfl
set_option maxHeartbeats 4000000 in
set_option maxRecDepth 100000 in
theorem sn_Mo_stageThree_376 {l : Launch} {Γ : gk_G} {p : Program} {e : Env} {s : State} {m : MethodId} {args : Array Value} {below : List Frame} {meth : Method} {c : Code} (B : gk_B p s m args meth c gk_Y Γ c_Mo_stageThree 6 "StageDispatcherModel") (hr : meth.sig.returnType = (some .int)) {ρ : Int32 × gk_M}   {a0 : Option Nat} {x3 : Int32} {M : gk_M} (h : fn_Mo_stageThree_376  a0 x3 M = some ρ) : Gk p l e rm_Mo_stageThree s m args below meth c gk_Y Γ 6 (MQ below (gk_Q gk_Y Γ (some (.int ρ.1)) ρ.2) args s rm_Mo_stageThree.cells rm_Mo_stageThree.slots (fun q => Γ.2.2 ≤ q)) 0 0 M 376 [some (va_rf a0), none, none, some (.int x3), none, none] [] := by
  unfold fn_Mo_stageThree_376 at h
  refine Gk_aload_n (i := 0) (r := a0) B d_Mo_stageThree_376 rfl rfl ?_
  refine Gk_iload_n (i := 3) (x := x3) B d_Mo_stageThree_377 rfl rfl ?_
  obtain ⟨M378, h378, h⟩ := gk_bind h
  refine Gk_put (j := 35) (ty := .int) B d_Mo_stageThree_378 in_Mo t_Mo t_Mo_ok n_Mo cl_Mo (by decide) tw_790 rfl rfl rfl rfl rfl h378 ?_
  refine Gk_aload_n (i := 0) (r := a0) B d_Mo_stageThree_381 rfl rfl ?_
  refine Gk_aload_n (i := 0) (r := a0) B d_Mo_stageThree_382 rfl rfl ?_
  obtain ⟨v383, h383, h⟩ := gk_bind h
  refine Gk_getI (j := 56) B d_Mo_stageThree_383 in_Mo cl_Mo (by decide) tw_811 rfl h383 ?_
  refine Gk_bipush (v := 16) B d_Mo_stageThree_386 (by decide) ?_
  refine Gk_irem B d_Mo_stageThree_388 (by decide) ?_
  refine Gk_if_ne (tgt := 398) B d_Mo_stageThree_389 rfl (fun c389 => ?_) (fun c389 => ?_)
  · rw [if_neg c389] at h
    refine Gk_aload_n (i := 0) (r := a0) B d_Mo_stageThree_398 rfl rfl ?_
    obtain ⟨v399, h399, h⟩ := gk_bind h
    refine Gk_getI (j := 56) B d_Mo_stageThree_399 in_Mo cl_Mo (by decide) tw_811 rfl h399 ?_
    refine Gk_weak [false, false, false, false, false, false] (L' := [none, none, none, none, none, none]) rfl ?_
    exact sn_Mo_stageThree_402 B hr h
  rw [if_pos c389] at h
  refine Gk_sipush (v := 255) B d_Mo_stageThree_392 (by decide) ?_
  refine Gk_goto (tgt := 402) B d_Mo_stageThree_395 rfl ?_
  refine Gk_weak [false, false, false, false, false, false] (L' := [none, none, none, none, none, none]) rfl ?_
  exact sn_Mo_stageThree_402 B hr h
set_option maxHeartbeats 4000000 in
set_option maxRecDepth 100000 in
theorem sn_Mo_stageThree_252_bd {l : Launch} {Γ : gk_G} {p : Program} {e : Env} {s : State} {m : MethodId} {args : Array Value} {below : List Frame} {meth : Method} {c : Code} (B : gk_B p s m args meth c gk_Y Γ c_Mo_stageThree 6 "StageDispatcherModel") (hr : meth.sig.returnType = (some .int)) {ρ : Int32 × gk_M} {k252 : Option Nat → Int32 → Int32 → gk_M → Option (Int32 × gk_M)} (H252 : ∀ (a0 : Option Nat) (x1 : Int32) (x4 : Int32) (M : gk_M), k252 a0 x1 x4 M = some ρ → Gk p l e rm_Mo_stageThree s m args below meth c gk_Y Γ 6 (MQ below (gk_Q gk_Y Γ (some (.int ρ.1)) ρ.2) args s rm_Mo_stageThree.cells rm_Mo_stageThree.slots (fun q => Γ.2.2 ≤ q)) 0 0 M 252 [some (va_rf a0), some (.int x1), none, none, some (.int x4), none] []) {a0 : Option Nat} {x1 : Int32} {x4 : Int32} {M : gk_M} (h : fn_Mo_stageThree_252_bd k252 a0 x1 x4 M = some ρ) : Gk p l e rm_Mo_stageThree s m args below meth c gk_Y Γ 6 (MQ below (gk_Q gk_Y Γ (some (.int ρ.1)) ρ.2) args s rm_Mo_stageThree.cells rm_Mo_stageThree.slots (fun q => Γ.2.2 ≤ q)) 0 0 M 252 [some (va_rf a0), some (.int x1), none, none, some (.int x4), none] [] := by
  unfold fn_Mo_stageThree_252_bd at h
  refine Gk_iload (x := x4) B d_Mo_stageThree_252 rfl ?_
  refine Gk_aload_n (i := 0) (r := a0) B d_Mo_stageThree_254 rfl rfl ?_
  obtain ⟨v255, h255, h⟩ := gk_bind h
  refine Gk_getI (j := 5) B d_Mo_stageThree_255 in_Mo cl_Mo (by decide) tw_760 rfl h255 ?_
  refine Gk_icmp_ge (tgt := 344) B d_Mo_stageThree_258 rfl (fun c258 => ?_) (fun c258 => ?_)
  · rw [if_pos c258] at h
    refine Gk_aload_n (i := 0) (r := a0) B d_Mo_stageThree_344 rfl rfl ?_
    obtain ⟨v345, h345, h⟩ := gk_bind h
    refine Gk_getI (j := 35) B d_Mo_stageThree_345 in_Mo cl_Mo (by decide) tw_790 rfl h345 ?_
    refine Gk_istore_n (i := 3) (L' := [some (va_rf a0), some (.int x1), none, some (.int v345), some (.int x4), none]) B d_Mo_stageThree_348 rfl (by decide) (gk_c1_n rfl) rfl ?_
    refine Gk_aload_n (i := 0) (r := a0) B d_Mo_stageThree_349 rfl rfl ?_
    refine Gk_iconst (v := (-1)) B d_Mo_stageThree_350 (by decide) ?_
    obtain ⟨M351, h351, h⟩ := gk_bind h
    refine Gk_put (j := 35) (ty := .int) B d_Mo_stageThree_351 in_Mo t_Mo t_Mo_ok n_Mo cl_Mo (by decide) tw_790 rfl rfl rfl rfl rfl h351 ?_
    refine Gk_aload_n (i := 0) (r := a0) B d_Mo_stageThree_354 rfl rfl ?_
    obtain ⟨v355, h355, h⟩ := gk_bind h
    refine Gk_getI (j := 56) B d_Mo_stageThree_355 in_Mo cl_Mo (by decide) tw_811 rfl h355 ?_
    refine Gk_bipush (v := 16) B d_Mo_stageThree_358 (by decide) ?_
    refine Gk_irem B d_Mo_stageThree_360 (by decide) ?_
    refine Gk_if_ne (tgt := 376) B d_Mo_stageThree_361 rfl (fun c361 => ?_) (fun c361 => ?_)
    · rw [if_neg c361] at h
      refine Gk_weak [true, false, false, true, false, false] (L' := [some (va_rf a0), none, none, some (.int v345), none, none]) rfl ?_
      exact sn_Mo_stageThree_376 B hr h
    rw [if_pos c361] at h
    refine Gk_aload_n (i := 0) (r := a0) B d_Mo_stageThree_364 rfl rfl ?_
    obtain ⟨v365, h365, h⟩ := gk_bind h
    refine Gk_getI (j := 56) B d_Mo_stageThree_365 in_Mo cl_Mo (by decide) tw_811 rfl h365 ?_
    refine Gk_bipush (v := 16) B d_Mo_stageThree_368 (by decide) ?_
    refine Gk_icmp_le (tgt := 376) B d_Mo_stageThree_370 rfl (fun c370 => ?_) (fun c370 => ?_)
    · rw [if_pos c370] at h
      refine Gk_weak [true, false, false, true, false, false] (L' := [some (va_rf a0), none, none, some (.int v345), none, none]) rfl ?_
      exact sn_Mo_stageThree_376 B hr h
    rw [if_neg c370] at h
    refine Gk_bipush (v := 10) B d_Mo_stageThree_373 (by decide) ?_
    cases h
    exact Gk_iret B hr d_Mo_stageThree_375 rfl (by decide) (by decide) rfl
  rw [if_neg c258] at h
  refine Gk_iconst (v := 0) B d_Mo_stageThree_261 (by decide) ?_
  refine Gk_istore (L' := [some (va_rf a0), some (.int x1), none, none, some (.int x4), some (.int 0)]) B d_Mo_stageThree_262 (by decide) (gk_c1_i rfl) rfl ?_
  exact sn_Mo_stageThree_264 B hr H252 h
set_option maxHeartbeats 4000000 in
set_option maxRecDepth 100000 in
theorem sn_Mo_stageThree_252 {l : Launch} {Γ : gk_G} {p : Program} {e : Env} {s : State} {m : MethodId} {args : Array Value} {below : List Frame} {meth : Method} {c : Code} (B : gk_B p s m args meth c gk_Y Γ c_Mo_stageThree 6 "StageDispatcherModel") (hr : meth.sig.returnType = (some .int)) {ρ : Int32 × gk_M}   {a0 : Option Nat} {x1 : Int32} {x4 : Int32} {M : gk_M} (h : fn_Mo_stageThree_252  a0 x1 x4 M = some ρ) : Gk p l e rm_Mo_stageThree s m args below meth c gk_Y Γ 6 (MQ below (gk_Q gk_Y Γ (some (.int ρ.1)) ρ.2) args s rm_Mo_stageThree.cells rm_Mo_stageThree.slots (fun q => Γ.2.2 ≤ q)) 0 0 M 252 [some (va_rf a0), some (.int x1), none, none, some (.int x4), none] [] := by
  unfold fn_Mo_stageThree_252 at h
  exact gk_loop_sound (α := Option Nat × Int32 × Int32 × gk_M) (P := fun a => Gk p l e rm_Mo_stageThree s m args below meth c gk_Y Γ 6 (MQ below (gk_Q gk_Y Γ (some (.int ρ.1)) ρ.2) args s rm_Mo_stageThree.cells rm_Mo_stageThree.slots (fun q => Γ.2.2 ≤ q)) 0 0 a.2.2.2 252 [some (va_rf a.1), some (.int a.2.1), none, none, some (.int a.2.2.1), none] []) (fun kk a Hk hb => sn_Mo_stageThree_252_bd B hr (fun a0 x1 x4 M hh => Hk (a0, x1, x4, M) hh) hb) _ _ h
set_option maxHeartbeats 4000000 in
set_option maxRecDepth 100000 in
theorem sn_Mo_stageThree_188_bd {l : Launch} {Γ : gk_G} {p : Program} {e : Env} {s : State} {m : MethodId} {args : Array Value} {below : List Frame} {meth : Method} {c : Code} (B : gk_B p s m args meth c gk_Y Γ c_Mo_stageThree 6 "StageDispatcherModel") (hr : meth.sig.returnType = (some .int)) {ρ : Int32 × gk_M} {k188 : Option Nat → Int32 → Int32 → gk_M → Option (Int32 × gk_M)} (H188 : ∀ (a0 : Option Nat) (x1 : Int32) (x3 : Int32) (M : gk_M), k188 a0 x1 x3 M = some ρ → Gk p l e rm_Mo_stageThree s m args below meth c gk_Y Γ 6 (MQ below (gk_Q gk_Y Γ (some (.int ρ.1)) ρ.2) args s rm_Mo_stageThree.cells rm_Mo_stageThree.slots (fun q => Γ.2.2 ≤ q)) 0 0 M 188 [some (va_rf a0), some (.int x1), none, some (.int x3), none, none] []) {a0 : Option Nat} {x1 : Int32} {x3 : Int32} {M : gk_M} (h : fn_Mo_stageThree_188_bd k188 a0 x1 x3 M = some ρ) : Gk p l e rm_Mo_stageThree s m args below meth c gk_Y Γ 6 (MQ below (gk_Q gk_Y Γ (some (.int ρ.1)) ρ.2) args s rm_Mo_stageThree.cells rm_Mo_stageThree.slots (fun q => Γ.2.2 ≤ q)) 0 0 M 188 [some (va_rf a0), some (.int x1), none, some (.int x3), none, none] [] := by
  unfold fn_Mo_stageThree_188_bd at h
  refine Gk_iload_n (i := 3) (x := x3) B d_Mo_stageThree_188 rfl rfl ?_
  refine Gk_aload_n (i := 0) (r := a0) B d_Mo_stageThree_189 rfl rfl ?_
  obtain ⟨v190, h190, h⟩ := gk_bind h
  refine Gk_getI (j := 5) B d_Mo_stageThree_190 in_Mo cl_Mo (by decide) tw_760 rfl h190 ?_
  refine Gk_icmp_ge (tgt := 230) B d_Mo_stageThree_193 rfl (fun c193 => ?_) (fun c193 => ?_)
  · rw [if_pos c193] at h
    refine Gk_aload_n (i := 0) (r := a0) B d_Mo_stageThree_230 rfl rfl ?_
    obtain ⟨o231, g231, h⟩ := gk_bind h
    obtain ⟨w231, h231, h⟩ := gk_bind h
    refine Gk_callV (As := []) (rest := []) (st1 := [.int w231.1]) (k1 := 0) (n1 := 0) B gk_hG d_Mo_stageThree_231 (sn_Mo_any h231) g231 cl_Mo tw_1059 tw_1056 tw_1058 tw_33 tw_48 nm_Mo_any rfl (by decide) ⟨by decide, by decide⟩ ⟨by decide, by decide⟩ rfl rfl rfl rfl ?_
    refine Gk_if_ne (tgt := 240) B d_Mo_stageThree_234 rfl (fun c234 => ?_) (fun c234 => ?_)
    · rw [if_neg c234] at h
      refine Gk_aload_n (i := 0) (r := a0) B d_Mo_stageThree_240 rfl rfl ?_
      refine Gk_ldc2 (v := (-1)) B d_Mo_stageThree_241 tw_1067 ?_
      obtain ⟨M244, h244, h⟩ := gk_bind h
      refine Gk_put (j := 55) (ty := .long) B d_Mo_stageThree_244 in_Mo t_Mo t_Mo_ok n_Mo cl_Mo (by decide) tw_810 rfl rfl rfl rfl rfl h244 ?_
      refine Gk_iconst (v := (-1)) B d_Mo_stageThree_247 (by decide) ?_
      refine Gk_istore_n (i := 3) (L' := [some (va_rf a0), some (.int x1), none, some (.int (-1)), none, none]) B d_Mo_stageThree_248 rfl (by decide) (gk_c1_n rfl) rfl ?_
      refine Gk_iconst (v := 0) B d_Mo_stageThree_249 (by decide) ?_
      refine Gk_istore (L' := [some (va_rf a0), some (.int x1), none, some (.int (-1)), some (.int 0), none]) B d_Mo_stageThree_250 (by decide) (gk_c1_i rfl) rfl ?_
      refine Gk_weak [true, true, false, false, true, false] (L' := [some (va_rf a0), some (.int x1), none, none, some (.int 0), none]) rfl ?_
      exact sn_Mo_stageThree_252 B hr h
    rw [if_pos c234] at h
    refine Gk_bipush (v := 10) B d_Mo_stageThree_237 (by decide) ?_
    cases h
    exact Gk_iret B hr d_Mo_stageThree_239 rfl (by decide) (by decide) rfl
  rw [if_neg c193] at h
  refine Gk_aload_n (i := 0) (r := a0) B d_Mo_stageThree_196 rfl rfl ?_
  obtain ⟨v197, h197, h⟩ := gk_bind h
  refine Gk_getR (j := 54) B d_Mo_stageThree_197 in_Mo cl_Mo (by decide) tw_809 rfl h197 ?_
  refine Gk_iload_n (i := 3) (x := x3) B d_Mo_stageThree_200 rfl rfl ?_
  refine Gk_aload_n (i := 0) (r := a0) B d_Mo_stageThree_201 rfl rfl ?_
  obtain ⟨v202, h202, h⟩ := gk_bind h
  refine Gk_getR (j := 54) B d_Mo_stageThree_202 in_Mo cl_Mo (by decide) tw_809 rfl h202 ?_
  refine Gk_iload_n (i := 3) (x := x3) B d_Mo_stageThree_205 rfl rfl ?_
  obtain ⟨v206, h206, h⟩ := gk_bind h
  refine Gk_zaload B d_Mo_stageThree_206 ty_2 h206 ?_
  refine Gk_if_eq (tgt := 222) B d_Mo_stageThree_207 rfl (fun c207 => ?_) (fun c207 => ?_)
  · rw [if_pos c207] at h
    exact sn_Mo_stageThree_222 B hr H188 h
  rw [if_neg c207] at h
  refine Gk_aload_n (i := 0) (r := a0) B d_Mo_stageThree_210 rfl rfl ?_
  refine Gk_iload_n (i := 3) (x := x3) B d_Mo_stageThree_211 rfl rfl ?_
  obtain ⟨o212, g212, h⟩ := gk_bind h
  obtain ⟨w212, h212, h⟩ := gk_bind h
  refine Gk_callV (As := [.int x3]) (rest := [.int x3, va_rf v197]) (st1 := [.int w212.1, .int x3, va_rf v197]) (k1 := 0) (n1 := 0) B gk_hG d_Mo_stageThree_212 (sn_Mo_accepted h212) g212 cl_Mo tw_1063 tw_1060 tw_1062 tw_34 tw_48 nm_Mo_accepted rfl (by simp [gk_rc, gk_ic, gk_jc, rm_Mo_stageThree]) ⟨by decide, by decide⟩ ⟨by decide, by decide⟩ rfl rfl rfl rfl ?_
  refine Gk_if_eq (tgt := 222) B d_Mo_stageThree_215 rfl (fun c215 => ?_) (fun c215 => ?_)
  · rw [if_pos c215] at h
    exact sn_Mo_stageThree_222 B hr H188 h
  rw [if_neg c215] at h
  refine Gk_iconst (v := 1) B d_Mo_stageThree_218 (by decide) ?_
  refine Gk_goto (tgt := 223) B d_Mo_stageThree_219 rfl ?_
  exact sn_Mo_stageThree_223 B hr H188 h
set_option maxHeartbeats 4000000 in
set_option maxRecDepth 100000 in
theorem sn_Mo_stageThree_188 {l : Launch} {Γ : gk_G} {p : Program} {e : Env} {s : State} {m : MethodId} {args : Array Value} {below : List Frame} {meth : Method} {c : Code} (B : gk_B p s m args meth c gk_Y Γ c_Mo_stageThree 6 "StageDispatcherModel") (hr : meth.sig.returnType = (some .int)) {ρ : Int32 × gk_M}   {a0 : Option Nat} {x1 : Int32} {x3 : Int32} {M : gk_M} (h : fn_Mo_stageThree_188  a0 x1 x3 M = some ρ) : Gk p l e rm_Mo_stageThree s m args below meth c gk_Y Γ 6 (MQ below (gk_Q gk_Y Γ (some (.int ρ.1)) ρ.2) args s rm_Mo_stageThree.cells rm_Mo_stageThree.slots (fun q => Γ.2.2 ≤ q)) 0 0 M 188 [some (va_rf a0), some (.int x1), none, some (.int x3), none, none] [] := by
  unfold fn_Mo_stageThree_188 at h
  exact gk_loop_sound (α := Option Nat × Int32 × Int32 × gk_M) (P := fun a => Gk p l e rm_Mo_stageThree s m args below meth c gk_Y Γ 6 (MQ below (gk_Q gk_Y Γ (some (.int ρ.1)) ρ.2) args s rm_Mo_stageThree.cells rm_Mo_stageThree.slots (fun q => Γ.2.2 ≤ q)) 0 0 a.2.2.2 188 [some (va_rf a.1), some (.int a.2.1), none, some (.int a.2.2.1), none, none] []) (fun kk a Hk hb => sn_Mo_stageThree_188_bd B hr (fun a0 x1 x3 M hh => Hk (a0, x1, x3, M) hh) hb) _ _ h
set_option maxHeartbeats 4000000 in
set_option maxRecDepth 100000 in
theorem sn_Mo_stageThree_125_bd {l : Launch} {Γ : gk_G} {p : Program} {e : Env} {s : State} {m : MethodId} {args : Array Value} {below : List Frame} {meth : Method} {c : Code} (B : gk_B p s m args meth c gk_Y Γ c_Mo_stageThree 6 "StageDispatcherModel") (hr : meth.sig.returnType = (some .int)) {ρ : Int32 × gk_M} {k125 : Option Nat → Int32 → Int32 → gk_M → Option (Int32 × gk_M)} (H125 : ∀ (a0 : Option Nat) (x1 : Int32) (x3 : Int32) (M : gk_M), k125 a0 x1 x3 M = some ρ → Gk p l e rm_Mo_stageThree s m args below meth c gk_Y Γ 6 (MQ below (gk_Q gk_Y Γ (some (.int ρ.1)) ρ.2) args s rm_Mo_stageThree.cells rm_Mo_stageThree.slots (fun q => Γ.2.2 ≤ q)) 0 0 M 125 [some (va_rf a0), some (.int x1), none, some (.int x3), none, none] []) {a0 : Option Nat} {x1 : Int32} {x3 : Int32} {M : gk_M} (h : fn_Mo_stageThree_125_bd k125 a0 x1 x3 M = some ρ) : Gk p l e rm_Mo_stageThree s m args below meth c gk_Y Γ 6 (MQ below (gk_Q gk_Y Γ (some (.int ρ.1)) ρ.2) args s rm_Mo_stageThree.cells rm_Mo_stageThree.slots (fun q => Γ.2.2 ≤ q)) 0 0 M 125 [some (va_rf a0), some (.int x1), none, some (.int x3), none, none] [] := by
  unfold fn_Mo_stageThree_125_bd at h
  refine Gk_iload_n (i := 3) (x := x3) B d_Mo_stageThree_125 rfl rfl ?_
  refine Gk_aload_n (i := 0) (r := a0) B d_Mo_stageThree_126 rfl rfl ?_
  obtain ⟨v127, h127, h⟩ := gk_bind h
  refine Gk_getI (j := 5) B d_Mo_stageThree_127 in_Mo cl_Mo (by decide) tw_760 rfl h127 ?_
  refine Gk_icmp_ge (tgt := 176) B d_Mo_stageThree_130 rfl (fun c130 => ?_) (fun c130 => ?_)
  · rw [if_pos c130] at h
    refine Gk_aload_n (i := 0) (r := a0) B d_Mo_stageThree_176 rfl rfl ?_
    obtain ⟨o177, g177, h⟩ := gk_bind h
    obtain ⟨w177, h177, h⟩ := gk_bind h
    refine Gk_callV (As := []) (rest := []) (st1 := [.int w177.1]) (k1 := 0) (n1 := 0) B gk_hG d_Mo_stageThree_177 (sn_Mo_any h177) g177 cl_Mo tw_1059 tw_1056 tw_1058 tw_33 tw_48 nm_Mo_any rfl (by decide) ⟨by decide, by decide⟩ ⟨by decide, by decide⟩ rfl rfl rfl rfl ?_
    refine Gk_if_ne (tgt := 186) B d_Mo_stageThree_180 rfl (fun c180 => ?_) (fun c180 => ?_)
    · rw [if_neg c180] at h
      refine Gk_iconst (v := 0) B d_Mo_stageThree_186 (by decide) ?_
      refine Gk_istore_n (i := 3) (L' := [some (va_rf a0), some (.int x1), none, some (.int 0), none, none]) B d_Mo_stageThree_187 rfl (by decide) (gk_c1_n rfl) rfl ?_
      exact sn_Mo_stageThree_188 B hr h
    rw [if_pos c180] at h
    refine Gk_bipush (v := 11) B d_Mo_stageThree_183 (by decide) ?_
    cases h
    exact Gk_iret B hr d_Mo_stageThree_185 rfl (by decide) (by decide) rfl
  rw [if_neg c130] at h
  refine Gk_aload_n (i := 0) (r := a0) B d_Mo_stageThree_133 rfl rfl ?_
  obtain ⟨v134, h134, h⟩ := gk_bind h
  refine Gk_getR (j := 54) B d_Mo_stageThree_134 in_Mo cl_Mo (by decide) tw_809 rfl h134 ?_
  refine Gk_iload_n (i := 3) (x := x3) B d_Mo_stageThree_137 rfl rfl ?_
  refine Gk_aload_n (i := 0) (r := a0) B d_Mo_stageThree_138 rfl rfl ?_
  obtain ⟨v139, h139, h⟩ := gk_bind h
  refine Gk_getR (j := 54) B d_Mo_stageThree_139 in_Mo cl_Mo (by decide) tw_809 rfl h139 ?_
  refine Gk_iload_n (i := 3) (x := x3) B d_Mo_stageThree_142 rfl rfl ?_
  obtain ⟨v143, h143, h⟩ := gk_bind h
  refine Gk_zaload B d_Mo_stageThree_143 ty_2 h143 ?_
  refine Gk_if_eq (tgt := 168) B d_Mo_stageThree_144 rfl (fun c144 => ?_) (fun c144 => ?_)
  · rw [if_pos c144] at h
    exact sn_Mo_stageThree_168 B hr H125 h
  rw [if_neg c144] at h
  refine Gk_iload_n (i := 1) (x := x1) B d_Mo_stageThree_147 rfl rfl ?_
  refine Gk_if_eq (tgt := 164) B d_Mo_stageThree_148 rfl (fun c148 => ?_) (fun c148 => ?_)
  · rw [if_pos c148] at h
    exact sn_Mo_stageThree_164 B hr H125 h
  rw [if_neg c148] at h
  refine Gk_aload_n (i := 0) (r := a0) B d_Mo_stageThree_151 rfl rfl ?_
  obtain ⟨v152, h152, h⟩ := gk_bind h
  refine Gk_getR (j := 8) B d_Mo_stageThree_152 in_Mo cl_Mo (by decide) tw_763 rfl h152 ?_
  refine Gk_iload_n (i := 3) (x := x3) B d_Mo_stageThree_155 rfl rfl ?_
  obtain ⟨v156, h156, h⟩ := gk_bind h
  refine Gk_iaload B d_Mo_stageThree_156 ty_0 h156 ?_
  refine Gk_iload_n (i := 1) (x := x1) B d_Mo_stageThree_157 rfl rfl ?_
  obtain ⟨w158, h158, h⟩ := gk_bind h
  refine Gk_callS (As := [.int v156, .int x1]) (rest := [.int x3, va_rf v134]) (st1 := [.int w158.1, .int x3, va_rf v134]) (k1 := 0) (n1 := 0) B gk_hG d_Mo_stageThree_158 (sn_Mo_covers h158) tw_1055 tw_1053 tw_1054 tw_48 nm_Mo_covers rfl (by simp [gk_rc, gk_ic, gk_jc, rm_Mo_stageThree]) ⟨by decide, by decide⟩ ⟨by decide, by decide⟩ rfl rfl rfl rfl ?_
  refine Gk_if_eq (tgt := 168) B d_Mo_stageThree_161 rfl (fun c161 => ?_) (fun c161 => ?_)
  · rw [if_pos c161] at h
    exact sn_Mo_stageThree_168 B hr H125 h
  rw [if_neg c161] at h
  exact sn_Mo_stageThree_164 B hr H125 h
set_option maxHeartbeats 4000000 in
set_option maxRecDepth 100000 in
theorem sn_Mo_stageThree_125 {l : Launch} {Γ : gk_G} {p : Program} {e : Env} {s : State} {m : MethodId} {args : Array Value} {below : List Frame} {meth : Method} {c : Code} (B : gk_B p s m args meth c gk_Y Γ c_Mo_stageThree 6 "StageDispatcherModel") (hr : meth.sig.returnType = (some .int)) {ρ : Int32 × gk_M}   {a0 : Option Nat} {x1 : Int32} {x3 : Int32} {M : gk_M} (h : fn_Mo_stageThree_125  a0 x1 x3 M = some ρ) : Gk p l e rm_Mo_stageThree s m args below meth c gk_Y Γ 6 (MQ below (gk_Q gk_Y Γ (some (.int ρ.1)) ρ.2) args s rm_Mo_stageThree.cells rm_Mo_stageThree.slots (fun q => Γ.2.2 ≤ q)) 0 0 M 125 [some (va_rf a0), some (.int x1), none, some (.int x3), none, none] [] := by
  unfold fn_Mo_stageThree_125 at h
  exact gk_loop_sound (α := Option Nat × Int32 × Int32 × gk_M) (P := fun a => Gk p l e rm_Mo_stageThree s m args below meth c gk_Y Γ 6 (MQ below (gk_Q gk_Y Γ (some (.int ρ.1)) ρ.2) args s rm_Mo_stageThree.cells rm_Mo_stageThree.slots (fun q => Γ.2.2 ≤ q)) 0 0 a.2.2.2 125 [some (va_rf a.1), some (.int a.2.1), none, some (.int a.2.2.1), none, none] []) (fun kk a Hk hb => sn_Mo_stageThree_125_bd B hr (fun a0 x1 x3 M hh => Hk (a0, x1, x3, M) hh) hb) _ _ h
set_option maxHeartbeats 4000000 in
set_option maxRecDepth 100000 in
theorem sn_Mo_stageThree_103 {l : Launch} {Γ : gk_G} {p : Program} {e : Env} {s : State} {m : MethodId} {args : Array Value} {below : List Frame} {meth : Method} {c : Code} (B : gk_B p s m args meth c gk_Y Γ c_Mo_stageThree 6 "StageDispatcherModel") (hr : meth.sig.returnType = (some .int)) {ρ : Int32 × gk_M}   {a0 : Option Nat} {x1 : Int32} {s0 : Int32} {M : gk_M} (h : fn_Mo_stageThree_103  a0 x1 s0 M = some ρ) : Gk p l e rm_Mo_stageThree s m args below meth c gk_Y Γ 6 (MQ below (gk_Q gk_Y Γ (some (.int ρ.1)) ρ.2) args s rm_Mo_stageThree.cells rm_Mo_stageThree.slots (fun q => Γ.2.2 ≤ q)) 0 0 M 103 [some (va_rf a0), some (.int x1), none, none, none, none] [.int s0] := by
  unfold fn_Mo_stageThree_103 at h
  refine Gk_istore_n (i := 2) (L' := [some (va_rf a0), some (.int x1), some (.int s0), none, none, none]) B d_Mo_stageThree_103 rfl (by decide) (gk_c1_i rfl) rfl ?_
  refine Gk_iload_n (i := 2) (x := s0) B d_Mo_stageThree_104 rfl rfl ?_
  refine Gk_if_ne (tgt := 123) B d_Mo_stageThree_105 rfl (fun c105 => ?_) (fun c105 => ?_)
  · rw [if_neg c105] at h
    refine Gk_iconst (v := 0) B d_Mo_stageThree_123 (by decide) ?_
    refine Gk_istore_n (i := 3) (L' := [some (va_rf a0), some (.int x1), some (.int s0), some (.int 0), none, none]) B d_Mo_stageThree_124 rfl (by decide) (gk_c1_i rfl) rfl ?_
    refine Gk_weak [true, true, false, true, false, false] (L' := [some (va_rf a0), some (.int x1), none, some (.int 0), none, none]) rfl ?_
    exact sn_Mo_stageThree_125 B hr h
  rw [if_pos c105] at h
  refine Gk_aload_n (i := 0) (r := a0) B d_Mo_stageThree_108 rfl rfl ?_
  obtain ⟨v109, h109, h⟩ := gk_bind h
  refine Gk_getI (j := 30) B d_Mo_stageThree_109 in_Mo cl_Mo (by decide) tw_785 rfl h109 ?_
  refine Gk_iconst (v := 5) B d_Mo_stageThree_112 (by decide) ?_
  refine Gk_icmp_ne (tgt := 120) B d_Mo_stageThree_113 rfl (fun c113 => ?_) (fun c113 => ?_)
  · rw [if_neg c113] at h
    refine Gk_bipush (v := 9) B d_Mo_stageThree_120 (by decide) ?_
    cases h
    exact Gk_iret B hr d_Mo_stageThree_122 rfl (by decide) (by decide) rfl
  rw [if_pos c113] at h
  refine Gk_iconst (v := (-1)) B d_Mo_stageThree_116 (by decide) ?_
  refine Gk_goto (tgt := 122) B d_Mo_stageThree_117 rfl ?_
  cases h
  exact Gk_iret B hr d_Mo_stageThree_122 rfl (by decide) (by decide) rfl
set_option maxHeartbeats 4000000 in
set_option maxRecDepth 100000 in
theorem sn_Mo_stageThree_98 {l : Launch} {Γ : gk_G} {p : Program} {e : Env} {s : State} {m : MethodId} {args : Array Value} {below : List Frame} {meth : Method} {c : Code} (B : gk_B p s m args meth c gk_Y Γ c_Mo_stageThree 6 "StageDispatcherModel") (hr : meth.sig.returnType = (some .int)) {ρ : Int32 × gk_M}   {a0 : Option Nat} {x1 : Int32} {M : gk_M} (h : fn_Mo_stageThree_98  a0 x1 M = some ρ) : Gk p l e rm_Mo_stageThree s m args below meth c gk_Y Γ 6 (MQ below (gk_Q gk_Y Γ (some (.int ρ.1)) ρ.2) args s rm_Mo_stageThree.cells rm_Mo_stageThree.slots (fun q => Γ.2.2 ≤ q)) 0 0 M 98 [some (va_rf a0), some (.int x1), none, none, none, none] [] := by
  unfold fn_Mo_stageThree_98 at h
  refine Gk_iconst (v := 1) B d_Mo_stageThree_98 (by decide) ?_
  refine Gk_goto (tgt := 103) B d_Mo_stageThree_99 rfl ?_
  exact sn_Mo_stageThree_103 B hr h
set_option maxHeartbeats 4000000 in
set_option maxRecDepth 100000 in
theorem sn_Mo_stageThree_102 {l : Launch} {Γ : gk_G} {p : Program} {e : Env} {s : State} {m : MethodId} {args : Array Value} {below : List Frame} {meth : Method} {c : Code} (B : gk_B p s m args meth c gk_Y Γ c_Mo_stageThree 6 "StageDispatcherModel") (hr : meth.sig.returnType = (some .int)) {ρ : Int32 × gk_M}   {a0 : Option Nat} {x1 : Int32} {M : gk_M} (h : fn_Mo_stageThree_102  a0 x1 M = some ρ) : Gk p l e rm_Mo_stageThree s m args below meth c gk_Y Γ 6 (MQ below (gk_Q gk_Y Γ (some (.int ρ.1)) ρ.2) args s rm_Mo_stageThree.cells rm_Mo_stageThree.slots (fun q => Γ.2.2 ≤ q)) 0 0 M 102 [some (va_rf a0), some (.int x1), none, none, none, none] [] := by
  unfold fn_Mo_stageThree_102 at h
  refine Gk_iconst (v := 0) B d_Mo_stageThree_102 (by decide) ?_
  exact sn_Mo_stageThree_103 B hr h
set_option maxHeartbeats 4000000 in
set_option maxRecDepth 100000 in
theorem sn_Mo_stageThree_8_bd {l : Launch} {Γ : gk_G} {p : Program} {e : Env} {s : State} {m : MethodId} {args : Array Value} {below : List Frame} {meth : Method} {c : Code} (B : gk_B p s m args meth c gk_Y Γ c_Mo_stageThree 6 "StageDispatcherModel") (hr : meth.sig.returnType = (some .int)) {ρ : Int32 × gk_M} {k8 : Option Nat → Int32 → Int32 → gk_M → Option (Int32 × gk_M)} (H8 : ∀ (a0 : Option Nat) (x1 : Int32) (x2 : Int32) (M : gk_M), k8 a0 x1 x2 M = some ρ → Gk p l e rm_Mo_stageThree s m args below meth c gk_Y Γ 6 (MQ below (gk_Q gk_Y Γ (some (.int ρ.1)) ρ.2) args s rm_Mo_stageThree.cells rm_Mo_stageThree.slots (fun q => Γ.2.2 ≤ q)) 0 0 M 8 [some (va_rf a0), some (.int x1), some (.int x2), none, none, none] []) {a0 : Option Nat} {x1 : Int32} {x2 : Int32} {M : gk_M} (h : fn_Mo_stageThree_8_bd k8 a0 x1 x2 M = some ρ) : Gk p l e rm_Mo_stageThree s m args below meth c gk_Y Γ 6 (MQ below (gk_Q gk_Y Γ (some (.int ρ.1)) ρ.2) args s rm_Mo_stageThree.cells rm_Mo_stageThree.slots (fun q => Γ.2.2 ≤ q)) 0 0 M 8 [some (va_rf a0), some (.int x1), some (.int x2), none, none, none] [] := by
  unfold fn_Mo_stageThree_8_bd at h
  refine Gk_iload_n (i := 2) (x := x2) B d_Mo_stageThree_8 rfl rfl ?_
  refine Gk_aload_n (i := 0) (r := a0) B d_Mo_stageThree_9 rfl rfl ?_
  obtain ⟨v10, h10, h⟩ := gk_bind h
  refine Gk_getI (j := 5) B d_Mo_stageThree_10 in_Mo cl_Mo (by decide) tw_760 rfl h10 ?_
  refine Gk_icmp_ge (tgt := 71) B d_Mo_stageThree_13 rfl (fun c13 => ?_) (fun c13 => ?_)
  · rw [if_pos c13] at h
    refine Gk_aload_n (i := 0) (r := a0) B d_Mo_stageThree_71 rfl rfl ?_
    refine Gk_aload_n (i := 0) (r := a0) B d_Mo_stageThree_72 rfl rfl ?_
    obtain ⟨v73, h73, h⟩ := gk_bind h
    refine Gk_getI (j := 30) B d_Mo_stageThree_73 in_Mo cl_Mo (by decide) tw_785 rfl h73 ?_
    obtain ⟨o76, g76, h⟩ := gk_bind h
    obtain ⟨w76, h76, h⟩ := gk_bind h
    refine Gk_callV (As := [.int v73]) (rest := []) (st1 := [.int w76.1]) (k1 := 0) (n1 := 0) B gk_hG d_Mo_stageThree_76 (sn_Mo_only h76) g76 cl_Mo tw_1052 tw_1049 tw_1051 tw_32 tw_48 nm_Mo_only rfl (by decide) ⟨by decide, by decide⟩ ⟨by decide, by decide⟩ rfl rfl rfl rfl ?_
    refine Gk_if_ne (tgt := 98) B d_Mo_stageThree_79 rfl (fun c79 => ?_) (fun c79 => ?_)
    · rw [if_neg c79] at h
      refine Gk_weak [true, true, false, false, false, false] (L' := [some (va_rf a0), some (.int x1), none, none, none, none]) rfl ?_
      exact sn_Mo_stageThree_98 B hr h
    rw [if_pos c79] at h
    refine Gk_aload_n (i := 0) (r := a0) B d_Mo_stageThree_82 rfl rfl ?_
    obtain ⟨v83, h83, h⟩ := gk_bind h
    refine Gk_getI (j := 30) B d_Mo_stageThree_83 in_Mo cl_Mo (by decide) tw_785 rfl h83 ?_
    refine Gk_iconst (v := 4) B d_Mo_stageThree_86 (by decide) ?_
    refine Gk_icmp_ne (tgt := 102) B d_Mo_stageThree_87 rfl (fun c87 => ?_) (fun c87 => ?_)
    · rw [if_neg c87] at h
      refine Gk_weak [true, true, false, false, false, false] (L' := [some (va_rf a0), some (.int x1), none, none, none, none]) rfl ?_
      exact sn_Mo_stageThree_102 B hr h
    rw [if_pos c87] at h
    refine Gk_aload_n (i := 0) (r := a0) B d_Mo_stageThree_90 rfl rfl ?_
    refine Gk_iconst (v := 0) B d_Mo_stageThree_91 (by decide) ?_
    obtain ⟨o92, g92, h⟩ := gk_bind h
    obtain ⟨w92, h92, h⟩ := gk_bind h
    refine Gk_callV (As := [.int 0]) (rest := []) (st1 := [.int w92.1]) (k1 := 0) (n1 := 0) B gk_hG d_Mo_stageThree_92 (sn_Mo_only h92) g92 cl_Mo tw_1052 tw_1049 tw_1051 tw_32 tw_48 nm_Mo_only rfl (by decide) ⟨by decide, by decide⟩ ⟨by decide, by decide⟩ rfl rfl rfl rfl ?_
    refine Gk_if_eq (tgt := 102) B d_Mo_stageThree_95 rfl (fun c95 => ?_) (fun c95 => ?_)
    · rw [if_pos c95] at h
      refine Gk_weak [true, true, false, false, false, false] (L' := [some (va_rf a0), some (.int x1), none, none, none, none]) rfl ?_
      exact sn_Mo_stageThree_102 B hr h
    rw [if_neg c95] at h
    refine Gk_weak [true, true, false, false, false, false] (L' := [some (va_rf a0), some (.int x1), none, none, none, none]) rfl ?_
    exact sn_Mo_stageThree_98 B hr h
  rw [if_neg c13] at h
  refine Gk_aload_n (i := 0) (r := a0) B d_Mo_stageThree_16 rfl rfl ?_
  refine Gk_aload_n (i := 0) (r := a0) B d_Mo_stageThree_17 rfl rfl ?_
  obtain ⟨v18, h18, h⟩ := gk_bind h
  refine Gk_getR (j := 54) B d_Mo_stageThree_18 in_Mo cl_Mo (by decide) tw_809 rfl h18 ?_
  refine Gk_iload_n (i := 2) (x := x2) B d_Mo_stageThree_21 rfl rfl ?_
  obtain ⟨v22, h22, h⟩ := gk_bind h
  refine Gk_zaload B d_Mo_stageThree_22 ty_2 h22 ?_
  refine Gk_if_eq (tgt := 58) B d_Mo_stageThree_23 rfl (fun c23 => ?_) (fun c23 => ?_)
  · rw [if_pos c23] at h
    refine Gk_aload_n (i := 0) (r := a0) B d_Mo_stageThree_58 rfl rfl ?_
    obtain ⟨v59, h59, h⟩ := gk_bind h
    refine Gk_getI (j := 38) B d_Mo_stageThree_59 in_Mo cl_Mo (by decide) tw_793 rfl h59 ?_
    exact sn_Mo_stageThree_62 B hr H8 h
  rw [if_neg c23] at h
  refine Gk_aload_n (i := 0) (r := a0) B d_Mo_stageThree_26 rfl rfl ?_
  obtain ⟨v27, h27, h⟩ := gk_bind h
  refine Gk_getI (j := 38) B d_Mo_stageThree_27 in_Mo cl_Mo (by decide) tw_793 rfl h27 ?_
  refine Gk_iconst (v := 1) B d_Mo_stageThree_30 (by decide) ?_
  refine Gk_aload_n (i := 0) (r := a0) B d_Mo_stageThree_31 rfl rfl ?_
  obtain ⟨v32, h32, h⟩ := gk_bind h
  refine Gk_getR (j := 7) B d_Mo_stageThree_32 in_Mo cl_Mo (by decide) tw_762 rfl h32 ?_
  refine Gk_iload_n (i := 2) (x := x2) B d_Mo_stageThree_35 rfl rfl ?_
  obtain ⟨v36, h36, h⟩ := gk_bind h
  refine Gk_iaload B d_Mo_stageThree_36 ty_0 h36 ?_
  refine Gk_ishl B d_Mo_stageThree_37 ?_
  refine Gk_ior B d_Mo_stageThree_38 ?_
  refine Gk_aload_n (i := 0) (r := a0) B d_Mo_stageThree_39 rfl rfl ?_
  obtain ⟨v40, h40, h⟩ := gk_bind h
  refine Gk_getR (j := 7) B d_Mo_stageThree_40 in_Mo cl_Mo (by decide) tw_762 rfl h40 ?_
  refine Gk_iload_n (i := 2) (x := x2) B d_Mo_stageThree_43 rfl rfl ?_
  obtain ⟨v44, h44, h⟩ := gk_bind h
  refine Gk_iaload B d_Mo_stageThree_44 ty_0 h44 ?_
  refine Gk_if_ne (tgt := 53) B d_Mo_stageThree_45 rfl (fun c45 => ?_) (fun c45 => ?_)
  · rw [if_neg c45] at h
    refine Gk_iconst (v := 0) B d_Mo_stageThree_53 (by decide) ?_
    exact sn_Mo_stageThree_54 B hr H8 h
  rw [if_pos c45] at h
  refine Gk_bipush (v := 16) B d_Mo_stageThree_48 (by decide) ?_
  refine Gk_goto (tgt := 54) B d_Mo_stageThree_50 rfl ?_
  exact sn_Mo_stageThree_54 B hr H8 h
set_option maxHeartbeats 4000000 in
set_option maxRecDepth 100000 in
theorem sn_Mo_stageThree_8 {l : Launch} {Γ : gk_G} {p : Program} {e : Env} {s : State} {m : MethodId} {args : Array Value} {below : List Frame} {meth : Method} {c : Code} (B : gk_B p s m args meth c gk_Y Γ c_Mo_stageThree 6 "StageDispatcherModel") (hr : meth.sig.returnType = (some .int)) {ρ : Int32 × gk_M}   {a0 : Option Nat} {x1 : Int32} {x2 : Int32} {M : gk_M} (h : fn_Mo_stageThree_8  a0 x1 x2 M = some ρ) : Gk p l e rm_Mo_stageThree s m args below meth c gk_Y Γ 6 (MQ below (gk_Q gk_Y Γ (some (.int ρ.1)) ρ.2) args s rm_Mo_stageThree.cells rm_Mo_stageThree.slots (fun q => Γ.2.2 ≤ q)) 0 0 M 8 [some (va_rf a0), some (.int x1), some (.int x2), none, none, none] [] := by
  unfold fn_Mo_stageThree_8 at h
  exact gk_loop_sound (α := Option Nat × Int32 × Int32 × gk_M) (P := fun a => Gk p l e rm_Mo_stageThree s m args below meth c gk_Y Γ 6 (MQ below (gk_Q gk_Y Γ (some (.int ρ.1)) ρ.2) args s rm_Mo_stageThree.cells rm_Mo_stageThree.slots (fun q => Γ.2.2 ≤ q)) 0 0 a.2.2.2 8 [some (va_rf a.1), some (.int a.2.1), some (.int a.2.2.1), none, none, none] []) (fun kk a Hk hb => sn_Mo_stageThree_8_bd B hr (fun a0 x1 x2 M hh => Hk (a0, x1, x2, M) hh) hb) _ _ h
set_option maxHeartbeats 4000000 in
set_option maxRecDepth 100000 in
theorem sn_Mo_stageThree_0 {l : Launch} {Γ : gk_G} {p : Program} {e : Env} {s : State} {m : MethodId} {args : Array Value} {below : List Frame} {meth : Method} {c : Code} (B : gk_B p s m args meth c gk_Y Γ c_Mo_stageThree 6 "StageDispatcherModel") (hr : meth.sig.returnType = (some .int)) {ρ : Int32 × gk_M}   {a0 : Option Nat} {x1 : Int32} {M : gk_M} (h : fn_Mo_stageThree  a0 x1 M = some ρ) : Gk p l e rm_Mo_stageThree s m args below meth c gk_Y Γ 6 (MQ below (gk_Q gk_Y Γ (some (.int ρ.1)) ρ.2) args s rm_Mo_stageThree.cells rm_Mo_stageThree.slots (fun q => Γ.2.2 ≤ q)) 0 0 M 0 [some (va_rf a0), some (.int x1), none, none, none, none] [] := by
  unfold fn_Mo_stageThree at h
  refine Gk_aload_n (i := 0) (r := a0) B d_Mo_stageThree_0 rfl rfl ?_
  refine Gk_bipush (v := 32) B d_Mo_stageThree_1 (by decide) ?_
  obtain ⟨M3, h3, h⟩ := gk_bind h
  refine Gk_put (j := 38) (ty := .int) B d_Mo_stageThree_3 in_Mo t_Mo t_Mo_ok n_Mo cl_Mo (by decide) tw_793 rfl rfl rfl rfl rfl h3 ?_
  refine Gk_iconst (v := 0) B d_Mo_stageThree_6 (by decide) ?_
  refine Gk_istore_n (i := 2) (L' := [some (va_rf a0), some (.int x1), some (.int 0), none, none, none]) B d_Mo_stageThree_7 rfl (by decide) (gk_c1_i rfl) rfl ?_
  exact sn_Mo_stageThree_8 B hr h
theorem sn_Mo_stageThree {l : Launch} {Γ : gk_G} {a0 : Option Nat} {x1 : Int32} {M : gk_M} {ρ : Int32 × gk_M} (h : fn_Mo_stageThree a0 x1 M = some ρ) : gk_Met l gk_Y Γ y_Mo_stageThree (.code y_Mo_stageThree c_Mo_stageThree 6 (some .int) :: gk_Y.2.2.2) rm_Mo_stageThree [va_rf a0, .int x1] M (some (.int ρ.1)) ρ.2 :=
  gk_start (by decide) (by simp [lg_sl, gk_rc, gk_ic, gk_jc]) [some (va_rf a0), some (.int x1), none, none, none, none] (by simp [gk_as, lv_args, gk_rc, gk_ic, gk_jc]) (fun p e s m args below meth c B hr hin => sn_Mo_stageThree_0 B hr h)
theorem d_Mo_raise_0 : decode c_Mo_raise 0 = .ok (.aload_n 0, 1) := by decide +kernel
theorem d_Mo_raise_1 : decode c_Mo_raise 1 = .ok (.iconst 1, 1) := by decide +kernel
theorem d_Mo_raise_2 : decode c_Mo_raise 2 = .ok (.putfield 255, 3) := by decide +kernel
theorem d_Mo_raise_5 : decode c_Mo_raise 5 = .ok (.iload_n 1, 1) := by decide +kernel
theorem d_Mo_raise_6 : decode c_Mo_raise 6 = .ok (.istore_n 2, 1) := by decide +kernel
theorem d_Mo_raise_7 : decode c_Mo_raise 7 = .ok (.iload_n 2, 1) := by decide +kernel
theorem d_Mo_raise_8 : decode c_Mo_raise 8 = .ok (.ifCond .le 30, 3) := by decide +kernel
theorem d_Mo_raise_11 : decode c_Mo_raise 11 = .ok (.aload_n 0, 1) := by decide +kernel
theorem d_Mo_raise_12 : decode c_Mo_raise 12 = .ok (.getfield 69, 3) := by decide +kernel
theorem d_Mo_raise_15 : decode c_Mo_raise 15 = .ok (.iload_n 2, 1) := by decide +kernel
theorem d_Mo_raise_16 : decode c_Mo_raise 16 = .ok (.iaload, 1) := by decide +kernel
theorem d_Mo_raise_17 : decode c_Mo_raise 17 = .ok (.ifCond .le 14, 3) := by decide +kernel
theorem d_Mo_raise_20 : decode c_Mo_raise 20 = .ok (.aload_n 0, 1) := by decide +kernel
theorem d_Mo_raise_21 : decode c_Mo_raise 21 = .ok (.aload_n 0, 1) := by decide +kernel
theorem d_Mo_raise_22 : decode c_Mo_raise 22 = .ok (.getfield 69, 3) := by decide +kernel
theorem d_Mo_raise_25 : decode c_Mo_raise 25 = .ok (.iload_n 2, 1) := by decide +kernel
theorem d_Mo_raise_26 : decode c_Mo_raise 26 = .ok (.iaload, 1) := by decide +kernel
theorem d_Mo_raise_27 : decode c_Mo_raise 27 = .ok (.putfield 268, 3) := by decide +kernel
theorem d_Mo_raise_30 : decode c_Mo_raise 30 = .ok (.return_, 1) := by decide +kernel
theorem d_Mo_raise_31 : decode c_Mo_raise 31 = .ok (.iload_n 2, 1) := by decide +kernel
theorem d_Mo_raise_32 : decode c_Mo_raise 32 = .ok (.iconst 2, 1) := by decide +kernel
theorem d_Mo_raise_33 : decode c_Mo_raise 33 = .ok (.idiv, 1) := by decide +kernel
theorem d_Mo_raise_34 : decode c_Mo_raise 34 = .ok (.istore_n 2, 1) := by decide +kernel
theorem d_Mo_raise_35 : decode c_Mo_raise 35 = .ok (.goto (-28), 3) := by decide +kernel
theorem d_Mo_raise_38 : decode c_Mo_raise 38 = .ok (.aload_n 0, 1) := by decide +kernel
theorem d_Mo_raise_39 : decode c_Mo_raise 39 = .ok (.iload_n 1, 1) := by decide +kernel
theorem d_Mo_raise_40 : decode c_Mo_raise 40 = .ok (.bipush 8, 2) := by decide +kernel
theorem d_Mo_raise_42 : decode c_Mo_raise 42 = .ok (.if_icmp .ne 9, 3) := by decide +kernel
theorem d_Mo_raise_45 : decode c_Mo_raise 45 = .ok (.sipush 404, 3) := by decide +kernel
theorem d_Mo_raise_48 : decode c_Mo_raise 48 = .ok (.goto 42, 3) := by decide +kernel
theorem d_Mo_raise_51 : decode c_Mo_raise 51 = .ok (.iload_n 1, 1) := by decide +kernel
theorem d_Mo_raise_52 : decode c_Mo_raise 52 = .ok (.bipush 9, 2) := by decide +kernel
theorem d_Mo_raise_54 : decode c_Mo_raise 54 = .ok (.if_icmp .ne 9, 3) := by decide +kernel
theorem d_Mo_raise_57 : decode c_Mo_raise 57 = .ok (.sipush 405, 3) := by decide +kernel
theorem d_Mo_raise_60 : decode c_Mo_raise 60 = .ok (.goto 30, 3) := by decide +kernel
theorem d_Mo_raise_63 : decode c_Mo_raise 63 = .ok (.iload_n 1, 1) := by decide +kernel
theorem d_Mo_raise_64 : decode c_Mo_raise 64 = .ok (.bipush 10, 2) := by decide +kernel
theorem d_Mo_raise_66 : decode c_Mo_raise 66 = .ok (.if_icmp .ne 9, 3) := by decide +kernel
theorem d_Mo_raise_69 : decode c_Mo_raise 69 = .ok (.sipush 406, 3) := by decide +kernel
theorem d_Mo_raise_72 : decode c_Mo_raise 72 = .ok (.goto 18, 3) := by decide +kernel
theorem d_Mo_raise_75 : decode c_Mo_raise 75 = .ok (.iload_n 1, 1) := by decide +kernel
theorem d_Mo_raise_76 : decode c_Mo_raise 76 = .ok (.bipush 11, 2) := by decide +kernel
theorem d_Mo_raise_78 : decode c_Mo_raise 78 = .ok (.if_icmp .ne 9, 3) := by decide +kernel
theorem d_Mo_raise_81 : decode c_Mo_raise 81 = .ok (.sipush 415, 3) := by decide +kernel
theorem d_Mo_raise_84 : decode c_Mo_raise 84 = .ok (.goto 6, 3) := by decide +kernel
theorem d_Mo_raise_87 : decode c_Mo_raise 87 = .ok (.sipush 500, 3) := by decide +kernel
theorem d_Mo_raise_90 : decode c_Mo_raise 90 = .ok (.putfield 268, 3) := by decide +kernel
theorem d_Mo_raise_93 : decode c_Mo_raise 93 = .ok (.return_, 1) := by decide +kernel
set_option maxHeartbeats 4000000 in
set_option maxRecDepth 100000 in
theorem sn_Mo_raise_90 {l : Launch} {Γ : gk_G} {p : Program} {e : Env} {s : State} {m : MethodId} {args : Array Value} {below : List Frame} {meth : Method} {c : Code} (B : gk_B p s m args meth c gk_Y Γ c_Mo_raise 3 "StageDispatcherModel") (hr : meth.sig.returnType = none) {ρ : gk_M}   {s0 : Option Nat} {s1 : Int32} {M : gk_M} (h : fn_Mo_raise_90  s0 s1 M = some ρ) : Gk p l e rm_Mo_raise s m args below meth c gk_Y Γ 3 (MQ below (gk_Q gk_Y Γ none ρ) args s rm_Mo_raise.cells rm_Mo_raise.slots (fun q => Γ.2.2 ≤ q)) 0 0 M 90 [none, none, none] [.int s1, va_rf s0] := by
  unfold fn_Mo_raise_90 at h
  obtain ⟨M90, h90, h⟩ := gk_bind h
  refine Gk_put (j := 32) (ty := .int) B d_Mo_raise_90 in_Mo t_Mo t_Mo_ok n_Mo cl_Mo (by decide) tw_787 rfl rfl rfl rfl rfl h90 ?_
  cases h
  exact Gk_vret B hr d_Mo_raise_93 (by decide) (by decide) rfl
set_option maxHeartbeats 4000000 in
set_option maxRecDepth 100000 in
theorem sn_Mo_raise_7_bd {l : Launch} {Γ : gk_G} {p : Program} {e : Env} {s : State} {m : MethodId} {args : Array Value} {below : List Frame} {meth : Method} {c : Code} (B : gk_B p s m args meth c gk_Y Γ c_Mo_raise 3 "StageDispatcherModel") (hr : meth.sig.returnType = none) {ρ : gk_M} {k7 : Option Nat → Int32 → Int32 → gk_M → Option (gk_M)} (H7 : ∀ (a0 : Option Nat) (x1 : Int32) (x2 : Int32) (M : gk_M), k7 a0 x1 x2 M = some ρ → Gk p l e rm_Mo_raise s m args below meth c gk_Y Γ 3 (MQ below (gk_Q gk_Y Γ none ρ) args s rm_Mo_raise.cells rm_Mo_raise.slots (fun q => Γ.2.2 ≤ q)) 0 0 M 7 [some (va_rf a0), some (.int x1), some (.int x2)] []) {a0 : Option Nat} {x1 : Int32} {x2 : Int32} {M : gk_M} (h : fn_Mo_raise_7_bd k7 a0 x1 x2 M = some ρ) : Gk p l e rm_Mo_raise s m args below meth c gk_Y Γ 3 (MQ below (gk_Q gk_Y Γ none ρ) args s rm_Mo_raise.cells rm_Mo_raise.slots (fun q => Γ.2.2 ≤ q)) 0 0 M 7 [some (va_rf a0), some (.int x1), some (.int x2)] [] := by
  unfold fn_Mo_raise_7_bd at h
  refine Gk_iload_n (i := 2) (x := x2) B d_Mo_raise_7 rfl rfl ?_
  refine Gk_if_le (tgt := 38) B d_Mo_raise_8 rfl (fun c8 => ?_) (fun c8 => ?_)
  · rw [if_pos c8] at h
    refine Gk_aload_n (i := 0) (r := a0) B d_Mo_raise_38 rfl rfl ?_
    refine Gk_iload_n (i := 1) (x := x1) B d_Mo_raise_39 rfl rfl ?_
    refine Gk_bipush (v := 8) B d_Mo_raise_40 (by decide) ?_
    refine Gk_icmp_ne (tgt := 51) B d_Mo_raise_42 rfl (fun c42 => ?_) (fun c42 => ?_)
    · rw [if_neg c42] at h
      refine Gk_iload_n (i := 1) (x := x1) B d_Mo_raise_51 rfl rfl ?_
      refine Gk_bipush (v := 9) B d_Mo_raise_52 (by decide) ?_
      refine Gk_icmp_ne (tgt := 63) B d_Mo_raise_54 rfl (fun c54 => ?_) (fun c54 => ?_)
      · rw [if_neg c54] at h
        refine Gk_iload_n (i := 1) (x := x1) B d_Mo_raise_63 rfl rfl ?_
        refine Gk_bipush (v := 10) B d_Mo_raise_64 (by decide) ?_
        refine Gk_icmp_ne (tgt := 75) B d_Mo_raise_66 rfl (fun c66 => ?_) (fun c66 => ?_)
        · rw [if_neg c66] at h
          refine Gk_iload_n (i := 1) (x := x1) B d_Mo_raise_75 rfl rfl ?_
          refine Gk_bipush (v := 11) B d_Mo_raise_76 (by decide) ?_
          refine Gk_icmp_ne (tgt := 87) B d_Mo_raise_78 rfl (fun c78 => ?_) (fun c78 => ?_)
          · rw [if_neg c78] at h
            refine Gk_sipush (v := 500) B d_Mo_raise_87 (by decide) ?_
            refine Gk_weak [false, false, false] (L' := [none, none, none]) rfl ?_
            exact sn_Mo_raise_90 B hr h
          rw [if_pos c78] at h
          refine Gk_sipush (v := 415) B d_Mo_raise_81 (by decide) ?_
          refine Gk_goto (tgt := 90) B d_Mo_raise_84 rfl ?_
          refine Gk_weak [false, false, false] (L' := [none, none, none]) rfl ?_
          exact sn_Mo_raise_90 B hr h
        rw [if_pos c66] at h
        refine Gk_sipush (v := 406) B d_Mo_raise_69 (by decide) ?_
        refine Gk_goto (tgt := 90) B d_Mo_raise_72 rfl ?_
        refine Gk_weak [false, false, false] (L' := [none, none, none]) rfl ?_
        exact sn_Mo_raise_90 B hr h
      rw [if_pos c54] at h
      refine Gk_sipush (v := 405) B d_Mo_raise_57 (by decide) ?_
      refine Gk_goto (tgt := 90) B d_Mo_raise_60 rfl ?_
      refine Gk_weak [false, false, false] (L' := [none, none, none]) rfl ?_
      exact sn_Mo_raise_90 B hr h
    rw [if_pos c42] at h
    refine Gk_sipush (v := 404) B d_Mo_raise_45 (by decide) ?_
    refine Gk_goto (tgt := 90) B d_Mo_raise_48 rfl ?_
    refine Gk_weak [false, false, false] (L' := [none, none, none]) rfl ?_
    exact sn_Mo_raise_90 B hr h
  rw [if_neg c8] at h
  refine Gk_aload_n (i := 0) (r := a0) B d_Mo_raise_11 rfl rfl ?_
  obtain ⟨v12, h12, h⟩ := gk_bind h
  refine Gk_getR (j := 24) B d_Mo_raise_12 in_Mo cl_Mo (by decide) tw_779 rfl h12 ?_
  refine Gk_iload_n (i := 2) (x := x2) B d_Mo_raise_15 rfl rfl ?_
  obtain ⟨v16, h16, h⟩ := gk_bind h
  refine Gk_iaload B d_Mo_raise_16 ty_0 h16 ?_
  refine Gk_if_le (tgt := 31) B d_Mo_raise_17 rfl (fun c17 => ?_) (fun c17 => ?_)
  · rw [if_pos c17] at h
    refine Gk_iload_n (i := 2) (x := x2) B d_Mo_raise_31 rfl rfl ?_
    refine Gk_iconst (v := 2) B d_Mo_raise_32 (by decide) ?_
    refine Gk_idiv B d_Mo_raise_33 (by decide) ?_
    refine Gk_istore_n (i := 2) (L' := [some (va_rf a0), some (.int x1), some (.int (x2 / 2))]) B d_Mo_raise_34 rfl (by decide) (gk_c1_i rfl) rfl ?_
    refine Gk_goto (tgt := 7) B d_Mo_raise_35 rfl ?_
    exact H7 a0 x1 (x2 / 2) M h
  rw [if_neg c17] at h
  refine Gk_aload_n (i := 0) (r := a0) B d_Mo_raise_20 rfl rfl ?_
  refine Gk_aload_n (i := 0) (r := a0) B d_Mo_raise_21 rfl rfl ?_
  obtain ⟨v22, h22, h⟩ := gk_bind h
  refine Gk_getR (j := 24) B d_Mo_raise_22 in_Mo cl_Mo (by decide) tw_779 rfl h22 ?_
  refine Gk_iload_n (i := 2) (x := x2) B d_Mo_raise_25 rfl rfl ?_
  obtain ⟨v26, h26, h⟩ := gk_bind h
  refine Gk_iaload B d_Mo_raise_26 ty_0 h26 ?_
  obtain ⟨M27, h27, h⟩ := gk_bind h
  refine Gk_put (j := 32) (ty := .int) B d_Mo_raise_27 in_Mo t_Mo t_Mo_ok n_Mo cl_Mo (by decide) tw_787 rfl rfl rfl rfl rfl h27 ?_
  cases h
  exact Gk_vret B hr d_Mo_raise_30 (by decide) (by decide) rfl
set_option maxHeartbeats 4000000 in
set_option maxRecDepth 100000 in
theorem sn_Mo_raise_7 {l : Launch} {Γ : gk_G} {p : Program} {e : Env} {s : State} {m : MethodId} {args : Array Value} {below : List Frame} {meth : Method} {c : Code} (B : gk_B p s m args meth c gk_Y Γ c_Mo_raise 3 "StageDispatcherModel") (hr : meth.sig.returnType = none) {ρ : gk_M}   {a0 : Option Nat} {x1 : Int32} {x2 : Int32} {M : gk_M} (h : fn_Mo_raise_7  a0 x1 x2 M = some ρ) : Gk p l e rm_Mo_raise s m args below meth c gk_Y Γ 3 (MQ below (gk_Q gk_Y Γ none ρ) args s rm_Mo_raise.cells rm_Mo_raise.slots (fun q => Γ.2.2 ≤ q)) 0 0 M 7 [some (va_rf a0), some (.int x1), some (.int x2)] [] := by
  unfold fn_Mo_raise_7 at h
  exact gk_loop_sound (α := Option Nat × Int32 × Int32 × gk_M) (P := fun a => Gk p l e rm_Mo_raise s m args below meth c gk_Y Γ 3 (MQ below (gk_Q gk_Y Γ none ρ) args s rm_Mo_raise.cells rm_Mo_raise.slots (fun q => Γ.2.2 ≤ q)) 0 0 a.2.2.2 7 [some (va_rf a.1), some (.int a.2.1), some (.int a.2.2.1)] []) (fun kk a Hk hb => sn_Mo_raise_7_bd B hr (fun a0 x1 x2 M hh => Hk (a0, x1, x2, M) hh) hb) _ _ h
set_option maxHeartbeats 4000000 in
set_option maxRecDepth 100000 in
theorem sn_Mo_raise_0 {l : Launch} {Γ : gk_G} {p : Program} {e : Env} {s : State} {m : MethodId} {args : Array Value} {below : List Frame} {meth : Method} {c : Code} (B : gk_B p s m args meth c gk_Y Γ c_Mo_raise 3 "StageDispatcherModel") (hr : meth.sig.returnType = none) {ρ : gk_M}   {a0 : Option Nat} {x1 : Int32} {M : gk_M} (h : fn_Mo_raise  a0 x1 M = some ρ) : Gk p l e rm_Mo_raise s m args below meth c gk_Y Γ 3 (MQ below (gk_Q gk_Y Γ none ρ) args s rm_Mo_raise.cells rm_Mo_raise.slots (fun q => Γ.2.2 ≤ q)) 0 0 M 0 [some (va_rf a0), some (.int x1), none] [] := by
  unfold fn_Mo_raise at h
  refine Gk_aload_n (i := 0) (r := a0) B d_Mo_raise_0 rfl rfl ?_
  refine Gk_iconst (v := 1) B d_Mo_raise_1 (by decide) ?_
  obtain ⟨z2, y2, h⟩ := gk_bind h
  obtain ⟨e2, f2⟩ := gk_z_eq y2
  subst e2
  obtain ⟨M2, h2, h⟩ := gk_bind h
  refine Gk_put (j := 33) (ty := .boolean) B d_Mo_raise_2 in_Mo t_Mo t_Mo_ok n_Mo cl_Mo (by decide) tw_788 rfl rfl rfl (gk_nz f2) (gk_fz f2) h2 ?_
  refine Gk_iload_n (i := 1) (x := x1) B d_Mo_raise_5 rfl rfl ?_
  refine Gk_istore_n (i := 2) (L' := [some (va_rf a0), some (.int x1), some (.int x1)]) B d_Mo_raise_6 rfl (by decide) (gk_c1_i rfl) rfl ?_
  exact sn_Mo_raise_7 B hr h
theorem sn_Mo_raise {l : Launch} {Γ : gk_G} {a0 : Option Nat} {x1 : Int32} {M : gk_M} {ρ : gk_M} (h : fn_Mo_raise a0 x1 M = some ρ) : gk_Met l gk_Y Γ y_Mo_raise (.code y_Mo_raise c_Mo_raise 3 none :: gk_Y.2.2.2) rm_Mo_raise [va_rf a0, .int x1] M none ρ :=
  gk_start (by decide) (by simp [lg_sl, gk_rc, gk_ic, gk_jc]) [some (va_rf a0), some (.int x1), none] (by simp [gk_as, lv_args, gk_rc, gk_ic, gk_jc]) (fun p e s m args below meth c B hr hin => sn_Mo_raise_0 B hr h)
theorem d_Mo_matching_0 : decode c_Mo_matching 0 = .ok (.aload_n 0, 1) := by decide +kernel
theorem d_Mo_matching_1 : decode c_Mo_matching 1 = .ok (.invokevirtual 271, 3) := by decide +kernel
theorem d_Mo_matching_4 : decode c_Mo_matching 4 = .ok (.istore_n 2, 1) := by decide +kernel
theorem d_Mo_matching_5 : decode c_Mo_matching 5 = .ok (.iload_n 2, 1) := by decide +kernel
theorem d_Mo_matching_6 : decode c_Mo_matching 6 = .ok (.ifCond .ne 8, 3) := by decide +kernel
theorem d_Mo_matching_9 : decode c_Mo_matching 9 = .ok (.aload_n 0, 1) := by decide +kernel
theorem d_Mo_matching_10 : decode c_Mo_matching 10 = .ok (.invokevirtual 274, 3) := by decide +kernel
theorem d_Mo_matching_13 : decode c_Mo_matching 13 = .ok (.istore_n 2, 1) := by decide +kernel
theorem d_Mo_matching_14 : decode c_Mo_matching 14 = .ok (.iload_n 2, 1) := by decide +kernel
theorem d_Mo_matching_15 : decode c_Mo_matching 15 = .ok (.ifCond .ne 9, 3) := by decide +kernel
theorem d_Mo_matching_18 : decode c_Mo_matching 18 = .ok (.aload_n 0, 1) := by decide +kernel
theorem d_Mo_matching_19 : decode c_Mo_matching 19 = .ok (.iload_n 1, 1) := by decide +kernel
theorem d_Mo_matching_20 : decode c_Mo_matching 20 = .ok (.invokevirtual 277, 3) := by decide +kernel
theorem d_Mo_matching_23 : decode c_Mo_matching 23 = .ok (.istore_n 2, 1) := by decide +kernel
theorem d_Mo_matching_24 : decode c_Mo_matching 24 = .ok (.iload_n 2, 1) := by decide +kernel
theorem d_Mo_matching_25 : decode c_Mo_matching 25 = .ok (.ifCond .le 8, 3) := by decide +kernel
theorem d_Mo_matching_28 : decode c_Mo_matching 28 = .ok (.aload_n 0, 1) := by decide +kernel
theorem d_Mo_matching_29 : decode c_Mo_matching 29 = .ok (.iload_n 2, 1) := by decide +kernel
theorem d_Mo_matching_30 : decode c_Mo_matching 30 = .ok (.invokevirtual 280, 3) := by decide +kernel
theorem d_Mo_matching_33 : decode c_Mo_matching 33 = .ok (.iload_n 2, 1) := by decide +kernel
theorem d_Mo_matching_34 : decode c_Mo_matching 34 = .ok (.ifCond .ge 15, 3) := by decide +kernel
theorem d_Mo_matching_37 : decode c_Mo_matching 37 = .ok (.aload_n 0, 1) := by decide +kernel
theorem d_Mo_matching_38 : decode c_Mo_matching 38 = .ok (.sipush 204, 3) := by decide +kernel
theorem d_Mo_matching_41 : decode c_Mo_matching 41 = .ok (.putfield 268, 3) := by decide +kernel
theorem d_Mo_matching_44 : decode c_Mo_matching 44 = .ok (.aload_n 0, 1) := by decide +kernel
theorem d_Mo_matching_45 : decode c_Mo_matching 45 = .ok (.iconst 1, 1) := by decide +kernel
theorem d_Mo_matching_46 : decode c_Mo_matching 46 = .ok (.putfield 255, 3) := by decide +kernel
theorem d_Mo_matching_49 : decode c_Mo_matching 49 = .ok (.return_, 1) := by decide +kernel
set_option maxHeartbeats 4000000 in
set_option maxRecDepth 100000 in
theorem sn_Mo_matching_33 {l : Launch} {Γ : gk_G} {p : Program} {e : Env} {s : State} {m : MethodId} {args : Array Value} {below : List Frame} {meth : Method} {c : Code} (B : gk_B p s m args meth c gk_Y Γ c_Mo_matching 3 "StageDispatcherModel") (hr : meth.sig.returnType = none) {ρ : gk_M}   {a0 : Option Nat} {x2 : Int32} {M : gk_M} (h : fn_Mo_matching_33  a0 x2 M = some ρ) : Gk p l e rm_Mo_matching s m args below meth c gk_Y Γ 3 (MQ below (gk_Q gk_Y Γ none ρ) args s rm_Mo_matching.cells rm_Mo_matching.slots (fun q => Γ.2.2 ≤ q)) 0 0 M 33 [some (va_rf a0), none, some (.int x2)] [] := by
  unfold fn_Mo_matching_33 at h
  refine Gk_iload_n (i := 2) (x := x2) B d_Mo_matching_33 rfl rfl ?_
  refine Gk_if_ge (tgt := 49) B d_Mo_matching_34 rfl (fun c34 => ?_) (fun c34 => ?_)
  · rw [if_pos c34] at h
    cases h
    exact Gk_vret B hr d_Mo_matching_49 (by decide) (by decide) rfl
  rw [if_neg c34] at h
  refine Gk_aload_n (i := 0) (r := a0) B d_Mo_matching_37 rfl rfl ?_
  refine Gk_sipush (v := 204) B d_Mo_matching_38 (by decide) ?_
  obtain ⟨M41, h41, h⟩ := gk_bind h
  refine Gk_put (j := 32) (ty := .int) B d_Mo_matching_41 in_Mo t_Mo t_Mo_ok n_Mo cl_Mo (by decide) tw_787 rfl rfl rfl rfl rfl h41 ?_
  refine Gk_aload_n (i := 0) (r := a0) B d_Mo_matching_44 rfl rfl ?_
  refine Gk_iconst (v := 1) B d_Mo_matching_45 (by decide) ?_
  obtain ⟨z46, y46, h⟩ := gk_bind h
  obtain ⟨e46, f46⟩ := gk_z_eq y46
  subst e46
  obtain ⟨M46, h46, h⟩ := gk_bind h
  refine Gk_put (j := 33) (ty := .boolean) B d_Mo_matching_46 in_Mo t_Mo t_Mo_ok n_Mo cl_Mo (by decide) tw_788 rfl rfl rfl (gk_nz f46) (gk_fz f46) h46 ?_
  cases h
  exact Gk_vret B hr d_Mo_matching_49 (by decide) (by decide) rfl
set_option maxHeartbeats 4000000 in
set_option maxRecDepth 100000 in
theorem sn_Mo_matching_24 {l : Launch} {Γ : gk_G} {p : Program} {e : Env} {s : State} {m : MethodId} {args : Array Value} {below : List Frame} {meth : Method} {c : Code} (B : gk_B p s m args meth c gk_Y Γ c_Mo_matching 3 "StageDispatcherModel") (hr : meth.sig.returnType = none) {ρ : gk_M}   {a0 : Option Nat} {x2 : Int32} {M : gk_M} (h : fn_Mo_matching_24  a0 x2 M = some ρ) : Gk p l e rm_Mo_matching s m args below meth c gk_Y Γ 3 (MQ below (gk_Q gk_Y Γ none ρ) args s rm_Mo_matching.cells rm_Mo_matching.slots (fun q => Γ.2.2 ≤ q)) 0 0 M 24 [some (va_rf a0), none, some (.int x2)] [] := by
  unfold fn_Mo_matching_24 at h
  refine Gk_iload_n (i := 2) (x := x2) B d_Mo_matching_24 rfl rfl ?_
  refine Gk_if_le (tgt := 33) B d_Mo_matching_25 rfl (fun c25 => ?_) (fun c25 => ?_)
  · rw [if_pos c25] at h
    exact sn_Mo_matching_33 B hr h
  rw [if_neg c25] at h
  refine Gk_aload_n (i := 0) (r := a0) B d_Mo_matching_28 rfl rfl ?_
  refine Gk_iload_n (i := 2) (x := x2) B d_Mo_matching_29 rfl rfl ?_
  obtain ⟨o30, g30, h⟩ := gk_bind h
  obtain ⟨w30, h30, h⟩ := gk_bind h
  refine Gk_callV (As := [.int x2]) (rest := []) (st1 := []) (k1 := 0) (n1 := 0) B gk_hG d_Mo_matching_30 (sn_Mo_raise h30) g30 cl_Mo tw_1081 tw_1078 tw_1080 tw_36 tw_48 nm_Mo_raise rfl (by decide) ⟨by decide, by decide⟩ ⟨by decide, by decide⟩ rfl rfl rfl rfl ?_
  exact sn_Mo_matching_33 B hr h
set_option maxHeartbeats 4000000 in
set_option maxRecDepth 100000 in
theorem sn_Mo_matching_14 {l : Launch} {Γ : gk_G} {p : Program} {e : Env} {s : State} {m : MethodId} {args : Array Value} {below : List Frame} {meth : Method} {c : Code} (B : gk_B p s m args meth c gk_Y Γ c_Mo_matching 3 "StageDispatcherModel") (hr : meth.sig.returnType = none) {ρ : gk_M}   {a0 : Option Nat} {x1 : Int32} {x2 : Int32} {M : gk_M} (h : fn_Mo_matching_14  a0 x1 x2 M = some ρ) : Gk p l e rm_Mo_matching s m args below meth c gk_Y Γ 3 (MQ below (gk_Q gk_Y Γ none ρ) args s rm_Mo_matching.cells rm_Mo_matching.slots (fun q => Γ.2.2 ≤ q)) 0 0 M 14 [some (va_rf a0), some (.int x1), some (.int x2)] [] := by
  unfold fn_Mo_matching_14 at h
  refine Gk_iload_n (i := 2) (x := x2) B d_Mo_matching_14 rfl rfl ?_
  refine Gk_if_ne (tgt := 24) B d_Mo_matching_15 rfl (fun c15 => ?_) (fun c15 => ?_)
  · rw [if_neg c15] at h
    refine Gk_weak [true, false, true] (L' := [some (va_rf a0), none, some (.int x2)]) rfl ?_
    exact sn_Mo_matching_24 B hr h
  rw [if_pos c15] at h
  refine Gk_aload_n (i := 0) (r := a0) B d_Mo_matching_18 rfl rfl ?_
  refine Gk_iload_n (i := 1) (x := x1) B d_Mo_matching_19 rfl rfl ?_
  obtain ⟨o20, g20, h⟩ := gk_bind h
  obtain ⟨w20, h20, h⟩ := gk_bind h
  refine Gk_callV (As := [.int x1]) (rest := []) (st1 := [.int w20.1]) (k1 := 0) (n1 := 0) B gk_hG d_Mo_matching_20 (sn_Mo_stageThree h20) g20 cl_Mo tw_1048 tw_1045 tw_1047 tw_31 tw_48 nm_Mo_stageThree rfl (by decide) ⟨by decide, by decide⟩ ⟨by decide, by decide⟩ rfl rfl rfl rfl ?_
  refine Gk_istore_n (i := 2) (L' := [some (va_rf a0), some (.int x1), some (.int w20.1)]) B d_Mo_matching_23 rfl (by decide) (gk_c1_i rfl) rfl ?_
  refine Gk_weak [true, false, true] (L' := [some (va_rf a0), none, some (.int w20.1)]) rfl ?_
  exact sn_Mo_matching_24 B hr h
set_option maxHeartbeats 4000000 in
set_option maxRecDepth 100000 in
theorem sn_Mo_matching_0 {l : Launch} {Γ : gk_G} {p : Program} {e : Env} {s : State} {m : MethodId} {args : Array Value} {below : List Frame} {meth : Method} {c : Code} (B : gk_B p s m args meth c gk_Y Γ c_Mo_matching 3 "StageDispatcherModel") (hr : meth.sig.returnType = none) {ρ : gk_M}   {a0 : Option Nat} {x1 : Int32} {M : gk_M} (h : fn_Mo_matching  a0 x1 M = some ρ) : Gk p l e rm_Mo_matching s m args below meth c gk_Y Γ 3 (MQ below (gk_Q gk_Y Γ none ρ) args s rm_Mo_matching.cells rm_Mo_matching.slots (fun q => Γ.2.2 ≤ q)) 0 0 M 0 [some (va_rf a0), some (.int x1), none] [] := by
  unfold fn_Mo_matching at h
  refine Gk_aload_n (i := 0) (r := a0) B d_Mo_matching_0 rfl rfl ?_
  obtain ⟨o1, g1, h⟩ := gk_bind h
  obtain ⟨w1, h1, h⟩ := gk_bind h
  refine Gk_callV (As := []) (rest := []) (st1 := [.int w1.1]) (k1 := 0) (n1 := 0) B gk_hG d_Mo_matching_1 (sn_Mo_stageOne h1) g1 cl_Mo tw_1001 tw_998 tw_1000 tw_20 tw_48 nm_Mo_stageOne rfl (by decide) ⟨by decide, by decide⟩ ⟨by decide, by decide⟩ rfl rfl rfl rfl ?_
  refine Gk_istore_n (i := 2) (L' := [some (va_rf a0), some (.int x1), some (.int w1.1)]) B d_Mo_matching_4 rfl (by decide) (gk_c1_i rfl) rfl ?_
  refine Gk_iload_n (i := 2) (x := w1.1) B d_Mo_matching_5 rfl rfl ?_
  refine Gk_if_ne (tgt := 14) B d_Mo_matching_6 rfl (fun c6 => ?_) (fun c6 => ?_)
  · rw [if_neg c6] at h
    exact sn_Mo_matching_14 B hr h
  rw [if_pos c6] at h
  refine Gk_aload_n (i := 0) (r := a0) B d_Mo_matching_9 rfl rfl ?_
  obtain ⟨o10, g10, h⟩ := gk_bind h
  obtain ⟨w10, h10, h⟩ := gk_bind h
  refine Gk_callV (As := []) (rest := []) (st1 := [.int w10.1]) (k1 := 0) (n1 := 0) B gk_hG d_Mo_matching_10 (sn_Mo_stageTwo h10) g10 cl_Mo tw_1040 tw_1037 tw_1039 tw_29 tw_48 nm_Mo_stageTwo rfl (by decide) ⟨by decide, by decide⟩ ⟨by decide, by decide⟩ rfl rfl rfl rfl ?_
  refine Gk_istore_n (i := 2) (L' := [some (va_rf a0), some (.int x1), some (.int w10.1)]) B d_Mo_matching_13 rfl (by decide) (gk_c1_i rfl) rfl ?_
  exact sn_Mo_matching_14 B hr h
theorem sn_Mo_matching {l : Launch} {Γ : gk_G} {a0 : Option Nat} {x1 : Int32} {M : gk_M} {ρ : gk_M} (h : fn_Mo_matching a0 x1 M = some ρ) : gk_Met l gk_Y Γ y_Mo_matching (.code y_Mo_matching c_Mo_matching 3 none :: gk_Y.2.2.2) rm_Mo_matching [va_rf a0, .int x1] M none ρ :=
  gk_start (by decide) (by simp [lg_sl, gk_rc, gk_ic, gk_jc]) [some (va_rf a0), some (.int x1), none] (by simp [gk_as, lv_args, gk_rc, gk_ic, gk_jc]) (fun p e s m args below meth c B hr hin => sn_Mo_matching_0 B hr h)
