theorem d_Mo_numberOf_0 : decode c_Mo_numberOf 0 = .ok (.iload_n 1, 1) := by decide +kernel
theorem d_Mo_numberOf_1 : decode c_Mo_numberOf 1 = .ok (.aload_n 0, 1) := by decide +kernel
theorem d_Mo_numberOf_2 : decode c_Mo_numberOf 2 = .ok (.getfield 149, 3) := by decide +kernel
theorem d_Mo_numberOf_5 : decode c_Mo_numberOf 5 = .ok (.if_icmp .lt 5, 3) := by decide +kernel
theorem d_Mo_numberOf_8 : decode c_Mo_numberOf 8 = .ok (.iconst 0, 1) := by decide +kernel
theorem d_Mo_numberOf_9 : decode c_Mo_numberOf 9 = .ok (.ireturn, 1) := by decide +kernel
theorem d_Mo_numberOf_10 : decode c_Mo_numberOf 10 = .ok (.aload_n 0, 1) := by decide +kernel
theorem d_Mo_numberOf_11 : decode c_Mo_numberOf 11 = .ok (.getfield 87, 3) := by decide +kernel
theorem d_Mo_numberOf_14 : decode c_Mo_numberOf 14 = .ok (.iload_n 1, 1) := by decide +kernel
theorem d_Mo_numberOf_15 : decode c_Mo_numberOf 15 = .ok (.iaload, 1) := by decide +kernel
theorem d_Mo_numberOf_16 : decode c_Mo_numberOf 16 = .ok (.ifCond .ne 9, 3) := by decide +kernel
theorem d_Mo_numberOf_19 : decode c_Mo_numberOf 19 = .ok (.ldc2_w 246, 3) := by decide +kernel
theorem d_Mo_numberOf_22 : decode c_Mo_numberOf 22 = .ok (.goto 4, 3) := by decide +kernel
theorem d_Mo_numberOf_25 : decode c_Mo_numberOf 25 = .ok (.lconst 0, 1) := by decide +kernel
theorem d_Mo_numberOf_26 : decode c_Mo_numberOf 26 = .ok (.lstore_n 2, 1) := by decide +kernel
theorem d_Mo_numberOf_27 : decode c_Mo_numberOf 27 = .ok (.aload_n 0, 1) := by decide +kernel
theorem d_Mo_numberOf_28 : decode c_Mo_numberOf 28 = .ok (.getfield 84, 3) := by decide +kernel
theorem d_Mo_numberOf_31 : decode c_Mo_numberOf 31 = .ok (.iload_n 1, 1) := by decide +kernel
theorem d_Mo_numberOf_32 : decode c_Mo_numberOf 32 = .ok (.iaload, 1) := by decide +kernel
theorem d_Mo_numberOf_33 : decode c_Mo_numberOf 33 = .ok (.istore 4, 2) := by decide +kernel
theorem d_Mo_numberOf_35 : decode c_Mo_numberOf 35 = .ok (.iload 4, 2) := by decide +kernel
theorem d_Mo_numberOf_37 : decode c_Mo_numberOf 37 = .ok (.aload_n 0, 1) := by decide +kernel
theorem d_Mo_numberOf_38 : decode c_Mo_numberOf 38 = .ok (.getfield 84, 3) := by decide +kernel
theorem d_Mo_numberOf_41 : decode c_Mo_numberOf 41 = .ok (.iload_n 1, 1) := by decide +kernel
theorem d_Mo_numberOf_42 : decode c_Mo_numberOf 42 = .ok (.iaload, 1) := by decide +kernel
theorem d_Mo_numberOf_43 : decode c_Mo_numberOf 43 = .ok (.aload_n 0, 1) := by decide +kernel
theorem d_Mo_numberOf_44 : decode c_Mo_numberOf 44 = .ok (.getfield 87, 3) := by decide +kernel
theorem d_Mo_numberOf_47 : decode c_Mo_numberOf 47 = .ok (.iload_n 1, 1) := by decide +kernel
theorem d_Mo_numberOf_48 : decode c_Mo_numberOf 48 = .ok (.iaload, 1) := by decide +kernel
theorem d_Mo_numberOf_49 : decode c_Mo_numberOf 49 = .ok (.iadd, 1) := by decide +kernel
theorem d_Mo_numberOf_50 : decode c_Mo_numberOf 50 = .ok (.if_icmp .ge 92, 3) := by decide +kernel
theorem d_Mo_numberOf_53 : decode c_Mo_numberOf 53 = .ok (.lload_n 2, 1) := by decide +kernel
theorem d_Mo_numberOf_54 : decode c_Mo_numberOf 54 = .ok (.lconst 0, 1) := by decide +kernel
theorem d_Mo_numberOf_55 : decode c_Mo_numberOf 55 = .ok (.lcmp, 1) := by decide +kernel
theorem d_Mo_numberOf_56 : decode c_Mo_numberOf 56 = .ok (.ifCond .lt 86, 3) := by decide +kernel
theorem d_Mo_numberOf_59 : decode c_Mo_numberOf 59 = .ok (.aload_n 0, 1) := by decide +kernel
theorem d_Mo_numberOf_60 : decode c_Mo_numberOf 60 = .ok (.getfield 78, 3) := by decide +kernel
theorem d_Mo_numberOf_63 : decode c_Mo_numberOf 63 = .ok (.iload 4, 2) := by decide +kernel
theorem d_Mo_numberOf_65 : decode c_Mo_numberOf 65 = .ok (.caload, 1) := by decide +kernel
theorem d_Mo_numberOf_66 : decode c_Mo_numberOf 66 = .ok (.bipush 48, 2) := by decide +kernel
theorem d_Mo_numberOf_68 : decode c_Mo_numberOf 68 = .ok (.if_icmp .lt 19, 3) := by decide +kernel
theorem d_Mo_numberOf_71 : decode c_Mo_numberOf 71 = .ok (.aload_n 0, 1) := by decide +kernel
theorem d_Mo_numberOf_72 : decode c_Mo_numberOf 72 = .ok (.getfield 78, 3) := by decide +kernel
theorem d_Mo_numberOf_75 : decode c_Mo_numberOf 75 = .ok (.iload 4, 2) := by decide +kernel
theorem d_Mo_numberOf_77 : decode c_Mo_numberOf 77 = .ok (.caload, 1) := by decide +kernel
theorem d_Mo_numberOf_78 : decode c_Mo_numberOf 78 = .ok (.bipush 57, 2) := by decide +kernel
theorem d_Mo_numberOf_80 : decode c_Mo_numberOf 80 = .ok (.if_icmp .gt 7, 3) := by decide +kernel
theorem d_Mo_numberOf_83 : decode c_Mo_numberOf 83 = .ok (.iconst 1, 1) := by decide +kernel
theorem d_Mo_numberOf_84 : decode c_Mo_numberOf 84 = .ok (.goto 4, 3) := by decide +kernel
theorem d_Mo_numberOf_87 : decode c_Mo_numberOf 87 = .ok (.iconst 0, 1) := by decide +kernel
theorem d_Mo_numberOf_88 : decode c_Mo_numberOf 88 = .ok (.istore 5, 2) := by decide +kernel
theorem d_Mo_numberOf_90 : decode c_Mo_numberOf 90 = .ok (.iload 5, 2) := by decide +kernel
theorem d_Mo_numberOf_92 : decode c_Mo_numberOf 92 = .ok (.ifCond .eq 24, 3) := by decide +kernel
theorem d_Mo_numberOf_95 : decode c_Mo_numberOf 95 = .ok (.ldc2_w 283, 3) := by decide +kernel
theorem d_Mo_numberOf_98 : decode c_Mo_numberOf 98 = .ok (.lload_n 2, 1) := by decide +kernel
theorem d_Mo_numberOf_99 : decode c_Mo_numberOf 99 = .ok (.lmul, 1) := by decide +kernel
theorem d_Mo_numberOf_100 : decode c_Mo_numberOf 100 = .ok (.aload_n 0, 1) := by decide +kernel
theorem d_Mo_numberOf_101 : decode c_Mo_numberOf 101 = .ok (.getfield 78, 3) := by decide +kernel
theorem d_Mo_numberOf_104 : decode c_Mo_numberOf 104 = .ok (.iload 4, 2) := by decide +kernel
theorem d_Mo_numberOf_106 : decode c_Mo_numberOf 106 = .ok (.caload, 1) := by decide +kernel
theorem d_Mo_numberOf_107 : decode c_Mo_numberOf 107 = .ok (.i2l, 1) := by decide +kernel
theorem d_Mo_numberOf_108 : decode c_Mo_numberOf 108 = .ok (.ladd, 1) := by decide +kernel
theorem d_Mo_numberOf_109 : decode c_Mo_numberOf 109 = .ok (.ldc2_w 285, 3) := by decide +kernel
theorem d_Mo_numberOf_112 : decode c_Mo_numberOf 112 = .ok (.lsub, 1) := by decide +kernel
theorem d_Mo_numberOf_113 : decode c_Mo_numberOf 113 = .ok (.goto 6, 3) := by decide +kernel
theorem d_Mo_numberOf_116 : decode c_Mo_numberOf 116 = .ok (.ldc2_w 246, 3) := by decide +kernel
theorem d_Mo_numberOf_119 : decode c_Mo_numberOf 119 = .ok (.lstore_n 2, 1) := by decide +kernel
theorem d_Mo_numberOf_120 : decode c_Mo_numberOf 120 = .ok (.lload_n 2, 1) := by decide +kernel
theorem d_Mo_numberOf_121 : decode c_Mo_numberOf 121 = .ok (.ldc2_w 287, 3) := by decide +kernel
theorem d_Mo_numberOf_124 : decode c_Mo_numberOf 124 = .ok (.lcmp, 1) := by decide +kernel
theorem d_Mo_numberOf_125 : decode c_Mo_numberOf 125 = .ok (.ifCond .le 9, 3) := by decide +kernel
theorem d_Mo_numberOf_128 : decode c_Mo_numberOf 128 = .ok (.ldc2_w 246, 3) := by decide +kernel
theorem d_Mo_numberOf_131 : decode c_Mo_numberOf 131 = .ok (.goto 4, 3) := by decide +kernel
theorem d_Mo_numberOf_134 : decode c_Mo_numberOf 134 = .ok (.lload_n 2, 1) := by decide +kernel
theorem d_Mo_numberOf_135 : decode c_Mo_numberOf 135 = .ok (.lstore_n 2, 1) := by decide +kernel
theorem d_Mo_numberOf_136 : decode c_Mo_numberOf 136 = .ok (.iinc 4 1, 3) := by decide +kernel
theorem d_Mo_numberOf_139 : decode c_Mo_numberOf 139 = .ok (.goto (-104), 3) := by decide +kernel
theorem d_Mo_numberOf_142 : decode c_Mo_numberOf 142 = .ok (.lload_n 2, 1) := by decide +kernel
theorem d_Mo_numberOf_143 : decode c_Mo_numberOf 143 = .ok (.l2i, 1) := by decide +kernel
theorem d_Mo_numberOf_144 : decode c_Mo_numberOf 144 = .ok (.ireturn, 1) := by decide +kernel
set_option maxHeartbeats 4000000 in
set_option maxRecDepth 100000 in
theorem sn_Mo_numberOf_142 {l : Launch} {Γ : gk_G} {p : Program} {e : Env} {s : State} {m : MethodId} {args : Array Value} {below : List Frame} {meth : Method} {c : Code} (B : gk_B p s m args meth c gk_Y Γ c_Mo_numberOf 6 "StageDispatcherModel") (hr : meth.sig.returnType = (some .int)) {ρ : Int32 × gk_M}   {l2 : Int64} {M : gk_M} (h : fn_Mo_numberOf_142  l2 M = some ρ) : Gk p l e rm_Mo_numberOf s m args below meth c gk_Y Γ 6 (MQ below (gk_Q gk_Y Γ (some (.int ρ.1)) ρ.2) args s rm_Mo_numberOf.cells rm_Mo_numberOf.slots (fun q => Γ.2.2 ≤ q)) 0 0 M 142 [none, none, some (.long l2), none, none, none] [] := by
  unfold fn_Mo_numberOf_142 at h
  refine Gk_lload_n (i := 2) (x := l2) B d_Mo_numberOf_142 rfl rfl ?_
  refine Gk_l2i B d_Mo_numberOf_143 ?_
  cases h
  exact Gk_iret B hr d_Mo_numberOf_144 rfl (by decide) (by decide) rfl
set_option maxHeartbeats 4000000 in
set_option maxRecDepth 100000 in
theorem sn_Mo_numberOf_135 {l : Launch} {Γ : gk_G} {p : Program} {e : Env} {s : State} {m : MethodId} {args : Array Value} {below : List Frame} {meth : Method} {c : Code} (B : gk_B p s m args meth c gk_Y Γ c_Mo_numberOf 6 "StageDispatcherModel") (hr : meth.sig.returnType = (some .int)) {ρ : Int32 × gk_M} {k35 : Option Nat → Int32 → Int64 → Int32 → gk_M → Option (Int32 × gk_M)} (H35 : ∀ (a0 : Option Nat) (x1 : Int32) (l2 : Int64) (x4 : Int32) (M : gk_M), k35 a0 x1 l2 x4 M = some ρ → Gk p l e rm_Mo_numberOf s m args below meth c gk_Y Γ 6 (MQ below (gk_Q gk_Y Γ (some (.int ρ.1)) ρ.2) args s rm_Mo_numberOf.cells rm_Mo_numberOf.slots (fun q => Γ.2.2 ≤ q)) 0 0 M 35 [some (va_rf a0), some (.int x1), some (.long l2), none, some (.int x4), none] []) {a0 : Option Nat} {x1 : Int32} {x4 : Int32} {s0 : Int64} {M : gk_M} (h : fn_Mo_numberOf_135 k35 a0 x1 x4 s0 M = some ρ) : Gk p l e rm_Mo_numberOf s m args below meth c gk_Y Γ 6 (MQ below (gk_Q gk_Y Γ (some (.int ρ.1)) ρ.2) args s rm_Mo_numberOf.cells rm_Mo_numberOf.slots (fun q => Γ.2.2 ≤ q)) 0 0 M 135 [some (va_rf a0), some (.int x1), none, none, some (.int x4), none] [.long s0] := by
  unfold fn_Mo_numberOf_135 at h
  refine Gk_lstore_n (i := 2) (L' := [some (va_rf a0), some (.int x1), some (.long s0), none, some (.int x4), none]) B d_Mo_numberOf_135 rfl (by decide) (gk_c1_i rfl) rfl ?_
  refine Gk_iinc (x := x4) (v := (x4 + 1)) (L' := [some (va_rf a0), some (.int x1), some (.long s0), none, some (.int (x4 + 1)), none]) B d_Mo_numberOf_136 rfl (congrArg (fun z => x4 + z) (by decide : Int32.ofInt 1 = 1)) (by decide) (gk_c1_n rfl) rfl ?_
  refine Gk_goto (tgt := 35) B d_Mo_numberOf_139 rfl ?_
  exact H35 a0 x1 s0 (x4 + 1) M h
set_option maxHeartbeats 4000000 in
set_option maxRecDepth 100000 in
theorem sn_Mo_numberOf_119 {l : Launch} {Γ : gk_G} {p : Program} {e : Env} {s : State} {m : MethodId} {args : Array Value} {below : List Frame} {meth : Method} {c : Code} (B : gk_B p s m args meth c gk_Y Γ c_Mo_numberOf 6 "StageDispatcherModel") (hr : meth.sig.returnType = (some .int)) {ρ : Int32 × gk_M} {k35 : Option Nat → Int32 → Int64 → Int32 → gk_M → Option (Int32 × gk_M)} (H35 : ∀ (a0 : Option Nat) (x1 : Int32) (l2 : Int64) (x4 : Int32) (M : gk_M), k35 a0 x1 l2 x4 M = some ρ → Gk p l e rm_Mo_numberOf s m args below meth c gk_Y Γ 6 (MQ below (gk_Q gk_Y Γ (some (.int ρ.1)) ρ.2) args s rm_Mo_numberOf.cells rm_Mo_numberOf.slots (fun q => Γ.2.2 ≤ q)) 0 0 M 35 [some (va_rf a0), some (.int x1), some (.long l2), none, some (.int x4), none] []) {a0 : Option Nat} {x1 : Int32} {x4 : Int32} {s0 : Int64} {M : gk_M} (h : fn_Mo_numberOf_119 k35 a0 x1 x4 s0 M = some ρ) : Gk p l e rm_Mo_numberOf s m args below meth c gk_Y Γ 6 (MQ below (gk_Q gk_Y Γ (some (.int ρ.1)) ρ.2) args s rm_Mo_numberOf.cells rm_Mo_numberOf.slots (fun q => Γ.2.2 ≤ q)) 0 0 M 119 [some (va_rf a0), some (.int x1), none, none, some (.int x4), none] [.long s0] := by
  unfold fn_Mo_numberOf_119 at h
  refine Gk_lstore_n (i := 2) (L' := [some (va_rf a0), some (.int x1), some (.long s0), none, some (.int x4), none]) B d_Mo_numberOf_119 rfl (by decide) (gk_c1_i rfl) rfl ?_
  refine Gk_lload_n (i := 2) (x := s0) B d_Mo_numberOf_120 rfl rfl ?_
  refine Gk_ldc2 (v := 2147483647) B d_Mo_numberOf_121 tw_1092 ?_
  refine Gk_lcmp B d_Mo_numberOf_124 ?_
  refine Gk_if_le (tgt := 134) B d_Mo_numberOf_125 rfl (fun c125 => ?_) (fun c125 => ?_)
  · rw [if_pos c125] at h
    refine Gk_lload_n (i := 2) (x := s0) B d_Mo_numberOf_134 rfl rfl ?_
    refine Gk_weak [true, true, false, false, true, false] (L' := [some (va_rf a0), some (.int x1), none, none, some (.int x4), none]) rfl ?_
    exact sn_Mo_numberOf_135 B hr H35 h
  rw [if_neg c125] at h
  refine Gk_ldc2 (v := (-1)) B d_Mo_numberOf_128 tw_1067 ?_
  refine Gk_goto (tgt := 135) B d_Mo_numberOf_131 rfl ?_
  refine Gk_weak [true, true, false, false, true, false] (L' := [some (va_rf a0), some (.int x1), none, none, some (.int x4), none]) rfl ?_
  exact sn_Mo_numberOf_135 B hr H35 h
set_option maxHeartbeats 4000000 in
set_option maxRecDepth 100000 in
theorem sn_Mo_numberOf_88 {l : Launch} {Γ : gk_G} {p : Program} {e : Env} {s : State} {m : MethodId} {args : Array Value} {below : List Frame} {meth : Method} {c : Code} (B : gk_B p s m args meth c gk_Y Γ c_Mo_numberOf 6 "StageDispatcherModel") (hr : meth.sig.returnType = (some .int)) {ρ : Int32 × gk_M} {k35 : Option Nat → Int32 → Int64 → Int32 → gk_M → Option (Int32 × gk_M)} (H35 : ∀ (a0 : Option Nat) (x1 : Int32) (l2 : Int64) (x4 : Int32) (M : gk_M), k35 a0 x1 l2 x4 M = some ρ → Gk p l e rm_Mo_numberOf s m args below meth c gk_Y Γ 6 (MQ below (gk_Q gk_Y Γ (some (.int ρ.1)) ρ.2) args s rm_Mo_numberOf.cells rm_Mo_numberOf.slots (fun q => Γ.2.2 ≤ q)) 0 0 M 35 [some (va_rf a0), some (.int x1), some (.long l2), none, some (.int x4), none] []) {a0 : Option Nat} {x1 : Int32} {l2 : Int64} {x4 : Int32} {s0 : Int32} {M : gk_M} (h : fn_Mo_numberOf_88 k35 a0 x1 l2 x4 s0 M = some ρ) : Gk p l e rm_Mo_numberOf s m args below meth c gk_Y Γ 6 (MQ below (gk_Q gk_Y Γ (some (.int ρ.1)) ρ.2) args s rm_Mo_numberOf.cells rm_Mo_numberOf.slots (fun q => Γ.2.2 ≤ q)) 0 0 M 88 [some (va_rf a0), some (.int x1), some (.long l2), none, some (.int x4), none] [.int s0] := by
  unfold fn_Mo_numberOf_88 at h
  refine Gk_istore (L' := [some (va_rf a0), some (.int x1), some (.long l2), none, some (.int x4), some (.int s0)]) B d_Mo_numberOf_88 (by decide) (gk_c1_i rfl) rfl ?_
  refine Gk_iload (x := s0) B d_Mo_numberOf_90 rfl ?_
  refine Gk_if_eq (tgt := 116) B d_Mo_numberOf_92 rfl (fun c92 => ?_) (fun c92 => ?_)
  · rw [if_pos c92] at h
    refine Gk_ldc2 (v := (-1)) B d_Mo_numberOf_116 tw_1067 ?_
    refine Gk_weak [true, true, false, false, true, false] (L' := [some (va_rf a0), some (.int x1), none, none, some (.int x4), none]) rfl ?_
    exact sn_Mo_numberOf_119 B hr H35 h
  rw [if_neg c92] at h
  refine Gk_ldc2 (v := 10) B d_Mo_numberOf_95 tw_1090 ?_
  refine Gk_lload_n (i := 2) (x := l2) B d_Mo_numberOf_98 rfl rfl ?_
  refine Gk_lmul B d_Mo_numberOf_99 ?_
  refine Gk_aload_n (i := 0) (r := a0) B d_Mo_numberOf_100 rfl rfl ?_
  obtain ⟨v101, h101, h⟩ := gk_bind h
  refine Gk_getR (j := 28) B d_Mo_numberOf_101 in_Mo cl_Mo (by decide) tw_783 rfl h101 ?_
  refine Gk_iload (x := x4) B d_Mo_numberOf_104 rfl ?_
  obtain ⟨v106, h106, h⟩ := gk_bind h
  refine Gk_caload B d_Mo_numberOf_106 ty_1 h106 ?_
  refine Gk_i2l B d_Mo_numberOf_107 ?_
  refine Gk_ladd B d_Mo_numberOf_108 ?_
  refine Gk_ldc2 (v := 48) B d_Mo_numberOf_109 tw_1091 ?_
  refine Gk_lsub B d_Mo_numberOf_112 ?_
  refine Gk_goto (tgt := 119) B d_Mo_numberOf_113 rfl ?_
  refine Gk_weak [true, true, false, false, true, false] (L' := [some (va_rf a0), some (.int x1), none, none, some (.int x4), none]) rfl ?_
  exact sn_Mo_numberOf_119 B hr H35 h
set_option maxHeartbeats 4000000 in
set_option maxRecDepth 100000 in
theorem sn_Mo_numberOf_87 {l : Launch} {Γ : gk_G} {p : Program} {e : Env} {s : State} {m : MethodId} {args : Array Value} {below : List Frame} {meth : Method} {c : Code} (B : gk_B p s m args meth c gk_Y Γ c_Mo_numberOf 6 "StageDispatcherModel") (hr : meth.sig.returnType = (some .int)) {ρ : Int32 × gk_M} {k35 : Option Nat → Int32 → Int64 → Int32 → gk_M → Option (Int32 × gk_M)} (H35 : ∀ (a0 : Option Nat) (x1 : Int32) (l2 : Int64) (x4 : Int32) (M : gk_M), k35 a0 x1 l2 x4 M = some ρ → Gk p l e rm_Mo_numberOf s m args below meth c gk_Y Γ 6 (MQ below (gk_Q gk_Y Γ (some (.int ρ.1)) ρ.2) args s rm_Mo_numberOf.cells rm_Mo_numberOf.slots (fun q => Γ.2.2 ≤ q)) 0 0 M 35 [some (va_rf a0), some (.int x1), some (.long l2), none, some (.int x4), none] []) {a0 : Option Nat} {x1 : Int32} {l2 : Int64} {x4 : Int32} {M : gk_M} (h : fn_Mo_numberOf_87 k35 a0 x1 l2 x4 M = some ρ) : Gk p l e rm_Mo_numberOf s m args below meth c gk_Y Γ 6 (MQ below (gk_Q gk_Y Γ (some (.int ρ.1)) ρ.2) args s rm_Mo_numberOf.cells rm_Mo_numberOf.slots (fun q => Γ.2.2 ≤ q)) 0 0 M 87 [some (va_rf a0), some (.int x1), some (.long l2), none, some (.int x4), none] [] := by
  unfold fn_Mo_numberOf_87 at h
  refine Gk_iconst (v := 0) B d_Mo_numberOf_87 (by decide) ?_
  exact sn_Mo_numberOf_88 B hr H35 h
set_option maxHeartbeats 4000000 in
set_option maxRecDepth 100000 in
theorem sn_Mo_numberOf_35_bd {l : Launch} {Γ : gk_G} {p : Program} {e : Env} {s : State} {m : MethodId} {args : Array Value} {below : List Frame} {meth : Method} {c : Code} (B : gk_B p s m args meth c gk_Y Γ c_Mo_numberOf 6 "StageDispatcherModel") (hr : meth.sig.returnType = (some .int)) {ρ : Int32 × gk_M} {k35 : Option Nat → Int32 → Int64 → Int32 → gk_M → Option (Int32 × gk_M)} (H35 : ∀ (a0 : Option Nat) (x1 : Int32) (l2 : Int64) (x4 : Int32) (M : gk_M), k35 a0 x1 l2 x4 M = some ρ → Gk p l e rm_Mo_numberOf s m args below meth c gk_Y Γ 6 (MQ below (gk_Q gk_Y Γ (some (.int ρ.1)) ρ.2) args s rm_Mo_numberOf.cells rm_Mo_numberOf.slots (fun q => Γ.2.2 ≤ q)) 0 0 M 35 [some (va_rf a0), some (.int x1), some (.long l2), none, some (.int x4), none] []) {a0 : Option Nat} {x1 : Int32} {l2 : Int64} {x4 : Int32} {M : gk_M} (h : fn_Mo_numberOf_35_bd k35 a0 x1 l2 x4 M = some ρ) : Gk p l e rm_Mo_numberOf s m args below meth c gk_Y Γ 6 (MQ below (gk_Q gk_Y Γ (some (.int ρ.1)) ρ.2) args s rm_Mo_numberOf.cells rm_Mo_numberOf.slots (fun q => Γ.2.2 ≤ q)) 0 0 M 35 [some (va_rf a0), some (.int x1), some (.long l2), none, some (.int x4), none] [] := by
  unfold fn_Mo_numberOf_35_bd at h
  refine Gk_iload (x := x4) B d_Mo_numberOf_35 rfl ?_
  refine Gk_aload_n (i := 0) (r := a0) B d_Mo_numberOf_37 rfl rfl ?_
  obtain ⟨v38, h38, h⟩ := gk_bind h
  refine Gk_getR (j := 43) B d_Mo_numberOf_38 in_Mo cl_Mo (by decide) tw_798 rfl h38 ?_
  refine Gk_iload_n (i := 1) (x := x1) B d_Mo_numberOf_41 rfl rfl ?_
  obtain ⟨v42, h42, h⟩ := gk_bind h
  refine Gk_iaload B d_Mo_numberOf_42 ty_0 h42 ?_
  refine Gk_aload_n (i := 0) (r := a0) B d_Mo_numberOf_43 rfl rfl ?_
  obtain ⟨v44, h44, h⟩ := gk_bind h
  refine Gk_getR (j := 44) B d_Mo_numberOf_44 in_Mo cl_Mo (by decide) tw_799 rfl h44 ?_
  refine Gk_iload_n (i := 1) (x := x1) B d_Mo_numberOf_47 rfl rfl ?_
  obtain ⟨v48, h48, h⟩ := gk_bind h
  refine Gk_iaload B d_Mo_numberOf_48 ty_0 h48 ?_
  refine Gk_iadd B d_Mo_numberOf_49 ?_
  refine Gk_icmp_ge (tgt := 142) B d_Mo_numberOf_50 rfl (fun c50 => ?_) (fun c50 => ?_)
  · rw [if_pos c50] at h
    refine Gk_weak [false, false, true, false, false, false] (L' := [none, none, some (.long l2), none, none, none]) rfl ?_
    exact sn_Mo_numberOf_142 B hr h
  rw [if_neg c50] at h
  refine Gk_lload_n (i := 2) (x := l2) B d_Mo_numberOf_53 rfl rfl ?_
  refine Gk_lconst (v := 0) B d_Mo_numberOf_54 (by decide) ?_
  refine Gk_lcmp B d_Mo_numberOf_55 ?_
  refine Gk_if_lt (tgt := 142) B d_Mo_numberOf_56 rfl (fun c56 => ?_) (fun c56 => ?_)
  · rw [if_pos c56] at h
    refine Gk_weak [false, false, true, false, false, false] (L' := [none, none, some (.long l2), none, none, none]) rfl ?_
    exact sn_Mo_numberOf_142 B hr h
  rw [if_neg c56] at h
  refine Gk_aload_n (i := 0) (r := a0) B d_Mo_numberOf_59 rfl rfl ?_
  obtain ⟨v60, h60, h⟩ := gk_bind h
  refine Gk_getR (j := 28) B d_Mo_numberOf_60 in_Mo cl_Mo (by decide) tw_783 rfl h60 ?_
  refine Gk_iload (x := x4) B d_Mo_numberOf_63 rfl ?_
  obtain ⟨v65, h65, h⟩ := gk_bind h
  refine Gk_caload B d_Mo_numberOf_65 ty_1 h65 ?_
  refine Gk_bipush (v := 48) B d_Mo_numberOf_66 (by decide) ?_
  refine Gk_icmp_lt (tgt := 87) B d_Mo_numberOf_68 rfl (fun c68 => ?_) (fun c68 => ?_)
  · rw [if_pos c68] at h
    exact sn_Mo_numberOf_87 B hr H35 h
  rw [if_neg c68] at h
  refine Gk_aload_n (i := 0) (r := a0) B d_Mo_numberOf_71 rfl rfl ?_
  obtain ⟨v72, h72, h⟩ := gk_bind h
  refine Gk_getR (j := 28) B d_Mo_numberOf_72 in_Mo cl_Mo (by decide) tw_783 rfl h72 ?_
  refine Gk_iload (x := x4) B d_Mo_numberOf_75 rfl ?_
  obtain ⟨v77, h77, h⟩ := gk_bind h
  refine Gk_caload B d_Mo_numberOf_77 ty_1 h77 ?_
  refine Gk_bipush (v := 57) B d_Mo_numberOf_78 (by decide) ?_
  refine Gk_icmp_gt (tgt := 87) B d_Mo_numberOf_80 rfl (fun c80 => ?_) (fun c80 => ?_)
  · rw [if_pos c80] at h
    exact sn_Mo_numberOf_87 B hr H35 h
  rw [if_neg c80] at h
  refine Gk_iconst (v := 1) B d_Mo_numberOf_83 (by decide) ?_
  refine Gk_goto (tgt := 88) B d_Mo_numberOf_84 rfl ?_
  exact sn_Mo_numberOf_88 B hr H35 h
set_option maxHeartbeats 4000000 in
set_option maxRecDepth 100000 in
theorem sn_Mo_numberOf_35 {l : Launch} {Γ : gk_G} {p : Program} {e : Env} {s : State} {m : MethodId} {args : Array Value} {below : List Frame} {meth : Method} {c : Code} (B : gk_B p s m args meth c gk_Y Γ c_Mo_numberOf 6 "StageDispatcherModel") (hr : meth.sig.returnType = (some .int)) {ρ : Int32 × gk_M}   {a0 : Option Nat} {x1 : Int32} {l2 : Int64} {x4 : Int32} {M : gk_M} (h : fn_Mo_numberOf_35  a0 x1 l2 x4 M = some ρ) : Gk p l e rm_Mo_numberOf s m args below meth c gk_Y Γ 6 (MQ below (gk_Q gk_Y Γ (some (.int ρ.1)) ρ.2) args s rm_Mo_numberOf.cells rm_Mo_numberOf.slots (fun q => Γ.2.2 ≤ q)) 0 0 M 35 [some (va_rf a0), some (.int x1), some (.long l2), none, some (.int x4), none] [] := by
  unfold fn_Mo_numberOf_35 at h
  exact gk_loop_sound (α := Option Nat × Int32 × Int64 × Int32 × gk_M) (P := fun a => Gk p l e rm_Mo_numberOf s m args below meth c gk_Y Γ 6 (MQ below (gk_Q gk_Y Γ (some (.int ρ.1)) ρ.2) args s rm_Mo_numberOf.cells rm_Mo_numberOf.slots (fun q => Γ.2.2 ≤ q)) 0 0 a.2.2.2.2 35 [some (va_rf a.1), some (.int a.2.1), some (.long a.2.2.1), none, some (.int a.2.2.2.1), none] []) (fun kk a Hk hb => sn_Mo_numberOf_35_bd B hr (fun a0 x1 l2 x4 M hh => Hk (a0, x1, l2, x4, M) hh) hb) _ _ h
set_option maxHeartbeats 4000000 in
set_option maxRecDepth 100000 in
theorem sn_Mo_numberOf_26 {l : Launch} {Γ : gk_G} {p : Program} {e : Env} {s : State} {m : MethodId} {args : Array Value} {below : List Frame} {meth : Method} {c : Code} (B : gk_B p s m args meth c gk_Y Γ c_Mo_numberOf 6 "StageDispatcherModel") (hr : meth.sig.returnType = (some .int)) {ρ : Int32 × gk_M}   {a0 : Option Nat} {x1 : Int32} {s0 : Int64} {M : gk_M} (h : fn_Mo_numberOf_26  a0 x1 s0 M = some ρ) : Gk p l e rm_Mo_numberOf s m args below meth c gk_Y Γ 6 (MQ below (gk_Q gk_Y Γ (some (.int ρ.1)) ρ.2) args s rm_Mo_numberOf.cells rm_Mo_numberOf.slots (fun q => Γ.2.2 ≤ q)) 0 0 M 26 [some (va_rf a0), some (.int x1), none, none, none, none] [.long s0] := by
  unfold fn_Mo_numberOf_26 at h
  refine Gk_lstore_n (i := 2) (L' := [some (va_rf a0), some (.int x1), some (.long s0), none, none, none]) B d_Mo_numberOf_26 rfl (by decide) (gk_c1_i rfl) rfl ?_
  refine Gk_aload_n (i := 0) (r := a0) B d_Mo_numberOf_27 rfl rfl ?_
  obtain ⟨v28, h28, h⟩ := gk_bind h
  refine Gk_getR (j := 43) B d_Mo_numberOf_28 in_Mo cl_Mo (by decide) tw_798 rfl h28 ?_
  refine Gk_iload_n (i := 1) (x := x1) B d_Mo_numberOf_31 rfl rfl ?_
  obtain ⟨v32, h32, h⟩ := gk_bind h
  refine Gk_iaload B d_Mo_numberOf_32 ty_0 h32 ?_
  refine Gk_istore (L' := [some (va_rf a0), some (.int x1), some (.long s0), none, some (.int v32), none]) B d_Mo_numberOf_33 (by decide) (gk_c1_n rfl) rfl ?_
  exact sn_Mo_numberOf_35 B hr h
set_option maxHeartbeats 4000000 in
set_option maxRecDepth 100000 in
theorem sn_Mo_numberOf_0 {l : Launch} {Γ : gk_G} {p : Program} {e : Env} {s : State} {m : MethodId} {args : Array Value} {below : List Frame} {meth : Method} {c : Code} (B : gk_B p s m args meth c gk_Y Γ c_Mo_numberOf 6 "StageDispatcherModel") (hr : meth.sig.returnType = (some .int)) {ρ : Int32 × gk_M}   {a0 : Option Nat} {x1 : Int32} {M : gk_M} (h : fn_Mo_numberOf  a0 x1 M = some ρ) : Gk p l e rm_Mo_numberOf s m args below meth c gk_Y Γ 6 (MQ below (gk_Q gk_Y Γ (some (.int ρ.1)) ρ.2) args s rm_Mo_numberOf.cells rm_Mo_numberOf.slots (fun q => Γ.2.2 ≤ q)) 0 0 M 0 [some (va_rf a0), some (.int x1), none, none, none, none] [] := by
  unfold fn_Mo_numberOf at h
  refine Gk_iload_n (i := 1) (x := x1) B d_Mo_numberOf_0 rfl rfl ?_
  refine Gk_aload_n (i := 0) (r := a0) B d_Mo_numberOf_1 rfl rfl ?_
  obtain ⟨v2, h2, h⟩ := gk_bind h
  refine Gk_getI (j := 42) B d_Mo_numberOf_2 in_Mo cl_Mo (by decide) tw_797 rfl h2 ?_
  refine Gk_icmp_lt (tgt := 10) B d_Mo_numberOf_5 rfl (fun c5 => ?_) (fun c5 => ?_)
  · rw [if_pos c5] at h
    refine Gk_aload_n (i := 0) (r := a0) B d_Mo_numberOf_10 rfl rfl ?_
    obtain ⟨v11, h11, h⟩ := gk_bind h
    refine Gk_getR (j := 44) B d_Mo_numberOf_11 in_Mo cl_Mo (by decide) tw_799 rfl h11 ?_
    refine Gk_iload_n (i := 1) (x := x1) B d_Mo_numberOf_14 rfl rfl ?_
    obtain ⟨v15, h15, h⟩ := gk_bind h
    refine Gk_iaload B d_Mo_numberOf_15 ty_0 h15 ?_
    refine Gk_if_ne (tgt := 25) B d_Mo_numberOf_16 rfl (fun c16 => ?_) (fun c16 => ?_)
    · rw [if_neg c16] at h
      refine Gk_lconst (v := 0) B d_Mo_numberOf_25 (by decide) ?_
      exact sn_Mo_numberOf_26 B hr h
    rw [if_pos c16] at h
    refine Gk_ldc2 (v := (-1)) B d_Mo_numberOf_19 tw_1067 ?_
    refine Gk_goto (tgt := 26) B d_Mo_numberOf_22 rfl ?_
    exact sn_Mo_numberOf_26 B hr h
  rw [if_neg c5] at h
  refine Gk_iconst (v := 0) B d_Mo_numberOf_8 (by decide) ?_
  cases h
  exact Gk_iret B hr d_Mo_numberOf_9 rfl (by decide) (by decide) rfl
theorem sn_Mo_numberOf {l : Launch} {Γ : gk_G} {a0 : Option Nat} {x1 : Int32} {M : gk_M} {ρ : Int32 × gk_M} (h : fn_Mo_numberOf a0 x1 M = some ρ) : gk_Met l gk_Y Γ y_Mo_numberOf (.code y_Mo_numberOf c_Mo_numberOf 6 (some .int) :: gk_Y.2.2.2) rm_Mo_numberOf [va_rf a0, .int x1] M (some (.int ρ.1)) ρ.2 :=
  gk_start (by decide) (by simp [lg_sl, gk_rc, gk_ic, gk_jc]) [some (va_rf a0), some (.int x1), none, none, none, none] (by simp [gk_as, lv_args, gk_rc, gk_ic, gk_jc]) (fun p e s m args below meth c B hr hin => sn_Mo_numberOf_0 B hr h)
theorem d_Mo_invoke_0 : decode c_Mo_invoke 0 = .ok (.aload_n 0, 1) := by decide +kernel
theorem d_Mo_invoke_1 : decode c_Mo_invoke 1 = .ok (.getfield 35, 3) := by decide +kernel
theorem d_Mo_invoke_4 : decode c_Mo_invoke 4 = .ok (.aload_n 0, 1) := by decide +kernel
theorem d_Mo_invoke_5 : decode c_Mo_invoke 5 = .ok (.getfield 115, 3) := by decide +kernel
theorem d_Mo_invoke_8 : decode c_Mo_invoke 8 = .ok (.iaload, 1) := by decide +kernel
theorem d_Mo_invoke_9 : decode c_Mo_invoke 9 = .ok (.istore_n 1, 1) := by decide +kernel
theorem d_Mo_invoke_10 : decode c_Mo_invoke 10 = .ok (.iload_n 1, 1) := by decide +kernel
theorem d_Mo_invoke_11 : decode c_Mo_invoke 11 = .ok (.ifCond .lt 11, 3) := by decide +kernel
theorem d_Mo_invoke_14 : decode c_Mo_invoke 14 = .ok (.aload_n 0, 1) := by decide +kernel
theorem d_Mo_invoke_15 : decode c_Mo_invoke 15 = .ok (.iload_n 1, 1) := by decide +kernel
theorem d_Mo_invoke_16 : decode c_Mo_invoke 16 = .ok (.invokevirtual 289, 3) := by decide +kernel
theorem d_Mo_invoke_19 : decode c_Mo_invoke 19 = .ok (.goto 4, 3) := by decide +kernel
theorem d_Mo_invoke_22 : decode c_Mo_invoke 22 = .ok (.iconst 0, 1) := by decide +kernel
theorem d_Mo_invoke_23 : decode c_Mo_invoke 23 = .ok (.istore_n 2, 1) := by decide +kernel
theorem d_Mo_invoke_24 : decode c_Mo_invoke 24 = .ok (.iload_n 2, 1) := by decide +kernel
theorem d_Mo_invoke_25 : decode c_Mo_invoke 25 = .ok (.ifCond .ge 10, 3) := by decide +kernel
theorem d_Mo_invoke_28 : decode c_Mo_invoke 28 = .ok (.aload_n 0, 1) := by decide +kernel
theorem d_Mo_invoke_29 : decode c_Mo_invoke 29 = .ok (.bipush 8, 2) := by decide +kernel
theorem d_Mo_invoke_31 : decode c_Mo_invoke 31 = .ok (.invokevirtual 280, 3) := by decide +kernel
theorem d_Mo_invoke_34 : decode c_Mo_invoke 34 = .ok (.return_, 1) := by decide +kernel
theorem d_Mo_invoke_35 : decode c_Mo_invoke 35 = .ok (.aload_n 0, 1) := by decide +kernel
theorem d_Mo_invoke_36 : decode c_Mo_invoke 36 = .ok (.iconst 1, 1) := by decide +kernel
theorem d_Mo_invoke_37 : decode c_Mo_invoke 37 = .ok (.putfield 292, 3) := by decide +kernel
theorem d_Mo_invoke_40 : decode c_Mo_invoke 40 = .ok (.aload_n 0, 1) := by decide +kernel
theorem d_Mo_invoke_41 : decode c_Mo_invoke 41 = .ok (.iload_n 2, 1) := by decide +kernel
theorem d_Mo_invoke_42 : decode c_Mo_invoke 42 = .ok (.putfield 295, 3) := by decide +kernel
theorem d_Mo_invoke_45 : decode c_Mo_invoke 45 = .ok (.aload_n 0, 1) := by decide +kernel
theorem d_Mo_invoke_46 : decode c_Mo_invoke 46 = .ok (.sipush 200, 3) := by decide +kernel
theorem d_Mo_invoke_49 : decode c_Mo_invoke 49 = .ok (.putfield 268, 3) := by decide +kernel
theorem d_Mo_invoke_52 : decode c_Mo_invoke 52 = .ok (.aload_n 0, 1) := by decide +kernel
theorem d_Mo_invoke_53 : decode c_Mo_invoke 53 = .ok (.getfield 41, 3) := by decide +kernel
theorem d_Mo_invoke_56 : decode c_Mo_invoke 56 = .ok (.aload_n 0, 1) := by decide +kernel
theorem d_Mo_invoke_57 : decode c_Mo_invoke 57 = .ok (.getfield 115, 3) := by decide +kernel
theorem d_Mo_invoke_60 : decode c_Mo_invoke 60 = .ok (.iaload, 1) := by decide +kernel
theorem d_Mo_invoke_61 : decode c_Mo_invoke 61 = .ok (.ifCond .le 16, 3) := by decide +kernel
theorem d_Mo_invoke_64 : decode c_Mo_invoke 64 = .ok (.aload_n 0, 1) := by decide +kernel
theorem d_Mo_invoke_65 : decode c_Mo_invoke 65 = .ok (.aload_n 0, 1) := by decide +kernel
theorem d_Mo_invoke_66 : decode c_Mo_invoke 66 = .ok (.getfield 41, 3) := by decide +kernel
theorem d_Mo_invoke_69 : decode c_Mo_invoke 69 = .ok (.aload_n 0, 1) := by decide +kernel
theorem d_Mo_invoke_70 : decode c_Mo_invoke 70 = .ok (.getfield 115, 3) := by decide +kernel
theorem d_Mo_invoke_73 : decode c_Mo_invoke 73 = .ok (.iaload, 1) := by decide +kernel
theorem d_Mo_invoke_74 : decode c_Mo_invoke 74 = .ok (.invokevirtual 280, 3) := by decide +kernel
theorem d_Mo_invoke_77 : decode c_Mo_invoke 77 = .ok (.return_, 1) := by decide +kernel
set_option maxHeartbeats 4000000 in
set_option maxRecDepth 100000 in
theorem sn_Mo_invoke_23 {l : Launch} {Γ : gk_G} {p : Program} {e : Env} {s : State} {m : MethodId} {args : Array Value} {below : List Frame} {meth : Method} {c : Code} (B : gk_B p s m args meth c gk_Y Γ c_Mo_invoke 3 "StageDispatcherModel") (hr : meth.sig.returnType = none) {ρ : gk_M}   {a0 : Option Nat} {s0 : Int32} {M : gk_M} (h : fn_Mo_invoke_23  a0 s0 M = some ρ) : Gk p l e rm_Mo_invoke s m args below meth c gk_Y Γ 3 (MQ below (gk_Q gk_Y Γ none ρ) args s rm_Mo_invoke.cells rm_Mo_invoke.slots (fun q => Γ.2.2 ≤ q)) 0 0 M 23 [some (va_rf a0), none, none] [.int s0] := by
  unfold fn_Mo_invoke_23 at h
  refine Gk_istore_n (i := 2) (L' := [some (va_rf a0), none, some (.int s0)]) B d_Mo_invoke_23 rfl (by decide) (gk_c1_n rfl) rfl ?_
  refine Gk_iload_n (i := 2) (x := s0) B d_Mo_invoke_24 rfl rfl ?_
  refine Gk_if_ge (tgt := 35) B d_Mo_invoke_25 rfl (fun c25 => ?_) (fun c25 => ?_)
  · rw [if_pos c25] at h
    refine Gk_aload_n (i := 0) (r := a0) B d_Mo_invoke_35 rfl rfl ?_
    refine Gk_iconst (v := 1) B d_Mo_invoke_36 (by decide) ?_
    obtain ⟨z37, y37, h⟩ := gk_bind h
    obtain ⟨e37, f37⟩ := gk_z_eq y37
    subst e37
    obtain ⟨M37, h37, h⟩ := gk_bind h
    refine Gk_put (j := 36) (ty := .boolean) B d_Mo_invoke_37 in_Mo t_Mo t_Mo_ok n_Mo cl_Mo (by decide) tw_791 rfl rfl rfl (gk_nz f37) (gk_fz f37) h37 ?_
    refine Gk_aload_n (i := 0) (r := a0) B d_Mo_invoke_40 rfl rfl ?_
    refine Gk_iload_n (i := 2) (x := s0) B d_Mo_invoke_41 rfl rfl ?_
    obtain ⟨M42, h42, h⟩ := gk_bind h
    refine Gk_put (j := 37) (ty := .int) B d_Mo_invoke_42 in_Mo t_Mo t_Mo_ok n_Mo cl_Mo (by decide) tw_792 rfl rfl rfl rfl rfl h42 ?_
    refine Gk_aload_n (i := 0) (r := a0) B d_Mo_invoke_45 rfl rfl ?_
    refine Gk_sipush (v := 200) B d_Mo_invoke_46 (by decide) ?_
    obtain ⟨M49, h49, h⟩ := gk_bind h
    refine Gk_put (j := 32) (ty := .int) B d_Mo_invoke_49 in_Mo t_Mo t_Mo_ok n_Mo cl_Mo (by decide) tw_787 rfl rfl rfl rfl rfl h49 ?_
    refine Gk_aload_n (i := 0) (r := a0) B d_Mo_invoke_52 rfl rfl ?_
    obtain ⟨v53, h53, h⟩ := gk_bind h
    refine Gk_getR (j := 13) B d_Mo_invoke_53 in_Mo cl_Mo (by decide) tw_768 rfl h53 ?_
    refine Gk_aload_n (i := 0) (r := a0) B d_Mo_invoke_56 rfl rfl ?_
    obtain ⟨v57, h57, h⟩ := gk_bind h
    refine Gk_getI (j := 35) B d_Mo_invoke_57 in_Mo cl_Mo (by decide) tw_790 rfl h57 ?_
    obtain ⟨v60, h60, h⟩ := gk_bind h
    refine Gk_iaload B d_Mo_invoke_60 ty_0 h60 ?_
    refine Gk_if_le (tgt := 77) B d_Mo_invoke_61 rfl (fun c61 => ?_) (fun c61 => ?_)
    · rw [if_pos c61] at h
      cases h
      exact Gk_vret B hr d_Mo_invoke_77 (by decide) (by decide) rfl
    rw [if_neg c61] at h
    refine Gk_aload_n (i := 0) (r := a0) B d_Mo_invoke_64 rfl rfl ?_
    refine Gk_aload_n (i := 0) (r := a0) B d_Mo_invoke_65 rfl rfl ?_
    obtain ⟨v66, h66, h⟩ := gk_bind h
    refine Gk_getR (j := 13) B d_Mo_invoke_66 in_Mo cl_Mo (by decide) tw_768 rfl h66 ?_
    refine Gk_aload_n (i := 0) (r := a0) B d_Mo_invoke_69 rfl rfl ?_
    obtain ⟨v70, h70, h⟩ := gk_bind h
    refine Gk_getI (j := 35) B d_Mo_invoke_70 in_Mo cl_Mo (by decide) tw_790 rfl h70 ?_
    obtain ⟨v73, h73, h⟩ := gk_bind h
    refine Gk_iaload B d_Mo_invoke_73 ty_0 h73 ?_
    obtain ⟨o74, g74, h⟩ := gk_bind h
    obtain ⟨w74, h74, h⟩ := gk_bind h
    refine Gk_callV (As := [.int v73]) (rest := []) (st1 := []) (k1 := 0) (n1 := 0) B gk_hG d_Mo_invoke_74 (sn_Mo_raise h74) g74 cl_Mo tw_1081 tw_1078 tw_1080 tw_36 tw_48 nm_Mo_raise rfl (by decide) ⟨by decide, by decide⟩ ⟨by decide, by decide⟩ rfl rfl rfl rfl ?_
    cases h
    exact Gk_vret B hr d_Mo_invoke_77 (by decide) (by decide) rfl
  rw [if_neg c25] at h
  refine Gk_aload_n (i := 0) (r := a0) B d_Mo_invoke_28 rfl rfl ?_
  refine Gk_bipush (v := 8) B d_Mo_invoke_29 (by decide) ?_
  obtain ⟨o31, g31, h⟩ := gk_bind h
  obtain ⟨w31, h31, h⟩ := gk_bind h
  refine Gk_callV (As := [.int 8]) (rest := []) (st1 := []) (k1 := 0) (n1 := 0) B gk_hG d_Mo_invoke_31 (sn_Mo_raise h31) g31 cl_Mo tw_1081 tw_1078 tw_1080 tw_36 tw_48 nm_Mo_raise rfl (by decide) ⟨by decide, by decide⟩ ⟨by decide, by decide⟩ rfl rfl rfl rfl ?_
  cases h
  exact Gk_vret B hr d_Mo_invoke_34 (by decide) (by decide) rfl
set_option maxHeartbeats 4000000 in
set_option maxRecDepth 100000 in
theorem sn_Mo_invoke_0 {l : Launch} {Γ : gk_G} {p : Program} {e : Env} {s : State} {m : MethodId} {args : Array Value} {below : List Frame} {meth : Method} {c : Code} (B : gk_B p s m args meth c gk_Y Γ c_Mo_invoke 3 "StageDispatcherModel") (hr : meth.sig.returnType = none) {ρ : gk_M}   {a0 : Option Nat} {M : gk_M} (h : fn_Mo_invoke  a0 M = some ρ) : Gk p l e rm_Mo_invoke s m args below meth c gk_Y Γ 3 (MQ below (gk_Q gk_Y Γ none ρ) args s rm_Mo_invoke.cells rm_Mo_invoke.slots (fun q => Γ.2.2 ≤ q)) 0 0 M 0 [some (va_rf a0), none, none] [] := by
  unfold fn_Mo_invoke at h
  refine Gk_aload_n (i := 0) (r := a0) B d_Mo_invoke_0 rfl rfl ?_
  obtain ⟨v1, h1, h⟩ := gk_bind h
  refine Gk_getR (j := 11) B d_Mo_invoke_1 in_Mo cl_Mo (by decide) tw_766 rfl h1 ?_
  refine Gk_aload_n (i := 0) (r := a0) B d_Mo_invoke_4 rfl rfl ?_
  obtain ⟨v5, h5, h⟩ := gk_bind h
  refine Gk_getI (j := 35) B d_Mo_invoke_5 in_Mo cl_Mo (by decide) tw_790 rfl h5 ?_
  obtain ⟨v8, h8, h⟩ := gk_bind h
  refine Gk_iaload B d_Mo_invoke_8 ty_0 h8 ?_
  refine Gk_istore_n (i := 1) (L' := [some (va_rf a0), some (.int v8), none]) B d_Mo_invoke_9 rfl (by decide) (gk_c1_r rfl) rfl ?_
  refine Gk_iload_n (i := 1) (x := v8) B d_Mo_invoke_10 rfl rfl ?_
  refine Gk_if_lt (tgt := 22) B d_Mo_invoke_11 rfl (fun c11 => ?_) (fun c11 => ?_)
  · rw [if_pos c11] at h
    refine Gk_iconst (v := 0) B d_Mo_invoke_22 (by decide) ?_
    refine Gk_weak [true, false, false] (L' := [some (va_rf a0), none, none]) rfl ?_
    exact sn_Mo_invoke_23 B hr h
  rw [if_neg c11] at h
  refine Gk_aload_n (i := 0) (r := a0) B d_Mo_invoke_14 rfl rfl ?_
  refine Gk_iload_n (i := 1) (x := v8) B d_Mo_invoke_15 rfl rfl ?_
  obtain ⟨o16, g16, h⟩ := gk_bind h
  obtain ⟨w16, h16, h⟩ := gk_bind h
  refine Gk_callV (As := [.int v8]) (rest := []) (st1 := [.int w16.1]) (k1 := 0) (n1 := 0) B gk_hG d_Mo_invoke_16 (sn_Mo_numberOf h16) g16 cl_Mo tw_1089 tw_1086 tw_1088 tw_38 tw_48 nm_Mo_numberOf rfl (by decide) ⟨by decide, by decide⟩ ⟨by decide, by decide⟩ rfl rfl rfl rfl ?_
  refine Gk_goto (tgt := 23) B d_Mo_invoke_19 rfl ?_
  refine Gk_weak [true, false, false] (L' := [some (va_rf a0), none, none]) rfl ?_
  exact sn_Mo_invoke_23 B hr h
theorem sn_Mo_invoke {l : Launch} {Γ : gk_G} {a0 : Option Nat} {M : gk_M} {ρ : gk_M} (h : fn_Mo_invoke a0 M = some ρ) : gk_Met l gk_Y Γ y_Mo_invoke (.code y_Mo_invoke c_Mo_invoke 3 none :: gk_Y.2.2.2) rm_Mo_invoke [va_rf a0] M none ρ :=
  gk_start (by decide) (by simp [lg_sl, gk_rc, gk_ic, gk_jc]) [some (va_rf a0), none, none] (by simp [gk_as, lv_args, gk_rc, gk_ic, gk_jc]) (fun p e s m args below meth c B hr hin => sn_Mo_invoke_0 B hr h)
theorem d_Mo_request_0 : decode c_Mo_request 0 = .ok (.aload_n 0, 1) := by decide +kernel
theorem d_Mo_request_1 : decode c_Mo_request 1 = .ok (.getfield 118, 3) := by decide +kernel
theorem d_Mo_request_4 : decode c_Mo_request 4 = .ok (.ifCond .le 45, 3) := by decide +kernel
theorem d_Mo_request_7 : decode c_Mo_request 7 = .ok (.aload_n 0, 1) := by decide +kernel
theorem d_Mo_request_8 : decode c_Mo_request 8 = .ok (.getfield 7, 3) := by decide +kernel
theorem d_Mo_request_11 : decode c_Mo_request 11 = .ok (.iconst 0, 1) := by decide +kernel
theorem d_Mo_request_12 : decode c_Mo_request 12 = .ok (.caload, 1) := by decide +kernel
theorem d_Mo_request_13 : decode c_Mo_request 13 = .ok (.bipush 47, 2) := by decide +kernel
theorem d_Mo_request_15 : decode c_Mo_request 15 = .ok (.if_icmp .ne 34, 3) := by decide +kernel
theorem d_Mo_request_18 : decode c_Mo_request 18 = .ok (.iload_n 1, 1) := by decide +kernel
theorem d_Mo_request_19 : decode c_Mo_request 19 = .ok (.iconst 0, 1) := by decide +kernel
theorem d_Mo_request_20 : decode c_Mo_request 20 = .ok (.iconst 5, 1) := by decide +kernel
theorem d_Mo_request_21 : decode c_Mo_request 21 = .ok (.invokestatic 167, 3) := by decide +kernel
theorem d_Mo_request_24 : decode c_Mo_request 24 = .ok (.ifCond .ne 25, 3) := by decide +kernel
theorem d_Mo_request_27 : decode c_Mo_request 27 = .ok (.iload_n 2, 1) := by decide +kernel
theorem d_Mo_request_28 : decode c_Mo_request 28 = .ok (.ifCond .eq 17, 3) := by decide +kernel
theorem d_Mo_request_31 : decode c_Mo_request 31 = .ok (.iload_n 2, 1) := by decide +kernel
theorem d_Mo_request_32 : decode c_Mo_request 32 = .ok (.invokestatic 171, 3) := by decide +kernel
theorem d_Mo_request_35 : decode c_Mo_request 35 = .ok (.ifCond .eq 14, 3) := by decide +kernel
theorem d_Mo_request_38 : decode c_Mo_request 38 = .ok (.iload_n 2, 1) := by decide +kernel
theorem d_Mo_request_39 : decode c_Mo_request 39 = .ok (.bipush 16, 2) := by decide +kernel
theorem d_Mo_request_41 : decode c_Mo_request 41 = .ok (.irem, 1) := by decide +kernel
theorem d_Mo_request_42 : decode c_Mo_request 42 = .ok (.ifCond .eq 7, 3) := by decide +kernel
theorem d_Mo_request_45 : decode c_Mo_request 45 = .ok (.iconst 1, 1) := by decide +kernel
theorem d_Mo_request_46 : decode c_Mo_request 46 = .ok (.goto 4, 3) := by decide +kernel
theorem d_Mo_request_49 : decode c_Mo_request 49 = .ok (.iconst 0, 1) := by decide +kernel
theorem d_Mo_request_50 : decode c_Mo_request 50 = .ok (.istore 4, 2) := by decide +kernel
theorem d_Mo_request_52 : decode c_Mo_request 52 = .ok (.iconst 0, 1) := by decide +kernel
theorem d_Mo_request_53 : decode c_Mo_request 53 = .ok (.istore 5, 2) := by decide +kernel
theorem d_Mo_request_55 : decode c_Mo_request 55 = .ok (.iload 5, 2) := by decide +kernel
theorem d_Mo_request_57 : decode c_Mo_request 57 = .ok (.aload_n 0, 1) := by decide +kernel
theorem d_Mo_request_58 : decode c_Mo_request 58 = .ok (.getfield 118, 3) := by decide +kernel
theorem d_Mo_request_61 : decode c_Mo_request 61 = .ok (.if_icmp .ge 45, 3) := by decide +kernel
theorem d_Mo_request_64 : decode c_Mo_request 64 = .ok (.iload 4, 2) := by decide +kernel
theorem d_Mo_request_66 : decode c_Mo_request 66 = .ok (.ifCond .eq 31, 3) := by decide +kernel
theorem d_Mo_request_69 : decode c_Mo_request 69 = .ok (.aload_n 0, 1) := by decide +kernel
theorem d_Mo_request_70 : decode c_Mo_request 70 = .ok (.getfield 7, 3) := by decide +kernel
theorem d_Mo_request_73 : decode c_Mo_request 73 = .ok (.iload 5, 2) := by decide +kernel
theorem d_Mo_request_75 : decode c_Mo_request 75 = .ok (.caload, 1) := by decide +kernel
theorem d_Mo_request_76 : decode c_Mo_request 76 = .ok (.bipush 123, 2) := by decide +kernel
theorem d_Mo_request_78 : decode c_Mo_request 78 = .ok (.if_icmp .eq 19, 3) := by decide +kernel
theorem d_Mo_request_81 : decode c_Mo_request 81 = .ok (.aload_n 0, 1) := by decide +kernel
theorem d_Mo_request_82 : decode c_Mo_request 82 = .ok (.getfield 7, 3) := by decide +kernel
theorem d_Mo_request_85 : decode c_Mo_request 85 = .ok (.iload 5, 2) := by decide +kernel
theorem d_Mo_request_87 : decode c_Mo_request 87 = .ok (.caload, 1) := by decide +kernel
theorem d_Mo_request_88 : decode c_Mo_request 88 = .ok (.bipush 125, 2) := by decide +kernel
theorem d_Mo_request_90 : decode c_Mo_request 90 = .ok (.if_icmp .eq 7, 3) := by decide +kernel
theorem d_Mo_request_93 : decode c_Mo_request 93 = .ok (.iconst 1, 1) := by decide +kernel
theorem d_Mo_request_94 : decode c_Mo_request 94 = .ok (.goto 4, 3) := by decide +kernel
theorem d_Mo_request_97 : decode c_Mo_request 97 = .ok (.iconst 0, 1) := by decide +kernel
theorem d_Mo_request_98 : decode c_Mo_request 98 = .ok (.istore 4, 2) := by decide +kernel
theorem d_Mo_request_100 : decode c_Mo_request 100 = .ok (.iinc 5 1, 3) := by decide +kernel
theorem d_Mo_request_103 : decode c_Mo_request 103 = .ok (.goto (-48), 3) := by decide +kernel
theorem d_Mo_request_106 : decode c_Mo_request 106 = .ok (.aload_n 0, 1) := by decide +kernel
theorem d_Mo_request_107 : decode c_Mo_request 107 = .ok (.getfield 118, 3) := by decide +kernel
theorem d_Mo_request_110 : decode c_Mo_request 110 = .ok (.istore 5, 2) := by decide +kernel
theorem d_Mo_request_112 : decode c_Mo_request 112 = .ok (.aload_n 0, 1) := by decide +kernel
theorem d_Mo_request_113 : decode c_Mo_request 113 = .ok (.iconst 0, 1) := by decide +kernel
theorem d_Mo_request_114 : decode c_Mo_request 114 = .ok (.putfield 118, 3) := by decide +kernel
theorem d_Mo_request_117 : decode c_Mo_request 117 = .ok (.iload 4, 2) := by decide +kernel
theorem d_Mo_request_119 : decode c_Mo_request 119 = .ok (.ifCond .ne 5, 3) := by decide +kernel
theorem d_Mo_request_122 : decode c_Mo_request 122 = .ok (.iconst (-1), 1) := by decide +kernel
theorem d_Mo_request_123 : decode c_Mo_request 123 = .ok (.ireturn, 1) := by decide +kernel
theorem d_Mo_request_124 : decode c_Mo_request 124 = .ok (.iconst 0, 1) := by decide +kernel
theorem d_Mo_request_125 : decode c_Mo_request 125 = .ok (.istore 6, 2) := by decide +kernel
theorem d_Mo_request_127 : decode c_Mo_request 127 = .ok (.iload 6, 2) := by decide +kernel
theorem d_Mo_request_129 : decode c_Mo_request 129 = .ok (.iload 5, 2) := by decide +kernel
theorem d_Mo_request_131 : decode c_Mo_request 131 = .ok (.if_icmp .ge 23, 3) := by decide +kernel
theorem d_Mo_request_134 : decode c_Mo_request 134 = .ok (.aload_n 0, 1) := by decide +kernel
theorem d_Mo_request_135 : decode c_Mo_request 135 = .ok (.getfield 78, 3) := by decide +kernel
theorem d_Mo_request_138 : decode c_Mo_request 138 = .ok (.iload 6, 2) := by decide +kernel
theorem d_Mo_request_140 : decode c_Mo_request 140 = .ok (.aload_n 0, 1) := by decide +kernel
theorem d_Mo_request_141 : decode c_Mo_request 141 = .ok (.getfield 7, 3) := by decide +kernel
theorem d_Mo_request_144 : decode c_Mo_request 144 = .ok (.iload 6, 2) := by decide +kernel
theorem d_Mo_request_146 : decode c_Mo_request 146 = .ok (.caload, 1) := by decide +kernel
theorem d_Mo_request_147 : decode c_Mo_request 147 = .ok (.castore, 1) := by decide +kernel
theorem d_Mo_request_148 : decode c_Mo_request 148 = .ok (.iinc 6 1, 3) := by decide +kernel
theorem d_Mo_request_151 : decode c_Mo_request 151 = .ok (.goto (-24), 3) := by decide +kernel
theorem d_Mo_request_154 : decode c_Mo_request 154 = .ok (.aload_n 0, 1) := by decide +kernel
theorem d_Mo_request_155 : decode c_Mo_request 155 = .ok (.iload 5, 2) := by decide +kernel
theorem d_Mo_request_157 : decode c_Mo_request 157 = .ok (.putfield 132, 3) := by decide +kernel
theorem d_Mo_request_160 : decode c_Mo_request 160 = .ok (.aload_n 0, 1) := by decide +kernel
theorem d_Mo_request_161 : decode c_Mo_request 161 = .ok (.iload_n 1, 1) := by decide +kernel
theorem d_Mo_request_162 : decode c_Mo_request 162 = .ok (.putfield 234, 3) := by decide +kernel
theorem d_Mo_request_165 : decode c_Mo_request 165 = .ok (.aload_n 0, 1) := by decide +kernel
theorem d_Mo_request_166 : decode c_Mo_request 166 = .ok (.iload_n 3, 1) := by decide +kernel
theorem d_Mo_request_167 : decode c_Mo_request 167 = .ok (.putfield 262, 3) := by decide +kernel
theorem d_Mo_request_170 : decode c_Mo_request 170 = .ok (.aload_n 0, 1) := by decide +kernel
theorem d_Mo_request_171 : decode c_Mo_request 171 = .ok (.iconst 0, 1) := by decide +kernel
theorem d_Mo_request_172 : decode c_Mo_request 172 = .ok (.putfield 268, 3) := by decide +kernel
theorem d_Mo_request_175 : decode c_Mo_request 175 = .ok (.aload_n 0, 1) := by decide +kernel
theorem d_Mo_request_176 : decode c_Mo_request 176 = .ok (.iconst 0, 1) := by decide +kernel
theorem d_Mo_request_177 : decode c_Mo_request 177 = .ok (.putfield 255, 3) := by decide +kernel
theorem d_Mo_request_180 : decode c_Mo_request 180 = .ok (.aload_n 0, 1) := by decide +kernel
theorem d_Mo_request_181 : decode c_Mo_request 181 = .ok (.iconst (-1), 1) := by decide +kernel
theorem d_Mo_request_182 : decode c_Mo_request 182 = .ok (.putfield 115, 3) := by decide +kernel
theorem d_Mo_request_185 : decode c_Mo_request 185 = .ok (.aload_n 0, 1) := by decide +kernel
theorem d_Mo_request_186 : decode c_Mo_request 186 = .ok (.iconst 0, 1) := by decide +kernel
theorem d_Mo_request_187 : decode c_Mo_request 187 = .ok (.putfield 292, 3) := by decide +kernel
theorem d_Mo_request_190 : decode c_Mo_request 190 = .ok (.aload_n 0, 1) := by decide +kernel
theorem d_Mo_request_191 : decode c_Mo_request 191 = .ok (.iconst 0, 1) := by decide +kernel
theorem d_Mo_request_192 : decode c_Mo_request 192 = .ok (.putfield 295, 3) := by decide +kernel
theorem d_Mo_request_195 : decode c_Mo_request 195 = .ok (.aload_n 0, 1) := by decide +kernel
theorem d_Mo_request_196 : decode c_Mo_request 196 = .ok (.iconst 0, 1) := by decide +kernel
theorem d_Mo_request_197 : decode c_Mo_request 197 = .ok (.putfield 231, 3) := by decide +kernel
theorem d_Mo_request_200 : decode c_Mo_request 200 = .ok (.aload_n 0, 1) := by decide +kernel
theorem d_Mo_request_201 : decode c_Mo_request 201 = .ok (.iconst (-1), 1) := by decide +kernel
theorem d_Mo_request_202 : decode c_Mo_request 202 = .ok (.putfield 111, 3) := by decide +kernel
theorem d_Mo_request_205 : decode c_Mo_request 205 = .ok (.aload_n 0, 1) := by decide +kernel
theorem d_Mo_request_206 : decode c_Mo_request 206 = .ok (.iconst 0, 1) := by decide +kernel
theorem d_Mo_request_207 : decode c_Mo_request 207 = .ok (.putfield 209, 3) := by decide +kernel
theorem d_Mo_request_210 : decode c_Mo_request 210 = .ok (.aload_n 0, 1) := by decide +kernel
theorem d_Mo_request_211 : decode c_Mo_request 211 = .ok (.iconst 0, 1) := by decide +kernel
theorem d_Mo_request_212 : decode c_Mo_request 212 = .ok (.putfield 149, 3) := by decide +kernel
theorem d_Mo_request_215 : decode c_Mo_request 215 = .ok (.aload_n 0, 1) := by decide +kernel
theorem d_Mo_request_216 : decode c_Mo_request 216 = .ok (.iconst 0, 1) := by decide +kernel
theorem d_Mo_request_217 : decode c_Mo_request 217 = .ok (.putfield 259, 3) := by decide +kernel
theorem d_Mo_request_220 : decode c_Mo_request 220 = .ok (.aload_n 0, 1) := by decide +kernel
theorem d_Mo_request_221 : decode c_Mo_request 221 = .ok (.iconst 0, 1) := by decide +kernel
theorem d_Mo_request_222 : decode c_Mo_request 222 = .ok (.iconst (-1), 1) := by decide +kernel
theorem d_Mo_request_223 : decode c_Mo_request 223 = .ok (.invokevirtual 298, 3) := by decide +kernel
theorem d_Mo_request_226 : decode c_Mo_request 226 = .ok (.aload_n 0, 1) := by decide +kernel
theorem d_Mo_request_227 : decode c_Mo_request 227 = .ok (.getfield 255, 3) := by decide +kernel
theorem d_Mo_request_230 : decode c_Mo_request 230 = .ok (.ifCond .ne 8, 3) := by decide +kernel
theorem d_Mo_request_233 : decode c_Mo_request 233 = .ok (.aload_n 0, 1) := by decide +kernel
theorem d_Mo_request_234 : decode c_Mo_request 234 = .ok (.iload_n 2, 1) := by decide +kernel
theorem d_Mo_request_235 : decode c_Mo_request 235 = .ok (.invokevirtual 302, 3) := by decide +kernel
theorem d_Mo_request_238 : decode c_Mo_request 238 = .ok (.aload_n 0, 1) := by decide +kernel
theorem d_Mo_request_239 : decode c_Mo_request 239 = .ok (.getfield 255, 3) := by decide +kernel
theorem d_Mo_request_242 : decode c_Mo_request 242 = .ok (.ifCond .ne 12, 3) := by decide +kernel
theorem d_Mo_request_245 : decode c_Mo_request 245 = .ok (.aload_n 0, 1) := by decide +kernel
theorem d_Mo_request_246 : decode c_Mo_request 246 = .ok (.iconst 1, 1) := by decide +kernel
theorem d_Mo_request_247 : decode c_Mo_request 247 = .ok (.aload_n 0, 1) := by decide +kernel
theorem d_Mo_request_248 : decode c_Mo_request 248 = .ok (.getfield 115, 3) := by decide +kernel
theorem d_Mo_request_251 : decode c_Mo_request 251 = .ok (.invokevirtual 298, 3) := by decide +kernel
theorem d_Mo_request_254 : decode c_Mo_request 254 = .ok (.aload_n 0, 1) := by decide +kernel
theorem d_Mo_request_255 : decode c_Mo_request 255 = .ok (.getfield 255, 3) := by decide +kernel
theorem d_Mo_request_258 : decode c_Mo_request 258 = .ok (.ifCond .ne 7, 3) := by decide +kernel
theorem d_Mo_request_261 : decode c_Mo_request 261 = .ok (.aload_n 0, 1) := by decide +kernel
theorem d_Mo_request_262 : decode c_Mo_request 262 = .ok (.invokevirtual 305, 3) := by decide +kernel
theorem d_Mo_request_265 : decode c_Mo_request 265 = .ok (.aload_n 0, 1) := by decide +kernel
theorem d_Mo_request_266 : decode c_Mo_request 266 = .ok (.iconst 2, 1) := by decide +kernel
theorem d_Mo_request_267 : decode c_Mo_request 267 = .ok (.aload_n 0, 1) := by decide +kernel
theorem d_Mo_request_268 : decode c_Mo_request 268 = .ok (.getfield 115, 3) := by decide +kernel
theorem d_Mo_request_271 : decode c_Mo_request 271 = .ok (.invokevirtual 298, 3) := by decide +kernel
theorem d_Mo_request_274 : decode c_Mo_request 274 = .ok (.aload_n 0, 1) := by decide +kernel
theorem d_Mo_request_275 : decode c_Mo_request 275 = .ok (.iconst 0, 1) := by decide +kernel
theorem d_Mo_request_276 : decode c_Mo_request 276 = .ok (.putfield 184, 3) := by decide +kernel
theorem d_Mo_request_279 : decode c_Mo_request 279 = .ok (.aload_n 0, 1) := by decide +kernel
theorem d_Mo_request_280 : decode c_Mo_request 280 = .ok (.getfield 268, 3) := by decide +kernel
theorem d_Mo_request_283 : decode c_Mo_request 283 = .ok (.ireturn, 1) := by decide +kernel
set_option maxHeartbeats 4000000 in
set_option maxRecDepth 100000 in
theorem sn_Mo_request_98 {l : Launch} {Γ : gk_G} {p : Program} {e : Env} {s : State} {m : MethodId} {args : Array Value} {below : List Frame} {meth : Method} {c : Code} (B : gk_B p s m args meth c gk_Y Γ c_Mo_request 7 "StageDispatcherModel") (hr : meth.sig.returnType = (some .int)) {ρ : Int32 × gk_M} {k55 : Option Nat → Int32 → Int32 → Int32 → Int32 → Int32 → gk_M → Option (Int32 × gk_M)} (H55 : ∀ (a0 : Option Nat) (x1 : Int32) (x2 : Int32) (x3 : Int32) (x4 : Int32) (x5 : Int32) (M : gk_M), k55 a0 x1 x2 x3 x4 x5 M = some ρ → Gk p l e rm_Mo_request s m args below meth c gk_Y Γ 7 (MQ below (gk_Q gk_Y Γ (some (.int ρ.1)) ρ.2) args s rm_Mo_request.cells rm_Mo_request.slots (fun q => Γ.2.2 ≤ q)) 0 0 M 55 [some (va_rf a0), some (.int x1), some (.int x2), some (.int x3), some (.int x4), some (.int x5), none] []) {a0 : Option Nat} {x1 : Int32} {x2 : Int32} {x3 : Int32} {x5 : Int32} {s0 : Int32} {M : gk_M} (h : fn_Mo_request_98 k55 a0 x1 x2 x3 x5 s0 M = some ρ) : Gk p l e rm_Mo_request s m args below meth c gk_Y Γ 7 (MQ below (gk_Q gk_Y Γ (some (.int ρ.1)) ρ.2) args s rm_Mo_request.cells rm_Mo_request.slots (fun q => Γ.2.2 ≤ q)) 0 0 M 98 [some (va_rf a0), some (.int x1), some (.int x2), some (.int x3), none, some (.int x5), none] [.int s0] := by
  unfold fn_Mo_request_98 at h
  refine Gk_istore (L' := [some (va_rf a0), some (.int x1), some (.int x2), some (.int x3), some (.int s0), some (.int x5), none]) B d_Mo_request_98 (by decide) (gk_c1_i rfl) rfl ?_
  refine Gk_iinc (x := x5) (v := (x5 + 1)) (L' := [some (va_rf a0), some (.int x1), some (.int x2), some (.int x3), some (.int s0), some (.int (x5 + 1)), none]) B d_Mo_request_100 rfl (congrArg (fun z => x5 + z) (by decide : Int32.ofInt 1 = 1)) (by decide) (gk_c1_i rfl) rfl ?_
  refine Gk_goto (tgt := 55) B d_Mo_request_103 rfl ?_
  exact H55 a0 x1 x2 x3 s0 (x5 + 1) M h
set_option maxHeartbeats 4000000 in
set_option maxRecDepth 100000 in
theorem sn_Mo_request_97 {l : Launch} {Γ : gk_G} {p : Program} {e : Env} {s : State} {m : MethodId} {args : Array Value} {below : List Frame} {meth : Method} {c : Code} (B : gk_B p s m args meth c gk_Y Γ c_Mo_request 7 "StageDispatcherModel") (hr : meth.sig.returnType = (some .int)) {ρ : Int32 × gk_M} {k55 : Option Nat → Int32 → Int32 → Int32 → Int32 → Int32 → gk_M → Option (Int32 × gk_M)} (H55 : ∀ (a0 : Option Nat) (x1 : Int32) (x2 : Int32) (x3 : Int32) (x4 : Int32) (x5 : Int32) (M : gk_M), k55 a0 x1 x2 x3 x4 x5 M = some ρ → Gk p l e rm_Mo_request s m args below meth c gk_Y Γ 7 (MQ below (gk_Q gk_Y Γ (some (.int ρ.1)) ρ.2) args s rm_Mo_request.cells rm_Mo_request.slots (fun q => Γ.2.2 ≤ q)) 0 0 M 55 [some (va_rf a0), some (.int x1), some (.int x2), some (.int x3), some (.int x4), some (.int x5), none] []) {a0 : Option Nat} {x1 : Int32} {x2 : Int32} {x3 : Int32} {x5 : Int32} {M : gk_M} (h : fn_Mo_request_97 k55 a0 x1 x2 x3 x5 M = some ρ) : Gk p l e rm_Mo_request s m args below meth c gk_Y Γ 7 (MQ below (gk_Q gk_Y Γ (some (.int ρ.1)) ρ.2) args s rm_Mo_request.cells rm_Mo_request.slots (fun q => Γ.2.2 ≤ q)) 0 0 M 97 [some (va_rf a0), some (.int x1), some (.int x2), some (.int x3), none, some (.int x5), none] [] := by
  unfold fn_Mo_request_97 at h
  refine Gk_iconst (v := 0) B d_Mo_request_97 (by decide) ?_
  exact sn_Mo_request_98 B hr H55 h
set_option maxHeartbeats 4000000 in
set_option maxRecDepth 100000 in
theorem sn_Mo_request_265 {l : Launch} {Γ : gk_G} {p : Program} {e : Env} {s : State} {m : MethodId} {args : Array Value} {below : List Frame} {meth : Method} {c : Code} (B : gk_B p s m args meth c gk_Y Γ c_Mo_request 7 "StageDispatcherModel") (hr : meth.sig.returnType = (some .int)) {ρ : Int32 × gk_M}   {a0 : Option Nat} {M : gk_M} (h : fn_Mo_request_265  a0 M = some ρ) : Gk p l e rm_Mo_request s m args below meth c gk_Y Γ 7 (MQ below (gk_Q gk_Y Γ (some (.int ρ.1)) ρ.2) args s rm_Mo_request.cells rm_Mo_request.slots (fun q => Γ.2.2 ≤ q)) 0 0 M 265 [some (va_rf a0), none, none, none, none, none, none] [] := by
  unfold fn_Mo_request_265 at h
  refine Gk_aload_n (i := 0) (r := a0) B d_Mo_request_265 rfl rfl ?_
  refine Gk_iconst (v := 2) B d_Mo_request_266 (by decide) ?_
  refine Gk_aload_n (i := 0) (r := a0) B d_Mo_request_267 rfl rfl ?_
  obtain ⟨v268, h268, h⟩ := gk_bind h
  refine Gk_getI (j := 35) B d_Mo_request_268 in_Mo cl_Mo (by decide) tw_790 rfl h268 ?_
  obtain ⟨o271, g271, h⟩ := gk_bind h
  obtain ⟨w271, h271, h⟩ := gk_bind h
  refine Gk_callV (As := [.int 2, .int v268]) (rest := []) (st1 := []) (k1 := 0) (n1 := 0) B gk_hG d_Mo_request_271 (sn_Mo_filterAll h271) g271 cl_Mo tw_985 tw_982 tw_984 tw_16 tw_48 nm_Mo_filterAll rfl (by decide) ⟨by decide, by decide⟩ ⟨by decide, by decide⟩ rfl rfl rfl rfl ?_
  refine Gk_aload_n (i := 0) (r := a0) B d_Mo_request_274 rfl rfl ?_
  refine Gk_iconst (v := 0) B d_Mo_request_275 (by decide) ?_
  obtain ⟨M276, h276, h⟩ := gk_bind h
  refine Gk_put (j := 25) (ty := .int) B d_Mo_request_276 in_Mo t_Mo t_Mo_ok n_Mo cl_Mo (by decide) tw_780 rfl rfl rfl rfl rfl h276 ?_
  refine Gk_aload_n (i := 0) (r := a0) B d_Mo_request_279 rfl rfl ?_
  obtain ⟨v280, h280, h⟩ := gk_bind h
  refine Gk_getI (j := 32) B d_Mo_request_280 in_Mo cl_Mo (by decide) tw_787 rfl h280 ?_
  cases h
  exact Gk_iret B hr d_Mo_request_283 rfl (by decide) (by decide) rfl
set_option maxHeartbeats 4000000 in
set_option maxRecDepth 100000 in
theorem sn_Mo_request_254 {l : Launch} {Γ : gk_G} {p : Program} {e : Env} {s : State} {m : MethodId} {args : Array Value} {below : List Frame} {meth : Method} {c : Code} (B : gk_B p s m args meth c gk_Y Γ c_Mo_request 7 "StageDispatcherModel") (hr : meth.sig.returnType = (some .int)) {ρ : Int32 × gk_M}   {a0 : Option Nat} {M : gk_M} (h : fn_Mo_request_254  a0 M = some ρ) : Gk p l e rm_Mo_request s m args below meth c gk_Y Γ 7 (MQ below (gk_Q gk_Y Γ (some (.int ρ.1)) ρ.2) args s rm_Mo_request.cells rm_Mo_request.slots (fun q => Γ.2.2 ≤ q)) 0 0 M 254 [some (va_rf a0), none, none, none, none, none, none] [] := by
  unfold fn_Mo_request_254 at h
  refine Gk_aload_n (i := 0) (r := a0) B d_Mo_request_254 rfl rfl ?_
  obtain ⟨v255, h255, h⟩ := gk_bind h
  refine Gk_getI (j := 33) B d_Mo_request_255 in_Mo cl_Mo (by decide) tw_788 rfl h255 ?_
  refine Gk_if_ne (tgt := 265) B d_Mo_request_258 rfl (fun c258 => ?_) (fun c258 => ?_)
  · rw [if_neg c258] at h
    exact sn_Mo_request_265 B hr h
  rw [if_pos c258] at h
  refine Gk_aload_n (i := 0) (r := a0) B d_Mo_request_261 rfl rfl ?_
  obtain ⟨o262, g262, h⟩ := gk_bind h
  obtain ⟨w262, h262, h⟩ := gk_bind h
  refine Gk_callV (As := []) (rest := []) (st1 := []) (k1 := 0) (n1 := 0) B gk_hG d_Mo_request_262 (sn_Mo_invoke h262) g262 cl_Mo tw_1085 tw_1082 tw_1084 tw_37 tw_48 nm_Mo_invoke rfl (by decide) ⟨by decide, by decide⟩ ⟨by decide, by decide⟩ rfl rfl rfl rfl ?_
  exact sn_Mo_request_265 B hr h
set_option maxHeartbeats 4000000 in
set_option maxRecDepth 100000 in
theorem sn_Mo_request_238 {l : Launch} {Γ : gk_G} {p : Program} {e : Env} {s : State} {m : MethodId} {args : Array Value} {below : List Frame} {meth : Method} {c : Code} (B : gk_B p s m args meth c gk_Y Γ c_Mo_request 7 "StageDispatcherModel") (hr : meth.sig.returnType = (some .int)) {ρ : Int32 × gk_M}   {a0 : Option Nat} {M : gk_M} (h : fn_Mo_request_238  a0 M = some ρ) : Gk p l e rm_Mo_request s m args below meth c gk_Y Γ 7 (MQ below (gk_Q gk_Y Γ (some (.int ρ.1)) ρ.2) args s rm_Mo_request.cells rm_Mo_request.slots (fun q => Γ.2.2 ≤ q)) 0 0 M 238 [some (va_rf a0), none, none, none, none, none, none] [] := by
  unfold fn_Mo_request_238 at h
  refine Gk_aload_n (i := 0) (r := a0) B d_Mo_request_238 rfl rfl ?_
  obtain ⟨v239, h239, h⟩ := gk_bind h
  refine Gk_getI (j := 33) B d_Mo_request_239 in_Mo cl_Mo (by decide) tw_788 rfl h239 ?_
  refine Gk_if_ne (tgt := 254) B d_Mo_request_242 rfl (fun c242 => ?_) (fun c242 => ?_)
  · rw [if_neg c242] at h
    exact sn_Mo_request_254 B hr h
  rw [if_pos c242] at h
  refine Gk_aload_n (i := 0) (r := a0) B d_Mo_request_245 rfl rfl ?_
  refine Gk_iconst (v := 1) B d_Mo_request_246 (by decide) ?_
  refine Gk_aload_n (i := 0) (r := a0) B d_Mo_request_247 rfl rfl ?_
  obtain ⟨v248, h248, h⟩ := gk_bind h
  refine Gk_getI (j := 35) B d_Mo_request_248 in_Mo cl_Mo (by decide) tw_790 rfl h248 ?_
  obtain ⟨o251, g251, h⟩ := gk_bind h
  obtain ⟨w251, h251, h⟩ := gk_bind h
  refine Gk_callV (As := [.int 1, .int v248]) (rest := []) (st1 := []) (k1 := 0) (n1 := 0) B gk_hG d_Mo_request_251 (sn_Mo_filterAll h251) g251 cl_Mo tw_985 tw_982 tw_984 tw_16 tw_48 nm_Mo_filterAll rfl (by decide) ⟨by decide, by decide⟩ ⟨by decide, by decide⟩ rfl rfl rfl rfl ?_
  exact sn_Mo_request_254 B hr h
set_option maxHeartbeats 4000000 in
set_option maxRecDepth 100000 in
theorem sn_Mo_request_127_bd {l : Launch} {Γ : gk_G} {p : Program} {e : Env} {s : State} {m : MethodId} {args : Array Value} {below : List Frame} {meth : Method} {c : Code} (B : gk_B p s m args meth c gk_Y Γ c_Mo_request 7 "StageDispatcherModel") (hr : meth.sig.returnType = (some .int)) {ρ : Int32 × gk_M} {k127 : Option Nat → Int32 → Int32 → Int32 → Int32 → Int32 → gk_M → Option (Int32 × gk_M)} (H127 : ∀ (a0 : Option Nat) (x1 : Int32) (x2 : Int32) (x3 : Int32) (x5 : Int32) (x6 : Int32) (M : gk_M), k127 a0 x1 x2 x3 x5 x6 M = some ρ → Gk p l e rm_Mo_request s m args below meth c gk_Y Γ 7 (MQ below (gk_Q gk_Y Γ (some (.int ρ.1)) ρ.2) args s rm_Mo_request.cells rm_Mo_request.slots (fun q => Γ.2.2 ≤ q)) 0 0 M 127 [some (va_rf a0), some (.int x1), some (.int x2), some (.int x3), none, some (.int x5), some (.int x6)] []) {a0 : Option Nat} {x1 : Int32} {x2 : Int32} {x3 : Int32} {x5 : Int32} {x6 : Int32} {M : gk_M} (h : fn_Mo_request_127_bd k127 a0 x1 x2 x3 x5 x6 M = some ρ) : Gk p l e rm_Mo_request s m args below meth c gk_Y Γ 7 (MQ below (gk_Q gk_Y Γ (some (.int ρ.1)) ρ.2) args s rm_Mo_request.cells rm_Mo_request.slots (fun q => Γ.2.2 ≤ q)) 0 0 M 127 [some (va_rf a0), some (.int x1), some (.int x2), some (.int x3), none, some (.int x5), some (.int x6)] [] := by
  unfold fn_Mo_request_127_bd at h
  refine Gk_iload (x := x6) B d_Mo_request_127 rfl ?_
  refine Gk_iload (x := x5) B d_Mo_request_129 rfl ?_
  refine Gk_icmp_ge (tgt := 154) B d_Mo_request_131 rfl (fun c131 => ?_) (fun c131 => ?_)
  · rw [if_pos c131] at h
    refine Gk_aload_n (i := 0) (r := a0) B d_Mo_request_154 rfl rfl ?_
    refine Gk_iload (x := x5) B d_Mo_request_155 rfl ?_
    obtain ⟨M157, h157, h⟩ := gk_bind h
    refine Gk_put (j := 29) (ty := .int) B d_Mo_request_157 in_Mo t_Mo t_Mo_ok n_Mo cl_Mo (by decide) tw_784 rfl rfl rfl rfl rfl h157 ?_
    refine Gk_aload_n (i := 0) (r := a0) B d_Mo_request_160 rfl rfl ?_
    refine Gk_iload_n (i := 1) (x := x1) B d_Mo_request_161 rfl rfl ?_
    obtain ⟨M162, h162, h⟩ := gk_bind h
    refine Gk_put (j := 30) (ty := .int) B d_Mo_request_162 in_Mo t_Mo t_Mo_ok n_Mo cl_Mo (by decide) tw_785 rfl rfl rfl rfl rfl h162 ?_
    refine Gk_aload_n (i := 0) (r := a0) B d_Mo_request_165 rfl rfl ?_
    refine Gk_iload_n (i := 3) (x := x3) B d_Mo_request_166 rfl rfl ?_
    obtain ⟨M167, h167, h⟩ := gk_bind h
    refine Gk_put (j := 31) (ty := .int) B d_Mo_request_167 in_Mo t_Mo t_Mo_ok n_Mo cl_Mo (by decide) tw_786 rfl rfl rfl rfl rfl h167 ?_
    refine Gk_aload_n (i := 0) (r := a0) B d_Mo_request_170 rfl rfl ?_
    refine Gk_iconst (v := 0) B d_Mo_request_171 (by decide) ?_
    obtain ⟨M172, h172, h⟩ := gk_bind h
    refine Gk_put (j := 32) (ty := .int) B d_Mo_request_172 in_Mo t_Mo t_Mo_ok n_Mo cl_Mo (by decide) tw_787 rfl rfl rfl rfl rfl h172 ?_
    refine Gk_aload_n (i := 0) (r := a0) B d_Mo_request_175 rfl rfl ?_
    refine Gk_iconst (v := 0) B d_Mo_request_176 (by decide) ?_
    obtain ⟨z177, y177, h⟩ := gk_bind h
    obtain ⟨e177, f177⟩ := gk_z_eq y177
    subst e177
    obtain ⟨M177, h177, h⟩ := gk_bind h
    refine Gk_put (j := 33) (ty := .boolean) B d_Mo_request_177 in_Mo t_Mo t_Mo_ok n_Mo cl_Mo (by decide) tw_788 rfl rfl rfl (gk_nz f177) (gk_fz f177) h177 ?_
    refine Gk_aload_n (i := 0) (r := a0) B d_Mo_request_180 rfl rfl ?_
    refine Gk_iconst (v := (-1)) B d_Mo_request_181 (by decide) ?_
    obtain ⟨M182, h182, h⟩ := gk_bind h
    refine Gk_put (j := 35) (ty := .int) B d_Mo_request_182 in_Mo t_Mo t_Mo_ok n_Mo cl_Mo (by decide) tw_790 rfl rfl rfl rfl rfl h182 ?_
    refine Gk_aload_n (i := 0) (r := a0) B d_Mo_request_185 rfl rfl ?_
    refine Gk_iconst (v := 0) B d_Mo_request_186 (by decide) ?_
    obtain ⟨z187, y187, h⟩ := gk_bind h
    obtain ⟨e187, f187⟩ := gk_z_eq y187
    subst e187
    obtain ⟨M187, h187, h⟩ := gk_bind h
    refine Gk_put (j := 36) (ty := .boolean) B d_Mo_request_187 in_Mo t_Mo t_Mo_ok n_Mo cl_Mo (by decide) tw_791 rfl rfl rfl (gk_nz f187) (gk_fz f187) h187 ?_
    refine Gk_aload_n (i := 0) (r := a0) B d_Mo_request_190 rfl rfl ?_
    refine Gk_iconst (v := 0) B d_Mo_request_191 (by decide) ?_
    obtain ⟨M192, h192, h⟩ := gk_bind h
    refine Gk_put (j := 37) (ty := .int) B d_Mo_request_192 in_Mo t_Mo t_Mo_ok n_Mo cl_Mo (by decide) tw_792 rfl rfl rfl rfl rfl h192 ?_
    refine Gk_aload_n (i := 0) (r := a0) B d_Mo_request_195 rfl rfl ?_
    refine Gk_iconst (v := 0) B d_Mo_request_196 (by decide) ?_
    obtain ⟨M197, h197, h⟩ := gk_bind h
    refine Gk_put (j := 38) (ty := .int) B d_Mo_request_197 in_Mo t_Mo t_Mo_ok n_Mo cl_Mo (by decide) tw_793 rfl rfl rfl rfl rfl h197 ?_
    refine Gk_aload_n (i := 0) (r := a0) B d_Mo_request_200 rfl rfl ?_
    refine Gk_iconst (v := (-1)) B d_Mo_request_201 (by decide) ?_
    obtain ⟨M202, h202, h⟩ := gk_bind h
    refine Gk_put (j := 39) (ty := .int) B d_Mo_request_202 in_Mo t_Mo t_Mo_ok n_Mo cl_Mo (by decide) tw_794 rfl rfl rfl rfl rfl h202 ?_
    refine Gk_aload_n (i := 0) (r := a0) B d_Mo_request_205 rfl rfl ?_
    refine Gk_iconst (v := 0) B d_Mo_request_206 (by decide) ?_
    obtain ⟨M207, h207, h⟩ := gk_bind h
    refine Gk_put (j := 40) (ty := .int) B d_Mo_request_207 in_Mo t_Mo t_Mo_ok n_Mo cl_Mo (by decide) tw_795 rfl rfl rfl rfl rfl h207 ?_
    refine Gk_aload_n (i := 0) (r := a0) B d_Mo_request_210 rfl rfl ?_
    refine Gk_iconst (v := 0) B d_Mo_request_211 (by decide) ?_
    obtain ⟨M212, h212, h⟩ := gk_bind h
    refine Gk_put (j := 42) (ty := .int) B d_Mo_request_212 in_Mo t_Mo t_Mo_ok n_Mo cl_Mo (by decide) tw_797 rfl rfl rfl rfl rfl h212 ?_
    refine Gk_aload_n (i := 0) (r := a0) B d_Mo_request_215 rfl rfl ?_
    refine Gk_iconst (v := 0) B d_Mo_request_216 (by decide) ?_
    obtain ⟨M217, h217, h⟩ := gk_bind h
    refine Gk_put (j := 45) (ty := .int) B d_Mo_request_217 in_Mo t_Mo t_Mo_ok n_Mo cl_Mo (by decide) tw_800 rfl rfl rfl rfl rfl h217 ?_
    refine Gk_aload_n (i := 0) (r := a0) B d_Mo_request_220 rfl rfl ?_
    refine Gk_iconst (v := 0) B d_Mo_request_221 (by decide) ?_
    refine Gk_iconst (v := (-1)) B d_Mo_request_222 (by decide) ?_
    obtain ⟨o223, g223, h⟩ := gk_bind h
    obtain ⟨w223, h223, h⟩ := gk_bind h
    refine Gk_callV (As := [.int 0, .int (-1)]) (rest := []) (st1 := []) (k1 := 0) (n1 := 0) B gk_hG d_Mo_request_223 (sn_Mo_filterAll h223) g223 cl_Mo tw_985 tw_982 tw_984 tw_16 tw_48 nm_Mo_filterAll rfl (by decide) ⟨by decide, by decide⟩ ⟨by decide, by decide⟩ rfl rfl rfl rfl ?_
    refine Gk_aload_n (i := 0) (r := a0) B d_Mo_request_226 rfl rfl ?_
    obtain ⟨v227, h227, h⟩ := gk_bind h
    refine Gk_getI (j := 33) B d_Mo_request_227 in_Mo cl_Mo (by decide) tw_788 rfl h227 ?_
    refine Gk_if_ne (tgt := 238) B d_Mo_request_230 rfl (fun c230 => ?_) (fun c230 => ?_)
    · rw [if_neg c230] at h
      refine Gk_weak [true, false, false, false, false, false, false] (L' := [some (va_rf a0), none, none, none, none, none, none]) rfl ?_
      exact sn_Mo_request_238 B hr h
    rw [if_pos c230] at h
    refine Gk_aload_n (i := 0) (r := a0) B d_Mo_request_233 rfl rfl ?_
    refine Gk_iload_n (i := 2) (x := x2) B d_Mo_request_234 rfl rfl ?_
    obtain ⟨o235, g235, h⟩ := gk_bind h
    obtain ⟨w235, h235, h⟩ := gk_bind h
    refine Gk_callV (As := [.int x2]) (rest := []) (st1 := []) (k1 := 0) (n1 := 0) B gk_hG d_Mo_request_235 (sn_Mo_matching h235) g235 cl_Mo tw_997 tw_994 tw_996 tw_19 tw_48 nm_Mo_matching rfl (by decide) ⟨by decide, by decide⟩ ⟨by decide, by decide⟩ rfl rfl rfl rfl ?_
    refine Gk_weak [true, false, false, false, false, false, false] (L' := [some (va_rf a0), none, none, none, none, none, none]) rfl ?_
    exact sn_Mo_request_238 B hr h
  rw [if_neg c131] at h
  refine Gk_aload_n (i := 0) (r := a0) B d_Mo_request_134 rfl rfl ?_
  obtain ⟨v135, h135, h⟩ := gk_bind h
  refine Gk_getR (j := 28) B d_Mo_request_135 in_Mo cl_Mo (by decide) tw_783 rfl h135 ?_
  refine Gk_iload (x := x6) B d_Mo_request_138 rfl ?_
  refine Gk_aload_n (i := 0) (r := a0) B d_Mo_request_140 rfl rfl ?_
  obtain ⟨v141, h141, h⟩ := gk_bind h
  refine Gk_getR (j := 0) B d_Mo_request_141 in_Mo cl_Mo (by decide) tw_755 rfl h141 ?_
  refine Gk_iload (x := x6) B d_Mo_request_144 rfl ?_
  obtain ⟨v146, h146, h⟩ := gk_bind h
  refine Gk_caload B d_Mo_request_146 ty_1 h146 ?_
  obtain ⟨M147, h147, h⟩ := gk_bind h
  refine Gk_castore B d_Mo_request_147 ty_1 h147 ?_
  refine Gk_iinc (x := x6) (v := (x6 + 1)) (L' := [some (va_rf a0), some (.int x1), some (.int x2), some (.int x3), none, some (.int x5), some (.int (x6 + 1))]) B d_Mo_request_148 rfl (congrArg (fun z => x6 + z) (by decide : Int32.ofInt 1 = 1)) (by decide) (gk_c1_i rfl) rfl ?_
  refine Gk_goto (tgt := 127) B d_Mo_request_151 rfl ?_
  exact H127 a0 x1 x2 x3 x5 (x6 + 1) M147 h
set_option maxHeartbeats 4000000 in
set_option maxRecDepth 100000 in
theorem sn_Mo_request_127 {l : Launch} {Γ : gk_G} {p : Program} {e : Env} {s : State} {m : MethodId} {args : Array Value} {below : List Frame} {meth : Method} {c : Code} (B : gk_B p s m args meth c gk_Y Γ c_Mo_request 7 "StageDispatcherModel") (hr : meth.sig.returnType = (some .int)) {ρ : Int32 × gk_M}   {a0 : Option Nat} {x1 : Int32} {x2 : Int32} {x3 : Int32} {x5 : Int32} {x6 : Int32} {M : gk_M} (h : fn_Mo_request_127  a0 x1 x2 x3 x5 x6 M = some ρ) : Gk p l e rm_Mo_request s m args below meth c gk_Y Γ 7 (MQ below (gk_Q gk_Y Γ (some (.int ρ.1)) ρ.2) args s rm_Mo_request.cells rm_Mo_request.slots (fun q => Γ.2.2 ≤ q)) 0 0 M 127 [some (va_rf a0), some (.int x1), some (.int x2), some (.int x3), none, some (.int x5), some (.int x6)] [] := by
  unfold fn_Mo_request_127 at h
  exact gk_loop_sound (α := Option Nat × Int32 × Int32 × Int32 × Int32 × Int32 × gk_M) (P := fun a => Gk p l e rm_Mo_request s m args below meth c gk_Y Γ 7 (MQ below (gk_Q gk_Y Γ (some (.int ρ.1)) ρ.2) args s rm_Mo_request.cells rm_Mo_request.slots (fun q => Γ.2.2 ≤ q)) 0 0 a.2.2.2.2.2.2 127 [some (va_rf a.1), some (.int a.2.1), some (.int a.2.2.1), some (.int a.2.2.2.1), none, some (.int a.2.2.2.2.1), some (.int a.2.2.2.2.2.1)] []) (fun kk a Hk hb => sn_Mo_request_127_bd B hr (fun a0 x1 x2 x3 x5 x6 M hh => Hk (a0, x1, x2, x3, x5, x6, M) hh) hb) _ _ h
set_option maxHeartbeats 4000000 in
set_option maxRecDepth 100000 in
theorem sn_Mo_request_55_bd {l : Launch} {Γ : gk_G} {p : Program} {e : Env} {s : State} {m : MethodId} {args : Array Value} {below : List Frame} {meth : Method} {c : Code} (B : gk_B p s m args meth c gk_Y Γ c_Mo_request 7 "StageDispatcherModel") (hr : meth.sig.returnType = (some .int)) {ρ : Int32 × gk_M} {k55 : Option Nat → Int32 → Int32 → Int32 → Int32 → Int32 → gk_M → Option (Int32 × gk_M)} (H55 : ∀ (a0 : Option Nat) (x1 : Int32) (x2 : Int32) (x3 : Int32) (x4 : Int32) (x5 : Int32) (M : gk_M), k55 a0 x1 x2 x3 x4 x5 M = some ρ → Gk p l e rm_Mo_request s m args below meth c gk_Y Γ 7 (MQ below (gk_Q gk_Y Γ (some (.int ρ.1)) ρ.2) args s rm_Mo_request.cells rm_Mo_request.slots (fun q => Γ.2.2 ≤ q)) 0 0 M 55 [some (va_rf a0), some (.int x1), some (.int x2), some (.int x3), some (.int x4), some (.int x5), none] []) {a0 : Option Nat} {x1 : Int32} {x2 : Int32} {x3 : Int32} {x4 : Int32} {x5 : Int32} {M : gk_M} (h : fn_Mo_request_55_bd k55 a0 x1 x2 x3 x4 x5 M = some ρ) : Gk p l e rm_Mo_request s m args below meth c gk_Y Γ 7 (MQ below (gk_Q gk_Y Γ (some (.int ρ.1)) ρ.2) args s rm_Mo_request.cells rm_Mo_request.slots (fun q => Γ.2.2 ≤ q)) 0 0 M 55 [some (va_rf a0), some (.int x1), some (.int x2), some (.int x3), some (.int x4), some (.int x5), none] [] := by
  unfold fn_Mo_request_55_bd at h
  refine Gk_iload (x := x5) B d_Mo_request_55 rfl ?_
  refine Gk_aload_n (i := 0) (r := a0) B d_Mo_request_57 rfl rfl ?_
  obtain ⟨v58, h58, h⟩ := gk_bind h
  refine Gk_getI (j := 1) B d_Mo_request_58 in_Mo cl_Mo (by decide) tw_756 rfl h58 ?_
  refine Gk_icmp_ge (tgt := 106) B d_Mo_request_61 rfl (fun c61 => ?_) (fun c61 => ?_)
  · rw [if_pos c61] at h
    refine Gk_aload_n (i := 0) (r := a0) B d_Mo_request_106 rfl rfl ?_
    obtain ⟨v107, h107, h⟩ := gk_bind h
    refine Gk_getI (j := 1) B d_Mo_request_107 in_Mo cl_Mo (by decide) tw_756 rfl h107 ?_
    refine Gk_istore (L' := [some (va_rf a0), some (.int x1), some (.int x2), some (.int x3), some (.int x4), some (.int v107), none]) B d_Mo_request_110 (by decide) (gk_c1_i rfl) rfl ?_
    refine Gk_aload_n (i := 0) (r := a0) B d_Mo_request_112 rfl rfl ?_
    refine Gk_iconst (v := 0) B d_Mo_request_113 (by decide) ?_
    obtain ⟨M114, h114, h⟩ := gk_bind h
    refine Gk_put (j := 1) (ty := .int) B d_Mo_request_114 in_Mo t_Mo t_Mo_ok n_Mo cl_Mo (by decide) tw_756 rfl rfl rfl rfl rfl h114 ?_
    refine Gk_iload (x := x4) B d_Mo_request_117 rfl ?_
    refine Gk_if_ne (tgt := 124) B d_Mo_request_119 rfl (fun c119 => ?_) (fun c119 => ?_)
    · rw [if_neg c119] at h
      refine Gk_iconst (v := 0) B d_Mo_request_124 (by decide) ?_
      refine Gk_istore (L' := [some (va_rf a0), some (.int x1), some (.int x2), some (.int x3), some (.int x4), some (.int v107), some (.int 0)]) B d_Mo_request_125 (by decide) (gk_c1_i rfl) rfl ?_
      refine Gk_weak [true, true, true, true, false, true, true] (L' := [some (va_rf a0), some (.int x1), some (.int x2), some (.int x3), none, some (.int v107), some (.int 0)]) rfl ?_
      exact sn_Mo_request_127 B hr h
    rw [if_pos c119] at h
    refine Gk_iconst (v := (-1)) B d_Mo_request_122 (by decide) ?_
    cases h
    exact Gk_iret B hr d_Mo_request_123 rfl (by decide) (by decide) rfl
  rw [if_neg c61] at h
  refine Gk_iload (x := x4) B d_Mo_request_64 rfl ?_
  refine Gk_if_eq (tgt := 97) B d_Mo_request_66 rfl (fun c66 => ?_) (fun c66 => ?_)
  · rw [if_pos c66] at h
    refine Gk_weak [true, true, true, true, false, true, false] (L' := [some (va_rf a0), some (.int x1), some (.int x2), some (.int x3), none, some (.int x5), none]) rfl ?_
    exact sn_Mo_request_97 B hr H55 h
  rw [if_neg c66] at h
  refine Gk_aload_n (i := 0) (r := a0) B d_Mo_request_69 rfl rfl ?_
  obtain ⟨v70, h70, h⟩ := gk_bind h
  refine Gk_getR (j := 0) B d_Mo_request_70 in_Mo cl_Mo (by decide) tw_755 rfl h70 ?_
  refine Gk_iload (x := x5) B d_Mo_request_73 rfl ?_
  obtain ⟨v75, h75, h⟩ := gk_bind h
  refine Gk_caload B d_Mo_request_75 ty_1 h75 ?_
  refine Gk_bipush (v := 123) B d_Mo_request_76 (by decide) ?_
  refine Gk_icmp_eq (tgt := 97) B d_Mo_request_78 rfl (fun c78 => ?_) (fun c78 => ?_)
  · rw [if_pos c78] at h
    refine Gk_weak [true, true, true, true, false, true, false] (L' := [some (va_rf a0), some (.int x1), some (.int x2), some (.int x3), none, some (.int x5), none]) rfl ?_
    exact sn_Mo_request_97 B hr H55 h
  rw [if_neg c78] at h
  refine Gk_aload_n (i := 0) (r := a0) B d_Mo_request_81 rfl rfl ?_
  obtain ⟨v82, h82, h⟩ := gk_bind h
  refine Gk_getR (j := 0) B d_Mo_request_82 in_Mo cl_Mo (by decide) tw_755 rfl h82 ?_
  refine Gk_iload (x := x5) B d_Mo_request_85 rfl ?_
  obtain ⟨v87, h87, h⟩ := gk_bind h
  refine Gk_caload B d_Mo_request_87 ty_1 h87 ?_
  refine Gk_bipush (v := 125) B d_Mo_request_88 (by decide) ?_
  refine Gk_icmp_eq (tgt := 97) B d_Mo_request_90 rfl (fun c90 => ?_) (fun c90 => ?_)
  · rw [if_pos c90] at h
    refine Gk_weak [true, true, true, true, false, true, false] (L' := [some (va_rf a0), some (.int x1), some (.int x2), some (.int x3), none, some (.int x5), none]) rfl ?_
    exact sn_Mo_request_97 B hr H55 h
  rw [if_neg c90] at h
  refine Gk_iconst (v := 1) B d_Mo_request_93 (by decide) ?_
  refine Gk_goto (tgt := 98) B d_Mo_request_94 rfl ?_
  refine Gk_weak [true, true, true, true, false, true, false] (L' := [some (va_rf a0), some (.int x1), some (.int x2), some (.int x3), none, some (.int x5), none]) rfl ?_
  exact sn_Mo_request_98 B hr H55 h
set_option maxHeartbeats 4000000 in
set_option maxRecDepth 100000 in
theorem sn_Mo_request_55 {l : Launch} {Γ : gk_G} {p : Program} {e : Env} {s : State} {m : MethodId} {args : Array Value} {below : List Frame} {meth : Method} {c : Code} (B : gk_B p s m args meth c gk_Y Γ c_Mo_request 7 "StageDispatcherModel") (hr : meth.sig.returnType = (some .int)) {ρ : Int32 × gk_M}   {a0 : Option Nat} {x1 : Int32} {x2 : Int32} {x3 : Int32} {x4 : Int32} {x5 : Int32} {M : gk_M} (h : fn_Mo_request_55  a0 x1 x2 x3 x4 x5 M = some ρ) : Gk p l e rm_Mo_request s m args below meth c gk_Y Γ 7 (MQ below (gk_Q gk_Y Γ (some (.int ρ.1)) ρ.2) args s rm_Mo_request.cells rm_Mo_request.slots (fun q => Γ.2.2 ≤ q)) 0 0 M 55 [some (va_rf a0), some (.int x1), some (.int x2), some (.int x3), some (.int x4), some (.int x5), none] [] := by
  unfold fn_Mo_request_55 at h
  exact gk_loop_sound (α := Option Nat × Int32 × Int32 × Int32 × Int32 × Int32 × gk_M) (P := fun a => Gk p l e rm_Mo_request s m args below meth c gk_Y Γ 7 (MQ below (gk_Q gk_Y Γ (some (.int ρ.1)) ρ.2) args s rm_Mo_request.cells rm_Mo_request.slots (fun q => Γ.2.2 ≤ q)) 0 0 a.2.2.2.2.2.2 55 [some (va_rf a.1), some (.int a.2.1), some (.int a.2.2.1), some (.int a.2.2.2.1), some (.int a.2.2.2.2.1), some (.int a.2.2.2.2.2.1), none] []) (fun kk a Hk hb => sn_Mo_request_55_bd B hr (fun a0 x1 x2 x3 x4 x5 M hh => Hk (a0, x1, x2, x3, x4, x5, M) hh) hb) _ _ h
set_option maxHeartbeats 4000000 in
set_option maxRecDepth 100000 in
theorem sn_Mo_request_50 {l : Launch} {Γ : gk_G} {p : Program} {e : Env} {s : State} {m : MethodId} {args : Array Value} {below : List Frame} {meth : Method} {c : Code} (B : gk_B p s m args meth c gk_Y Γ c_Mo_request 7 "StageDispatcherModel") (hr : meth.sig.returnType = (some .int)) {ρ : Int32 × gk_M}   {a0 : Option Nat} {x1 : Int32} {x2 : Int32} {x3 : Int32} {s0 : Int32} {M : gk_M} (h : fn_Mo_request_50  a0 x1 x2 x3 s0 M = some ρ) : Gk p l e rm_Mo_request s m args below meth c gk_Y Γ 7 (MQ below (gk_Q gk_Y Γ (some (.int ρ.1)) ρ.2) args s rm_Mo_request.cells rm_Mo_request.slots (fun q => Γ.2.2 ≤ q)) 0 0 M 50 [some (va_rf a0), some (.int x1), some (.int x2), some (.int x3), none, none, none] [.int s0] := by
  unfold fn_Mo_request_50 at h
  refine Gk_istore (L' := [some (va_rf a0), some (.int x1), some (.int x2), some (.int x3), some (.int s0), none, none]) B d_Mo_request_50 (by decide) (gk_c1_i rfl) rfl ?_
  refine Gk_iconst (v := 0) B d_Mo_request_52 (by decide) ?_
  refine Gk_istore (L' := [some (va_rf a0), some (.int x1), some (.int x2), some (.int x3), some (.int s0), some (.int 0), none]) B d_Mo_request_53 (by decide) (gk_c1_i rfl) rfl ?_
  exact sn_Mo_request_55 B hr h
set_option maxHeartbeats 4000000 in
set_option maxRecDepth 100000 in
theorem sn_Mo_request_49 {l : Launch} {Γ : gk_G} {p : Program} {e : Env} {s : State} {m : MethodId} {args : Array Value} {below : List Frame} {meth : Method} {c : Code} (B : gk_B p s m args meth c gk_Y Γ c_Mo_request 7 "StageDispatcherModel") (hr : meth.sig.returnType = (some .int)) {ρ : Int32 × gk_M}   {a0 : Option Nat} {x1 : Int32} {x2 : Int32} {x3 : Int32} {M : gk_M} (h : fn_Mo_request_49  a0 x1 x2 x3 M = some ρ) : Gk p l e rm_Mo_request s m args below meth c gk_Y Γ 7 (MQ below (gk_Q gk_Y Γ (some (.int ρ.1)) ρ.2) args s rm_Mo_request.cells rm_Mo_request.slots (fun q => Γ.2.2 ≤ q)) 0 0 M 49 [some (va_rf a0), some (.int x1), some (.int x2), some (.int x3), none, none, none] [] := by
  unfold fn_Mo_request_49 at h
  refine Gk_iconst (v := 0) B d_Mo_request_49 (by decide) ?_
  exact sn_Mo_request_50 B hr h
set_option maxHeartbeats 4000000 in
set_option maxRecDepth 100000 in
theorem sn_Mo_request_45 {l : Launch} {Γ : gk_G} {p : Program} {e : Env} {s : State} {m : MethodId} {args : Array Value} {below : List Frame} {meth : Method} {c : Code} (B : gk_B p s m args meth c gk_Y Γ c_Mo_request 7 "StageDispatcherModel") (hr : meth.sig.returnType = (some .int)) {ρ : Int32 × gk_M}   {a0 : Option Nat} {x1 : Int32} {x2 : Int32} {x3 : Int32} {M : gk_M} (h : fn_Mo_request_45  a0 x1 x2 x3 M = some ρ) : Gk p l e rm_Mo_request s m args below meth c gk_Y Γ 7 (MQ below (gk_Q gk_Y Γ (some (.int ρ.1)) ρ.2) args s rm_Mo_request.cells rm_Mo_request.slots (fun q => Γ.2.2 ≤ q)) 0 0 M 45 [some (va_rf a0), some (.int x1), some (.int x2), some (.int x3), none, none, none] [] := by
  unfold fn_Mo_request_45 at h
  refine Gk_iconst (v := 1) B d_Mo_request_45 (by decide) ?_
  refine Gk_goto (tgt := 50) B d_Mo_request_46 rfl ?_
  exact sn_Mo_request_50 B hr h
set_option maxHeartbeats 4000000 in
set_option maxRecDepth 100000 in
theorem sn_Mo_request_0 {l : Launch} {Γ : gk_G} {p : Program} {e : Env} {s : State} {m : MethodId} {args : Array Value} {below : List Frame} {meth : Method} {c : Code} (B : gk_B p s m args meth c gk_Y Γ c_Mo_request 7 "StageDispatcherModel") (hr : meth.sig.returnType = (some .int)) {ρ : Int32 × gk_M}   {a0 : Option Nat} {x1 : Int32} {x2 : Int32} {x3 : Int32} {M : gk_M} (h : fn_Mo_request  a0 x1 x2 x3 M = some ρ) : Gk p l e rm_Mo_request s m args below meth c gk_Y Γ 7 (MQ below (gk_Q gk_Y Γ (some (.int ρ.1)) ρ.2) args s rm_Mo_request.cells rm_Mo_request.slots (fun q => Γ.2.2 ≤ q)) 0 0 M 0 [some (va_rf a0), some (.int x1), some (.int x2), some (.int x3), none, none, none] [] := by
  unfold fn_Mo_request at h
  refine Gk_aload_n (i := 0) (r := a0) B d_Mo_request_0 rfl rfl ?_
  obtain ⟨v1, h1, h⟩ := gk_bind h
  refine Gk_getI (j := 1) B d_Mo_request_1 in_Mo cl_Mo (by decide) tw_756 rfl h1 ?_
  refine Gk_if_le (tgt := 49) B d_Mo_request_4 rfl (fun c4 => ?_) (fun c4 => ?_)
  · rw [if_pos c4] at h
    exact sn_Mo_request_49 B hr h
  rw [if_neg c4] at h
  refine Gk_aload_n (i := 0) (r := a0) B d_Mo_request_7 rfl rfl ?_
  obtain ⟨v8, h8, h⟩ := gk_bind h
  refine Gk_getR (j := 0) B d_Mo_request_8 in_Mo cl_Mo (by decide) tw_755 rfl h8 ?_
  refine Gk_iconst (v := 0) B d_Mo_request_11 (by decide) ?_
  obtain ⟨v12, h12, h⟩ := gk_bind h
  refine Gk_caload B d_Mo_request_12 ty_1 h12 ?_
  refine Gk_bipush (v := 47) B d_Mo_request_13 (by decide) ?_
  refine Gk_icmp_ne (tgt := 49) B d_Mo_request_15 rfl (fun c15 => ?_) (fun c15 => ?_)
  · rw [if_neg c15] at h
    exact sn_Mo_request_49 B hr h
  rw [if_pos c15] at h
  refine Gk_iload_n (i := 1) (x := x1) B d_Mo_request_18 rfl rfl ?_
  refine Gk_iconst (v := 0) B d_Mo_request_19 (by decide) ?_
  refine Gk_iconst (v := 5) B d_Mo_request_20 (by decide) ?_
  obtain ⟨w21, h21, h⟩ := gk_bind h
  refine Gk_callS (As := [.int x1, .int 0, .int 5]) (rest := []) (st1 := [.int w21.1]) (k1 := 0) (n1 := 0) B gk_hG d_Mo_request_21 (sn_Mo_outside h21) tw_954 tw_952 tw_953 tw_48 nm_Mo_outside rfl (by decide) ⟨by decide, by decide⟩ ⟨by decide, by decide⟩ rfl rfl rfl rfl ?_
  refine Gk_if_ne (tgt := 49) B d_Mo_request_24 rfl (fun c24 => ?_) (fun c24 => ?_)
  · rw [if_neg c24] at h
    exact sn_Mo_request_49 B hr h
  rw [if_pos c24] at h
  refine Gk_iload_n (i := 2) (x := x2) B d_Mo_request_27 rfl rfl ?_
  refine Gk_if_eq (tgt := 45) B d_Mo_request_28 rfl (fun c28 => ?_) (fun c28 => ?_)
  · rw [if_pos c28] at h
    exact sn_Mo_request_45 B hr h
  rw [if_neg c28] at h
  refine Gk_iload_n (i := 2) (x := x2) B d_Mo_request_31 rfl rfl ?_
  obtain ⟨w32, h32, h⟩ := gk_bind h
  refine Gk_callS (As := [.int x2]) (rest := []) (st1 := [.int w32.1]) (k1 := 0) (n1 := 0) B gk_hG d_Mo_request_32 (sn_Mo_isType h32) tw_957 tw_955 tw_956 tw_48 nm_Mo_isType rfl (by decide) ⟨by decide, by decide⟩ ⟨by decide, by decide⟩ rfl rfl rfl rfl ?_
  refine Gk_if_eq (tgt := 49) B d_Mo_request_35 rfl (fun c35 => ?_) (fun c35 => ?_)
  · rw [if_pos c35] at h
    exact sn_Mo_request_49 B hr h
  rw [if_neg c35] at h
  refine Gk_iload_n (i := 2) (x := x2) B d_Mo_request_38 rfl rfl ?_
  refine Gk_bipush (v := 16) B d_Mo_request_39 (by decide) ?_
  refine Gk_irem B d_Mo_request_41 (by decide) ?_
  refine Gk_if_eq (tgt := 49) B d_Mo_request_42 rfl (fun c42 => ?_) (fun c42 => ?_)
  · rw [if_pos c42] at h
    exact sn_Mo_request_49 B hr h
  rw [if_neg c42] at h
  exact sn_Mo_request_45 B hr h
theorem sn_Mo_request {l : Launch} {Γ : gk_G} {a0 : Option Nat} {x1 : Int32} {x2 : Int32} {x3 : Int32} {M : gk_M} {ρ : Int32 × gk_M} (h : fn_Mo_request a0 x1 x2 x3 M = some ρ) : gk_Met l gk_Y Γ y_Mo_request (.code y_Mo_request c_Mo_request 7 (some .int) :: gk_Y.2.2.2) rm_Mo_request [va_rf a0, .int x1, .int x2, .int x3] M (some (.int ρ.1)) ρ.2 :=
  gk_start (by decide) (by simp [lg_sl, gk_rc, gk_ic, gk_jc]) [some (va_rf a0), some (.int x1), some (.int x2), some (.int x3), none, none, none] (by simp [gk_as, lv_args, gk_rc, gk_ic, gk_jc]) (fun p e s m args below meth c B hr hin => sn_Mo_request_0 B hr h)
theorem d_SD_invoked_0 : decode c_SD_invoked 0 = .ok (.aload_n 0, 1) := by decide +kernel
theorem d_SD_invoked_1 : decode c_SD_invoked 1 = .ok (.getfield 47, 3) := by decide +kernel
theorem d_SD_invoked_4 : decode c_SD_invoked 4 = .ok (.getfield 176, 3) := by decide +kernel
theorem d_SD_invoked_7 : decode c_SD_invoked 7 = .ok (.ireturn, 1) := by decide +kernel
set_option maxHeartbeats 4000000 in
set_option maxRecDepth 100000 in
theorem sn_SD_invoked_0 {l : Launch} {Γ : gk_G} {p : Program} {e : Env} {s : State} {m : MethodId} {args : Array Value} {below : List Frame} {meth : Method} {c : Code} (B : gk_B p s m args meth c gk_Y Γ c_SD_invoked 1 "StageDispatcher") (hr : meth.sig.returnType = (some .int)) {ρ : Int32 × gk_M}   {a0 : Option Nat} {M : gk_M} (h : fn_SD_invoked  a0 M = some ρ) : Gk p l e rm_SD_invoked s m args below meth c gk_Y Γ 1 (MQ below (gk_Q gk_Y Γ (some (.int ρ.1)) ρ.2) args s rm_SD_invoked.cells rm_SD_invoked.slots (fun q => Γ.2.2 ≤ q)) 0 0 M 0 [some (va_rf a0)] [] := by
  unfold fn_SD_invoked at h
  refine Gk_aload_n (i := 0) (r := a0) B d_SD_invoked_0 rfl rfl ?_
  obtain ⟨v1, h1, h⟩ := gk_bind h
  refine Gk_getR (j := 5) B d_SD_invoked_1 in_SD cl_SD (by decide) tw_283 rfl h1 ?_
  obtain ⟨v4, h4, h⟩ := gk_bind h
  refine Gk_getI (j := 9) B d_SD_invoked_4 in_Outcome cl_Outcome (by decide) tw_244 rfl h4 ?_
  cases h
  exact Gk_iret B hr d_SD_invoked_7 rfl (by decide) (by decide) rfl
theorem sn_SD_invoked {l : Launch} {Γ : gk_G} {a0 : Option Nat} {M : gk_M} {ρ : Int32 × gk_M} (h : fn_SD_invoked a0 M = some ρ) : gk_Met l gk_Y Γ y_SD_invoked (.code y_SD_invoked c_SD_invoked 1 (some .int) :: gk_Y.2.2.2) rm_SD_invoked [va_rf a0] M (some (.int ρ.1)) ρ.2 :=
  gk_start (by decide) (by simp [lg_sl, gk_rc, gk_ic, gk_jc]) [some (va_rf a0)] (by simp [gk_as, lv_args, gk_rc, gk_ic, gk_jc]) (fun p e s m args below meth c B hr hin => sn_SD_invoked_0 B hr h)
theorem d_Mo_invoked_0 : decode c_Mo_invoked 0 = .ok (.aload_n 0, 1) := by decide +kernel
theorem d_Mo_invoked_1 : decode c_Mo_invoked 1 = .ok (.getfield 292, 3) := by decide +kernel
theorem d_Mo_invoked_4 : decode c_Mo_invoked 4 = .ok (.ifCond .eq 10, 3) := by decide +kernel
theorem d_Mo_invoked_7 : decode c_Mo_invoked 7 = .ok (.aload_n 0, 1) := by decide +kernel
theorem d_Mo_invoked_8 : decode c_Mo_invoked 8 = .ok (.getfield 115, 3) := by decide +kernel
theorem d_Mo_invoked_11 : decode c_Mo_invoked 11 = .ok (.goto 4, 3) := by decide +kernel
theorem d_Mo_invoked_14 : decode c_Mo_invoked 14 = .ok (.iconst (-1), 1) := by decide +kernel
theorem d_Mo_invoked_15 : decode c_Mo_invoked 15 = .ok (.ireturn, 1) := by decide +kernel
set_option maxHeartbeats 4000000 in
set_option maxRecDepth 100000 in
theorem sn_Mo_invoked_0 {l : Launch} {Γ : gk_G} {p : Program} {e : Env} {s : State} {m : MethodId} {args : Array Value} {below : List Frame} {meth : Method} {c : Code} (B : gk_B p s m args meth c gk_Y Γ c_Mo_invoked 1 "StageDispatcherModel") (hr : meth.sig.returnType = (some .int)) {ρ : Int32 × gk_M}   {a0 : Option Nat} {M : gk_M} (h : fn_Mo_invoked  a0 M = some ρ) : Gk p l e rm_Mo_invoked s m args below meth c gk_Y Γ 1 (MQ below (gk_Q gk_Y Γ (some (.int ρ.1)) ρ.2) args s rm_Mo_invoked.cells rm_Mo_invoked.slots (fun q => Γ.2.2 ≤ q)) 0 0 M 0 [some (va_rf a0)] [] := by
  unfold fn_Mo_invoked at h
  refine Gk_aload_n (i := 0) (r := a0) B d_Mo_invoked_0 rfl rfl ?_
  obtain ⟨v1, h1, h⟩ := gk_bind h
  refine Gk_getI (j := 36) B d_Mo_invoked_1 in_Mo cl_Mo (by decide) tw_791 rfl h1 ?_
  refine Gk_if_eq (tgt := 14) B d_Mo_invoked_4 rfl (fun c4 => ?_) (fun c4 => ?_)
  · rw [if_pos c4] at h
    refine Gk_iconst (v := (-1)) B d_Mo_invoked_14 (by decide) ?_
    cases h
    exact Gk_iret B hr d_Mo_invoked_15 rfl (by decide) (by decide) rfl
  rw [if_neg c4] at h
  refine Gk_aload_n (i := 0) (r := a0) B d_Mo_invoked_7 rfl rfl ?_
  obtain ⟨v8, h8, h⟩ := gk_bind h
  refine Gk_getI (j := 35) B d_Mo_invoked_8 in_Mo cl_Mo (by decide) tw_790 rfl h8 ?_
  refine Gk_goto (tgt := 15) B d_Mo_invoked_11 rfl ?_
  cases h
  exact Gk_iret B hr d_Mo_invoked_15 rfl (by decide) (by decide) rfl
theorem sn_Mo_invoked {l : Launch} {Γ : gk_G} {a0 : Option Nat} {M : gk_M} {ρ : Int32 × gk_M} (h : fn_Mo_invoked a0 M = some ρ) : gk_Met l gk_Y Γ y_Mo_invoked (.code y_Mo_invoked c_Mo_invoked 1 (some .int) :: gk_Y.2.2.2) rm_Mo_invoked [va_rf a0] M (some (.int ρ.1)) ρ.2 :=
  gk_start (by decide) (by simp [lg_sl, gk_rc, gk_ic, gk_jc]) [some (va_rf a0)] (by simp [gk_as, lv_args, gk_rc, gk_ic, gk_jc]) (fun p e s m args below meth c B hr hin => sn_Mo_invoked_0 B hr h)
theorem d_SD_argument_0 : decode c_SD_argument 0 = .ok (.aload_n 0, 1) := by decide +kernel
theorem d_SD_argument_1 : decode c_SD_argument 1 = .ok (.getfield 47, 3) := by decide +kernel
theorem d_SD_argument_4 : decode c_SD_argument 4 = .ok (.getfield 179, 3) := by decide +kernel
theorem d_SD_argument_7 : decode c_SD_argument 7 = .ok (.ireturn, 1) := by decide +kernel
set_option maxHeartbeats 4000000 in
set_option maxRecDepth 100000 in
theorem sn_SD_argument_0 {l : Launch} {Γ : gk_G} {p : Program} {e : Env} {s : State} {m : MethodId} {args : Array Value} {below : List Frame} {meth : Method} {c : Code} (B : gk_B p s m args meth c gk_Y Γ c_SD_argument 1 "StageDispatcher") (hr : meth.sig.returnType = (some .int)) {ρ : Int32 × gk_M}   {a0 : Option Nat} {M : gk_M} (h : fn_SD_argument  a0 M = some ρ) : Gk p l e rm_SD_argument s m args below meth c gk_Y Γ 1 (MQ below (gk_Q gk_Y Γ (some (.int ρ.1)) ρ.2) args s rm_SD_argument.cells rm_SD_argument.slots (fun q => Γ.2.2 ≤ q)) 0 0 M 0 [some (va_rf a0)] [] := by
  unfold fn_SD_argument at h
  refine Gk_aload_n (i := 0) (r := a0) B d_SD_argument_0 rfl rfl ?_
  obtain ⟨v1, h1, h⟩ := gk_bind h
  refine Gk_getR (j := 5) B d_SD_argument_1 in_SD cl_SD (by decide) tw_283 rfl h1 ?_
  obtain ⟨v4, h4, h⟩ := gk_bind h
  refine Gk_getI (j := 10) B d_SD_argument_4 in_Outcome cl_Outcome (by decide) tw_246 rfl h4 ?_
  cases h
  exact Gk_iret B hr d_SD_argument_7 rfl (by decide) (by decide) rfl
theorem sn_SD_argument {l : Launch} {Γ : gk_G} {a0 : Option Nat} {M : gk_M} {ρ : Int32 × gk_M} (h : fn_SD_argument a0 M = some ρ) : gk_Met l gk_Y Γ y_SD_argument (.code y_SD_argument c_SD_argument 1 (some .int) :: gk_Y.2.2.2) rm_SD_argument [va_rf a0] M (some (.int ρ.1)) ρ.2 :=
  gk_start (by decide) (by simp [lg_sl, gk_rc, gk_ic, gk_jc]) [some (va_rf a0)] (by simp [gk_as, lv_args, gk_rc, gk_ic, gk_jc]) (fun p e s m args below meth c B hr hin => sn_SD_argument_0 B hr h)
theorem d_Mo_argument_0 : decode c_Mo_argument 0 = .ok (.aload_n 0, 1) := by decide +kernel
theorem d_Mo_argument_1 : decode c_Mo_argument 1 = .ok (.getfield 292, 3) := by decide +kernel
theorem d_Mo_argument_4 : decode c_Mo_argument 4 = .ok (.ifCond .eq 10, 3) := by decide +kernel
theorem d_Mo_argument_7 : decode c_Mo_argument 7 = .ok (.aload_n 0, 1) := by decide +kernel
theorem d_Mo_argument_8 : decode c_Mo_argument 8 = .ok (.getfield 295, 3) := by decide +kernel
theorem d_Mo_argument_11 : decode c_Mo_argument 11 = .ok (.goto 4, 3) := by decide +kernel
theorem d_Mo_argument_14 : decode c_Mo_argument 14 = .ok (.iconst 0, 1) := by decide +kernel
theorem d_Mo_argument_15 : decode c_Mo_argument 15 = .ok (.ireturn, 1) := by decide +kernel
set_option maxHeartbeats 4000000 in
set_option maxRecDepth 100000 in
theorem sn_Mo_argument_0 {l : Launch} {Γ : gk_G} {p : Program} {e : Env} {s : State} {m : MethodId} {args : Array Value} {below : List Frame} {meth : Method} {c : Code} (B : gk_B p s m args meth c gk_Y Γ c_Mo_argument 1 "StageDispatcherModel") (hr : meth.sig.returnType = (some .int)) {ρ : Int32 × gk_M}   {a0 : Option Nat} {M : gk_M} (h : fn_Mo_argument  a0 M = some ρ) : Gk p l e rm_Mo_argument s m args below meth c gk_Y Γ 1 (MQ below (gk_Q gk_Y Γ (some (.int ρ.1)) ρ.2) args s rm_Mo_argument.cells rm_Mo_argument.slots (fun q => Γ.2.2 ≤ q)) 0 0 M 0 [some (va_rf a0)] [] := by
  unfold fn_Mo_argument at h
  refine Gk_aload_n (i := 0) (r := a0) B d_Mo_argument_0 rfl rfl ?_
  obtain ⟨v1, h1, h⟩ := gk_bind h
  refine Gk_getI (j := 36) B d_Mo_argument_1 in_Mo cl_Mo (by decide) tw_791 rfl h1 ?_
  refine Gk_if_eq (tgt := 14) B d_Mo_argument_4 rfl (fun c4 => ?_) (fun c4 => ?_)
  · rw [if_pos c4] at h
    refine Gk_iconst (v := 0) B d_Mo_argument_14 (by decide) ?_
    cases h
    exact Gk_iret B hr d_Mo_argument_15 rfl (by decide) (by decide) rfl
  rw [if_neg c4] at h
  refine Gk_aload_n (i := 0) (r := a0) B d_Mo_argument_7 rfl rfl ?_
  obtain ⟨v8, h8, h⟩ := gk_bind h
  refine Gk_getI (j := 37) B d_Mo_argument_8 in_Mo cl_Mo (by decide) tw_792 rfl h8 ?_
  refine Gk_goto (tgt := 15) B d_Mo_argument_11 rfl ?_
  cases h
  exact Gk_iret B hr d_Mo_argument_15 rfl (by decide) (by decide) rfl
theorem sn_Mo_argument {l : Launch} {Γ : gk_G} {a0 : Option Nat} {M : gk_M} {ρ : Int32 × gk_M} (h : fn_Mo_argument a0 M = some ρ) : gk_Met l gk_Y Γ y_Mo_argument (.code y_Mo_argument c_Mo_argument 1 (some .int) :: gk_Y.2.2.2) rm_Mo_argument [va_rf a0] M (some (.int ρ.1)) ρ.2 :=
  gk_start (by decide) (by simp [lg_sl, gk_rc, gk_ic, gk_jc]) [some (va_rf a0)] (by simp [gk_as, lv_args, gk_rc, gk_ic, gk_jc]) (fun p e s m args below meth c B hr hin => sn_Mo_argument_0 B hr h)
theorem d_SD_hop_0 : decode c_SD_hop 0 = .ok (.iload_n 1, 1) := by decide +kernel
theorem d_SD_hop_1 : decode c_SD_hop 1 = .ok (.iconst 0, 1) := by decide +kernel
theorem d_SD_hop_2 : decode c_SD_hop 2 = .ok (.aload_n 0, 1) := by decide +kernel
theorem d_SD_hop_3 : decode c_SD_hop 3 = .ok (.getfield 47, 3) := by decide +kernel
theorem d_SD_hop_6 : decode c_SD_hop 6 = .ok (.getfield 182, 3) := by decide +kernel
theorem d_SD_hop_9 : decode c_SD_hop 9 = .ok (.iconst 1, 1) := by decide +kernel
theorem d_SD_hop_10 : decode c_SD_hop 10 = .ok (.isub, 1) := by decide +kernel
theorem d_SD_hop_11 : decode c_SD_hop 11 = .ok (.invokestatic 95, 3) := by decide +kernel
theorem d_SD_hop_14 : decode c_SD_hop 14 = .ok (.ifCond .eq 15, 3) := by decide +kernel
theorem d_SD_hop_17 : decode c_SD_hop 17 = .ok (.aload_n 0, 1) := by decide +kernel
theorem d_SD_hop_18 : decode c_SD_hop 18 = .ok (.getfield 47, 3) := by decide +kernel
theorem d_SD_hop_21 : decode c_SD_hop 21 = .ok (.getfield 185, 3) := by decide +kernel
theorem d_SD_hop_24 : decode c_SD_hop 24 = .ok (.iload_n 1, 1) := by decide +kernel
theorem d_SD_hop_25 : decode c_SD_hop 25 = .ok (.iaload, 1) := by decide +kernel
theorem d_SD_hop_26 : decode c_SD_hop 26 = .ok (.goto 4, 3) := by decide +kernel
theorem d_SD_hop_29 : decode c_SD_hop 29 = .ok (.iconst (-1), 1) := by decide +kernel
theorem d_SD_hop_30 : decode c_SD_hop 30 = .ok (.ireturn, 1) := by decide +kernel
set_option maxHeartbeats 4000000 in
set_option maxRecDepth 100000 in
theorem sn_SD_hop_0 {l : Launch} {Γ : gk_G} {p : Program} {e : Env} {s : State} {m : MethodId} {args : Array Value} {below : List Frame} {meth : Method} {c : Code} (B : gk_B p s m args meth c gk_Y Γ c_SD_hop 2 "StageDispatcher") (hr : meth.sig.returnType = (some .int)) {ρ : Int32 × gk_M}   {a0 : Option Nat} {x1 : Int32} {M : gk_M} (h : fn_SD_hop  a0 x1 M = some ρ) : Gk p l e rm_SD_hop s m args below meth c gk_Y Γ 2 (MQ below (gk_Q gk_Y Γ (some (.int ρ.1)) ρ.2) args s rm_SD_hop.cells rm_SD_hop.slots (fun q => Γ.2.2 ≤ q)) 0 0 M 0 [some (va_rf a0), some (.int x1)] [] := by
  unfold fn_SD_hop at h
  refine Gk_iload_n (i := 1) (x := x1) B d_SD_hop_0 rfl rfl ?_
  refine Gk_iconst (v := 0) B d_SD_hop_1 (by decide) ?_
  refine Gk_aload_n (i := 0) (r := a0) B d_SD_hop_2 rfl rfl ?_
  obtain ⟨v3, h3, h⟩ := gk_bind h
  refine Gk_getR (j := 5) B d_SD_hop_3 in_SD cl_SD (by decide) tw_283 rfl h3 ?_
  obtain ⟨v6, h6, h⟩ := gk_bind h
  refine Gk_getI (j := 5) B d_SD_hop_6 in_Outcome cl_Outcome (by decide) tw_236 rfl h6 ?_
  refine Gk_iconst (v := 1) B d_SD_hop_9 (by decide) ?_
  refine Gk_isub B d_SD_hop_10 ?_
  obtain ⟨w11, h11, h⟩ := gk_bind h
  refine Gk_callS (As := [.int x1, .int 0, .int (v6 - (1 : Int32))]) (rest := []) (st1 := [.int w11.1]) (k1 := 0) (n1 := 0) B gk_hG d_SD_hop_11 (sn_SD_isWithin h11) tw_373 tw_377 tw_372 tw_40 nm_SD_isWithin rfl (by decide) ⟨by decide, by decide⟩ ⟨by decide, by decide⟩ rfl rfl rfl rfl ?_
  refine Gk_if_eq (tgt := 29) B d_SD_hop_14 rfl (fun c14 => ?_) (fun c14 => ?_)
  · rw [if_pos c14] at h
    refine Gk_iconst (v := (-1)) B d_SD_hop_29 (by decide) ?_
    cases h
    exact Gk_iret B hr d_SD_hop_30 rfl (by decide) (by decide) rfl
  rw [if_neg c14] at h
  refine Gk_aload_n (i := 0) (r := a0) B d_SD_hop_17 rfl rfl ?_
  obtain ⟨v18, h18, h⟩ := gk_bind h
  refine Gk_getR (j := 5) B d_SD_hop_18 in_SD cl_SD (by decide) tw_283 rfl h18 ?_
  obtain ⟨v21, h21, h⟩ := gk_bind h
  refine Gk_getR (j := 1) B d_SD_hop_21 in_Outcome cl_Outcome (by decide) tw_228 rfl h21 ?_
  refine Gk_iload_n (i := 1) (x := x1) B d_SD_hop_24 rfl rfl ?_
  obtain ⟨v25, h25, h⟩ := gk_bind h
  refine Gk_iaload B d_SD_hop_25 ty_0 h25 ?_
  refine Gk_goto (tgt := 30) B d_SD_hop_26 rfl ?_
  cases h
  exact Gk_iret B hr d_SD_hop_30 rfl (by decide) (by decide) rfl
theorem sn_SD_hop {l : Launch} {Γ : gk_G} {a0 : Option Nat} {x1 : Int32} {M : gk_M} {ρ : Int32 × gk_M} (h : fn_SD_hop a0 x1 M = some ρ) : gk_Met l gk_Y Γ y_SD_hop (.code y_SD_hop c_SD_hop 2 (some .int) :: gk_Y.2.2.2) rm_SD_hop [va_rf a0, .int x1] M (some (.int ρ.1)) ρ.2 :=
  gk_start (by decide) (by simp [lg_sl, gk_rc, gk_ic, gk_jc]) [some (va_rf a0), some (.int x1)] (by simp [gk_as, lv_args, gk_rc, gk_ic, gk_jc]) (fun p e s m args below meth c B hr hin => sn_SD_hop_0 B hr h)
theorem d_Mo_hop_0 : decode c_Mo_hop 0 = .ok (.iload_n 1, 1) := by decide +kernel
theorem d_Mo_hop_1 : decode c_Mo_hop 1 = .ok (.iconst 0, 1) := by decide +kernel
theorem d_Mo_hop_2 : decode c_Mo_hop 2 = .ok (.aload_n 0, 1) := by decide +kernel
theorem d_Mo_hop_3 : decode c_Mo_hop 3 = .ok (.getfield 209, 3) := by decide +kernel
theorem d_Mo_hop_6 : decode c_Mo_hop 6 = .ok (.iconst 1, 1) := by decide +kernel
theorem d_Mo_hop_7 : decode c_Mo_hop 7 = .ok (.isub, 1) := by decide +kernel
theorem d_Mo_hop_8 : decode c_Mo_hop 8 = .ok (.invokestatic 167, 3) := by decide +kernel
theorem d_Mo_hop_11 : decode c_Mo_hop 11 = .ok (.ifCond .eq 7, 3) := by decide +kernel
theorem d_Mo_hop_14 : decode c_Mo_hop 14 = .ok (.iconst (-1), 1) := by decide +kernel
theorem d_Mo_hop_15 : decode c_Mo_hop 15 = .ok (.goto 9, 3) := by decide +kernel
theorem d_Mo_hop_18 : decode c_Mo_hop 18 = .ok (.aload_n 0, 1) := by decide +kernel
theorem d_Mo_hop_19 : decode c_Mo_hop 19 = .ok (.getfield 81, 3) := by decide +kernel
theorem d_Mo_hop_22 : decode c_Mo_hop 22 = .ok (.iload_n 1, 1) := by decide +kernel
theorem d_Mo_hop_23 : decode c_Mo_hop 23 = .ok (.iaload, 1) := by decide +kernel
theorem d_Mo_hop_24 : decode c_Mo_hop 24 = .ok (.ireturn, 1) := by decide +kernel
set_option maxHeartbeats 4000000 in
set_option maxRecDepth 100000 in
theorem sn_Mo_hop_0 {l : Launch} {Γ : gk_G} {p : Program} {e : Env} {s : State} {m : MethodId} {args : Array Value} {below : List Frame} {meth : Method} {c : Code} (B : gk_B p s m args meth c gk_Y Γ c_Mo_hop 2 "StageDispatcherModel") (hr : meth.sig.returnType = (some .int)) {ρ : Int32 × gk_M}   {a0 : Option Nat} {x1 : Int32} {M : gk_M} (h : fn_Mo_hop  a0 x1 M = some ρ) : Gk p l e rm_Mo_hop s m args below meth c gk_Y Γ 2 (MQ below (gk_Q gk_Y Γ (some (.int ρ.1)) ρ.2) args s rm_Mo_hop.cells rm_Mo_hop.slots (fun q => Γ.2.2 ≤ q)) 0 0 M 0 [some (va_rf a0), some (.int x1)] [] := by
  unfold fn_Mo_hop at h
  refine Gk_iload_n (i := 1) (x := x1) B d_Mo_hop_0 rfl rfl ?_
  refine Gk_iconst (v := 0) B d_Mo_hop_1 (by decide) ?_
  refine Gk_aload_n (i := 0) (r := a0) B d_Mo_hop_2 rfl rfl ?_
  obtain ⟨v3, h3, h⟩ := gk_bind h
  refine Gk_getI (j := 40) B d_Mo_hop_3 in_Mo cl_Mo (by decide) tw_795 rfl h3 ?_
  refine Gk_iconst (v := 1) B d_Mo_hop_6 (by decide) ?_
  refine Gk_isub B d_Mo_hop_7 ?_
  obtain ⟨w8, h8, h⟩ := gk_bind h
  refine Gk_callS (As := [.int x1, .int 0, .int (v3 - (1 : Int32))]) (rest := []) (st1 := [.int w8.1]) (k1 := 0) (n1 := 0) B gk_hG d_Mo_hop_8 (sn_Mo_outside h8) tw_954 tw_952 tw_953 tw_48 nm_Mo_outside rfl (by decide) ⟨by decide, by decide⟩ ⟨by decide, by decide⟩ rfl rfl rfl rfl ?_
  refine Gk_if_eq (tgt := 18) B d_Mo_hop_11 rfl (fun c11 => ?_) (fun c11 => ?_)
  · rw [if_pos c11] at h
    refine Gk_aload_n (i := 0) (r := a0) B d_Mo_hop_18 rfl rfl ?_
    obtain ⟨v19, h19, h⟩ := gk_bind h
    refine Gk_getR (j := 41) B d_Mo_hop_19 in_Mo cl_Mo (by decide) tw_796 rfl h19 ?_
    refine Gk_iload_n (i := 1) (x := x1) B d_Mo_hop_22 rfl rfl ?_
    obtain ⟨v23, h23, h⟩ := gk_bind h
    refine Gk_iaload B d_Mo_hop_23 ty_0 h23 ?_
    cases h
    exact Gk_iret B hr d_Mo_hop_24 rfl (by decide) (by decide) rfl
  rw [if_neg c11] at h
  refine Gk_iconst (v := (-1)) B d_Mo_hop_14 (by decide) ?_
  refine Gk_goto (tgt := 24) B d_Mo_hop_15 rfl ?_
  cases h
  exact Gk_iret B hr d_Mo_hop_24 rfl (by decide) (by decide) rfl
theorem sn_Mo_hop {l : Launch} {Γ : gk_G} {a0 : Option Nat} {x1 : Int32} {M : gk_M} {ρ : Int32 × gk_M} (h : fn_Mo_hop a0 x1 M = some ρ) : gk_Met l gk_Y Γ y_Mo_hop (.code y_Mo_hop c_Mo_hop 2 (some .int) :: gk_Y.2.2.2) rm_Mo_hop [va_rf a0, .int x1] M (some (.int ρ.1)) ρ.2 :=
  gk_start (by decide) (by simp [lg_sl, gk_rc, gk_ic, gk_jc]) [some (va_rf a0), some (.int x1)] (by simp [gk_as, lv_args, gk_rc, gk_ic, gk_jc]) (fun p e s m args below meth c B hr hin => sn_Mo_hop_0 B hr h)
theorem d_SD_parameter_0 : decode c_SD_parameter 0 = .ok (.iload_n 1, 1) := by decide +kernel
theorem d_SD_parameter_1 : decode c_SD_parameter 1 = .ok (.iconst 0, 1) := by decide +kernel
theorem d_SD_parameter_2 : decode c_SD_parameter 2 = .ok (.aload_n 0, 1) := by decide +kernel
theorem d_SD_parameter_3 : decode c_SD_parameter 3 = .ok (.getfield 47, 3) := by decide +kernel
theorem d_SD_parameter_6 : decode c_SD_parameter 6 = .ok (.getfield 188, 3) := by decide +kernel
theorem d_SD_parameter_9 : decode c_SD_parameter 9 = .ok (.iconst 1, 1) := by decide +kernel
theorem d_SD_parameter_10 : decode c_SD_parameter 10 = .ok (.isub, 1) := by decide +kernel
theorem d_SD_parameter_11 : decode c_SD_parameter 11 = .ok (.invokestatic 95, 3) := by decide +kernel
theorem d_SD_parameter_14 : decode c_SD_parameter 14 = .ok (.ifCond .ne 5, 3) := by decide +kernel
theorem d_SD_parameter_17 : decode c_SD_parameter 17 = .ok (.iconst (-1), 1) := by decide +kernel
theorem d_SD_parameter_18 : decode c_SD_parameter 18 = .ok (.ireturn, 1) := by decide +kernel
theorem d_SD_parameter_19 : decode c_SD_parameter 19 = .ok (.aload_n 0, 1) := by decide +kernel
theorem d_SD_parameter_20 : decode c_SD_parameter 20 = .ok (.getfield 47, 3) := by decide +kernel
theorem d_SD_parameter_23 : decode c_SD_parameter 23 = .ok (.getfield 191, 3) := by decide +kernel
theorem d_SD_parameter_26 : decode c_SD_parameter 26 = .ok (.iload_n 1, 1) := by decide +kernel
theorem d_SD_parameter_27 : decode c_SD_parameter 27 = .ok (.iaload, 1) := by decide +kernel
theorem d_SD_parameter_28 : decode c_SD_parameter 28 = .ok (.istore_n 3, 1) := by decide +kernel
theorem d_SD_parameter_29 : decode c_SD_parameter 29 = .ok (.aload_n 0, 1) := by decide +kernel
theorem d_SD_parameter_30 : decode c_SD_parameter 30 = .ok (.getfield 47, 3) := by decide +kernel
theorem d_SD_parameter_33 : decode c_SD_parameter 33 = .ok (.getfield 194, 3) := by decide +kernel
theorem d_SD_parameter_36 : decode c_SD_parameter 36 = .ok (.iload_n 1, 1) := by decide +kernel
theorem d_SD_parameter_37 : decode c_SD_parameter 37 = .ok (.iaload, 1) := by decide +kernel
theorem d_SD_parameter_38 : decode c_SD_parameter 38 = .ok (.iload_n 3, 1) := by decide +kernel
theorem d_SD_parameter_39 : decode c_SD_parameter 39 = .ok (.isub, 1) := by decide +kernel
theorem d_SD_parameter_40 : decode c_SD_parameter 40 = .ok (.istore 4, 2) := by decide +kernel
theorem d_SD_parameter_42 : decode c_SD_parameter 42 = .ok (.iload_n 2, 1) := by decide +kernel
theorem d_SD_parameter_43 : decode c_SD_parameter 43 = .ok (.iconst (-1), 1) := by decide +kernel
theorem d_SD_parameter_44 : decode c_SD_parameter 44 = .ok (.if_icmp .ne 6, 3) := by decide +kernel
theorem d_SD_parameter_47 : decode c_SD_parameter 47 = .ok (.iload 4, 2) := by decide +kernel
theorem d_SD_parameter_49 : decode c_SD_parameter 49 = .ok (.ireturn, 1) := by decide +kernel
theorem d_SD_parameter_50 : decode c_SD_parameter 50 = .ok (.iload_n 2, 1) := by decide +kernel
theorem d_SD_parameter_51 : decode c_SD_parameter 51 = .ok (.iconst 0, 1) := by decide +kernel
theorem d_SD_parameter_52 : decode c_SD_parameter 52 = .ok (.iload 4, 2) := by decide +kernel
theorem d_SD_parameter_54 : decode c_SD_parameter 54 = .ok (.iconst 1, 1) := by decide +kernel
theorem d_SD_parameter_55 : decode c_SD_parameter 55 = .ok (.isub, 1) := by decide +kernel
theorem d_SD_parameter_56 : decode c_SD_parameter 56 = .ok (.invokestatic 95, 3) := by decide +kernel
theorem d_SD_parameter_59 : decode c_SD_parameter 59 = .ok (.ifCond .eq 20, 3) := by decide +kernel
theorem d_SD_parameter_62 : decode c_SD_parameter 62 = .ok (.aload_n 0, 1) := by decide +kernel
theorem d_SD_parameter_63 : decode c_SD_parameter 63 = .ok (.getfield 47, 3) := by decide +kernel
theorem d_SD_parameter_66 : decode c_SD_parameter 66 = .ok (.getfield 197, 3) := by decide +kernel
theorem d_SD_parameter_69 : decode c_SD_parameter 69 = .ok (.getfield 200, 3) := by decide +kernel
theorem d_SD_parameter_72 : decode c_SD_parameter 72 = .ok (.iload_n 3, 1) := by decide +kernel
theorem d_SD_parameter_73 : decode c_SD_parameter 73 = .ok (.iload_n 2, 1) := by decide +kernel
theorem d_SD_parameter_74 : decode c_SD_parameter 74 = .ok (.iadd, 1) := by decide +kernel
theorem d_SD_parameter_75 : decode c_SD_parameter 75 = .ok (.caload, 1) := by decide +kernel
theorem d_SD_parameter_76 : decode c_SD_parameter 76 = .ok (.goto 4, 3) := by decide +kernel
theorem d_SD_parameter_79 : decode c_SD_parameter 79 = .ok (.iconst (-1), 1) := by decide +kernel
theorem d_SD_parameter_80 : decode c_SD_parameter 80 = .ok (.ireturn, 1) := by decide +kernel
set_option maxHeartbeats 4000000 in
set_option maxRecDepth 100000 in
theorem sn_SD_parameter_0 {l : Launch} {Γ : gk_G} {p : Program} {e : Env} {s : State} {m : MethodId} {args : Array Value} {below : List Frame} {meth : Method} {c : Code} (B : gk_B p s m args meth c gk_Y Γ c_SD_parameter 5 "StageDispatcher") (hr : meth.sig.returnType = (some .int)) {ρ : Int32 × gk_M}   {a0 : Option Nat} {x1 : Int32} {x2 : Int32} {M : gk_M} (h : fn_SD_parameter  a0 x1 x2 M = some ρ) : Gk p l e rm_SD_parameter s m args below meth c gk_Y Γ 5 (MQ below (gk_Q gk_Y Γ (some (.int ρ.1)) ρ.2) args s rm_SD_parameter.cells rm_SD_parameter.slots (fun q => Γ.2.2 ≤ q)) 0 0 M 0 [some (va_rf a0), some (.int x1), some (.int x2), none, none] [] := by
  unfold fn_SD_parameter at h
  refine Gk_iload_n (i := 1) (x := x1) B d_SD_parameter_0 rfl rfl ?_
  refine Gk_iconst (v := 0) B d_SD_parameter_1 (by decide) ?_
  refine Gk_aload_n (i := 0) (r := a0) B d_SD_parameter_2 rfl rfl ?_
  obtain ⟨v3, h3, h⟩ := gk_bind h
  refine Gk_getR (j := 5) B d_SD_parameter_3 in_SD cl_SD (by decide) tw_283 rfl h3 ?_
  obtain ⟨v6, h6, h⟩ := gk_bind h
  refine Gk_getI (j := 6) B d_SD_parameter_6 in_Outcome cl_Outcome (by decide) tw_238 rfl h6 ?_
  refine Gk_iconst (v := 1) B d_SD_parameter_9 (by decide) ?_
  refine Gk_isub B d_SD_parameter_10 ?_
  obtain ⟨w11, h11, h⟩ := gk_bind h
  refine Gk_callS (As := [.int x1, .int 0, .int (v6 - (1 : Int32))]) (rest := []) (st1 := [.int w11.1]) (k1 := 0) (n1 := 0) B gk_hG d_SD_parameter_11 (sn_SD_isWithin h11) tw_373 tw_377 tw_372 tw_40 nm_SD_isWithin rfl (by decide) ⟨by decide, by decide⟩ ⟨by decide, by decide⟩ rfl rfl rfl rfl ?_
  refine Gk_if_ne (tgt := 19) B d_SD_parameter_14 rfl (fun c14 => ?_) (fun c14 => ?_)
  · rw [if_neg c14] at h
    refine Gk_aload_n (i := 0) (r := a0) B d_SD_parameter_19 rfl rfl ?_
    obtain ⟨v20, h20, h⟩ := gk_bind h
    refine Gk_getR (j := 5) B d_SD_parameter_20 in_SD cl_SD (by decide) tw_283 rfl h20 ?_
    obtain ⟨v23, h23, h⟩ := gk_bind h
    refine Gk_getR (j := 2) B d_SD_parameter_23 in_Outcome cl_Outcome (by decide) tw_230 rfl h23 ?_
    refine Gk_iload_n (i := 1) (x := x1) B d_SD_parameter_26 rfl rfl ?_
    obtain ⟨v27, h27, h⟩ := gk_bind h
    refine Gk_iaload B d_SD_parameter_27 ty_0 h27 ?_
    refine Gk_istore_n (i := 3) (L' := [some (va_rf a0), some (.int x1), some (.int x2), some (.int v27), none]) B d_SD_parameter_28 rfl (by decide) (gk_c1_i rfl) rfl ?_
    refine Gk_aload_n (i := 0) (r := a0) B d_SD_parameter_29 rfl rfl ?_
    obtain ⟨v30, h30, h⟩ := gk_bind h
    refine Gk_getR (j := 5) B d_SD_parameter_30 in_SD cl_SD (by decide) tw_283 rfl h30 ?_
    obtain ⟨v33, h33, h⟩ := gk_bind h
    refine Gk_getR (j := 3) B d_SD_parameter_33 in_Outcome cl_Outcome (by decide) tw_232 rfl h33 ?_
    refine Gk_iload_n (i := 1) (x := x1) B d_SD_parameter_36 rfl rfl ?_
    obtain ⟨v37, h37, h⟩ := gk_bind h
    refine Gk_iaload B d_SD_parameter_37 ty_0 h37 ?_
    refine Gk_iload_n (i := 3) (x := v27) B d_SD_parameter_38 rfl rfl ?_
    refine Gk_isub B d_SD_parameter_39 ?_
    refine Gk_istore (L' := [some (va_rf a0), some (.int x1), some (.int x2), some (.int v27), some (.int (v37 - v27))]) B d_SD_parameter_40 (by decide) (gk_c1_i rfl) rfl ?_
    refine Gk_iload_n (i := 2) (x := x2) B d_SD_parameter_42 rfl rfl ?_
    refine Gk_iconst (v := (-1)) B d_SD_parameter_43 (by decide) ?_
    refine Gk_icmp_ne (tgt := 50) B d_SD_parameter_44 rfl (fun c44 => ?_) (fun c44 => ?_)
    · rw [if_neg c44] at h
      refine Gk_iload_n (i := 2) (x := x2) B d_SD_parameter_50 rfl rfl ?_
      refine Gk_iconst (v := 0) B d_SD_parameter_51 (by decide) ?_
      refine Gk_iload (x := (v37 - v27)) B d_SD_parameter_52 rfl ?_
      refine Gk_iconst (v := 1) B d_SD_parameter_54 (by decide) ?_
      refine Gk_isub B d_SD_parameter_55 ?_
      obtain ⟨w56, h56, h⟩ := gk_bind h
      refine Gk_callS (As := [.int x2, .int 0, .int ((v37 - v27) - (1 : Int32))]) (rest := []) (st1 := [.int w56.1]) (k1 := 0) (n1 := 0) B gk_hG d_SD_parameter_56 (sn_SD_isWithin h56) tw_373 tw_377 tw_372 tw_40 nm_SD_isWithin rfl (by decide) ⟨by decide, by decide⟩ ⟨by decide, by decide⟩ rfl rfl rfl rfl ?_
      refine Gk_if_eq (tgt := 79) B d_SD_parameter_59 rfl (fun c59 => ?_) (fun c59 => ?_)
      · rw [if_pos c59] at h
        refine Gk_iconst (v := (-1)) B d_SD_parameter_79 (by decide) ?_
        cases h
        exact Gk_iret B hr d_SD_parameter_80 rfl (by decide) (by decide) rfl
      rw [if_neg c59] at h
      refine Gk_aload_n (i := 0) (r := a0) B d_SD_parameter_62 rfl rfl ?_
      obtain ⟨v63, h63, h⟩ := gk_bind h
      refine Gk_getR (j := 5) B d_SD_parameter_63 in_SD cl_SD (by decide) tw_283 rfl h63 ?_
      obtain ⟨v66, h66, h⟩ := gk_bind h
      refine Gk_getR (j := 0) B d_SD_parameter_66 in_Outcome cl_Outcome (by decide) tw_226 rfl h66 ?_
      obtain ⟨v69, h69, h⟩ := gk_bind h
      refine Gk_getR (j := 0) B d_SD_parameter_69 in_Text cl_Text (by decide) tw_74 rfl h69 ?_
      refine Gk_iload_n (i := 3) (x := v27) B d_SD_parameter_72 rfl rfl ?_
      refine Gk_iload_n (i := 2) (x := x2) B d_SD_parameter_73 rfl rfl ?_
      refine Gk_iadd B d_SD_parameter_74 ?_
      obtain ⟨v75, h75, h⟩ := gk_bind h
      refine Gk_caload B d_SD_parameter_75 ty_1 h75 ?_
      refine Gk_goto (tgt := 80) B d_SD_parameter_76 rfl ?_
      cases h
      exact Gk_iret B hr d_SD_parameter_80 rfl (by decide) (by decide) rfl
    rw [if_pos c44] at h
    refine Gk_iload (x := (v37 - v27)) B d_SD_parameter_47 rfl ?_
    cases h
    exact Gk_iret B hr d_SD_parameter_49 rfl (by decide) (by decide) rfl
  rw [if_pos c14] at h
  refine Gk_iconst (v := (-1)) B d_SD_parameter_17 (by decide) ?_
  cases h
  exact Gk_iret B hr d_SD_parameter_18 rfl (by decide) (by decide) rfl
theorem sn_SD_parameter {l : Launch} {Γ : gk_G} {a0 : Option Nat} {x1 : Int32} {x2 : Int32} {M : gk_M} {ρ : Int32 × gk_M} (h : fn_SD_parameter a0 x1 x2 M = some ρ) : gk_Met l gk_Y Γ y_SD_parameter (.code y_SD_parameter c_SD_parameter 5 (some .int) :: gk_Y.2.2.2) rm_SD_parameter [va_rf a0, .int x1, .int x2] M (some (.int ρ.1)) ρ.2 :=
  gk_start (by decide) (by simp [lg_sl, gk_rc, gk_ic, gk_jc]) [some (va_rf a0), some (.int x1), some (.int x2), none, none] (by simp [gk_as, lv_args, gk_rc, gk_ic, gk_jc]) (fun p e s m args below meth c B hr hin => sn_SD_parameter_0 B hr h)
theorem d_Mo_parameter_0 : decode c_Mo_parameter 0 = .ok (.iload_n 1, 1) := by decide +kernel
theorem d_Mo_parameter_1 : decode c_Mo_parameter 1 = .ok (.iconst 0, 1) := by decide +kernel
theorem d_Mo_parameter_2 : decode c_Mo_parameter 2 = .ok (.aload_n 0, 1) := by decide +kernel
theorem d_Mo_parameter_3 : decode c_Mo_parameter 3 = .ok (.getfield 149, 3) := by decide +kernel
theorem d_Mo_parameter_6 : decode c_Mo_parameter 6 = .ok (.iconst 1, 1) := by decide +kernel
theorem d_Mo_parameter_7 : decode c_Mo_parameter 7 = .ok (.isub, 1) := by decide +kernel
theorem d_Mo_parameter_8 : decode c_Mo_parameter 8 = .ok (.invokestatic 167, 3) := by decide +kernel
theorem d_Mo_parameter_11 : decode c_Mo_parameter 11 = .ok (.ifCond .ne 19, 3) := by decide +kernel
theorem d_Mo_parameter_14 : decode c_Mo_parameter 14 = .ok (.iload_n 2, 1) := by decide +kernel
theorem d_Mo_parameter_15 : decode c_Mo_parameter 15 = .ok (.iconst (-1), 1) := by decide +kernel
theorem d_Mo_parameter_16 : decode c_Mo_parameter 16 = .ok (.aload_n 0, 1) := by decide +kernel
theorem d_Mo_parameter_17 : decode c_Mo_parameter 17 = .ok (.getfield 87, 3) := by decide +kernel
theorem d_Mo_parameter_20 : decode c_Mo_parameter 20 = .ok (.iload_n 1, 1) := by decide +kernel
theorem d_Mo_parameter_21 : decode c_Mo_parameter 21 = .ok (.iaload, 1) := by decide +kernel
theorem d_Mo_parameter_22 : decode c_Mo_parameter 22 = .ok (.iconst 1, 1) := by decide +kernel
theorem d_Mo_parameter_23 : decode c_Mo_parameter 23 = .ok (.isub, 1) := by decide +kernel
theorem d_Mo_parameter_24 : decode c_Mo_parameter 24 = .ok (.invokestatic 167, 3) := by decide +kernel
theorem d_Mo_parameter_27 : decode c_Mo_parameter 27 = .ok (.ifCond .eq 5, 3) := by decide +kernel
theorem d_Mo_parameter_30 : decode c_Mo_parameter 30 = .ok (.iconst (-1), 1) := by decide +kernel
theorem d_Mo_parameter_31 : decode c_Mo_parameter 31 = .ok (.ireturn, 1) := by decide +kernel
theorem d_Mo_parameter_32 : decode c_Mo_parameter 32 = .ok (.iload_n 2, 1) := by decide +kernel
theorem d_Mo_parameter_33 : decode c_Mo_parameter 33 = .ok (.ifCond .ge 12, 3) := by decide +kernel
theorem d_Mo_parameter_36 : decode c_Mo_parameter 36 = .ok (.aload_n 0, 1) := by decide +kernel
theorem d_Mo_parameter_37 : decode c_Mo_parameter 37 = .ok (.getfield 87, 3) := by decide +kernel
theorem d_Mo_parameter_40 : decode c_Mo_parameter 40 = .ok (.iload_n 1, 1) := by decide +kernel
theorem d_Mo_parameter_41 : decode c_Mo_parameter 41 = .ok (.iaload, 1) := by decide +kernel
theorem d_Mo_parameter_42 : decode c_Mo_parameter 42 = .ok (.goto 16, 3) := by decide +kernel
theorem d_Mo_parameter_45 : decode c_Mo_parameter 45 = .ok (.aload_n 0, 1) := by decide +kernel
theorem d_Mo_parameter_46 : decode c_Mo_parameter 46 = .ok (.getfield 78, 3) := by decide +kernel
theorem d_Mo_parameter_49 : decode c_Mo_parameter 49 = .ok (.aload_n 0, 1) := by decide +kernel
theorem d_Mo_parameter_50 : decode c_Mo_parameter 50 = .ok (.getfield 84, 3) := by decide +kernel
theorem d_Mo_parameter_53 : decode c_Mo_parameter 53 = .ok (.iload_n 1, 1) := by decide +kernel
theorem d_Mo_parameter_54 : decode c_Mo_parameter 54 = .ok (.iaload, 1) := by decide +kernel
theorem d_Mo_parameter_55 : decode c_Mo_parameter 55 = .ok (.iload_n 2, 1) := by decide +kernel
theorem d_Mo_parameter_56 : decode c_Mo_parameter 56 = .ok (.iadd, 1) := by decide +kernel
theorem d_Mo_parameter_57 : decode c_Mo_parameter 57 = .ok (.caload, 1) := by decide +kernel
theorem d_Mo_parameter_58 : decode c_Mo_parameter 58 = .ok (.ireturn, 1) := by decide +kernel
set_option maxHeartbeats 4000000 in
set_option maxRecDepth 100000 in
theorem sn_Mo_parameter_0 {l : Launch} {Γ : gk_G} {p : Program} {e : Env} {s : State} {m : MethodId} {args : Array Value} {below : List Frame} {meth : Method} {c : Code} (B : gk_B p s m args meth c gk_Y Γ c_Mo_parameter 3 "StageDispatcherModel") (hr : meth.sig.returnType = (some .int)) {ρ : Int32 × gk_M}   {a0 : Option Nat} {x1 : Int32} {x2 : Int32} {M : gk_M} (h : fn_Mo_parameter  a0 x1 x2 M = some ρ) : Gk p l e rm_Mo_parameter s m args below meth c gk_Y Γ 3 (MQ below (gk_Q gk_Y Γ (some (.int ρ.1)) ρ.2) args s rm_Mo_parameter.cells rm_Mo_parameter.slots (fun q => Γ.2.2 ≤ q)) 0 0 M 0 [some (va_rf a0), some (.int x1), some (.int x2)] [] := by
  unfold fn_Mo_parameter at h
  refine Gk_iload_n (i := 1) (x := x1) B d_Mo_parameter_0 rfl rfl ?_
  refine Gk_iconst (v := 0) B d_Mo_parameter_1 (by decide) ?_
  refine Gk_aload_n (i := 0) (r := a0) B d_Mo_parameter_2 rfl rfl ?_
  obtain ⟨v3, h3, h⟩ := gk_bind h
  refine Gk_getI (j := 42) B d_Mo_parameter_3 in_Mo cl_Mo (by decide) tw_797 rfl h3 ?_
  refine Gk_iconst (v := 1) B d_Mo_parameter_6 (by decide) ?_
  refine Gk_isub B d_Mo_parameter_7 ?_
  obtain ⟨w8, h8, h⟩ := gk_bind h
  refine Gk_callS (As := [.int x1, .int 0, .int (v3 - (1 : Int32))]) (rest := []) (st1 := [.int w8.1]) (k1 := 0) (n1 := 0) B gk_hG d_Mo_parameter_8 (sn_Mo_outside h8) tw_954 tw_952 tw_953 tw_48 nm_Mo_outside rfl (by decide) ⟨by decide, by decide⟩ ⟨by decide, by decide⟩ rfl rfl rfl rfl ?_
  refine Gk_if_ne (tgt := 30) B d_Mo_parameter_11 rfl (fun c11 => ?_) (fun c11 => ?_)
  · rw [if_neg c11] at h
    refine Gk_iconst (v := (-1)) B d_Mo_parameter_30 (by decide) ?_
    cases h
    exact Gk_iret B hr d_Mo_parameter_31 rfl (by decide) (by decide) rfl
  rw [if_pos c11] at h
  refine Gk_iload_n (i := 2) (x := x2) B d_Mo_parameter_14 rfl rfl ?_
  refine Gk_iconst (v := (-1)) B d_Mo_parameter_15 (by decide) ?_
  refine Gk_aload_n (i := 0) (r := a0) B d_Mo_parameter_16 rfl rfl ?_
  obtain ⟨v17, h17, h⟩ := gk_bind h
  refine Gk_getR (j := 44) B d_Mo_parameter_17 in_Mo cl_Mo (by decide) tw_799 rfl h17 ?_
  refine Gk_iload_n (i := 1) (x := x1) B d_Mo_parameter_20 rfl rfl ?_
  obtain ⟨v21, h21, h⟩ := gk_bind h
  refine Gk_iaload B d_Mo_parameter_21 ty_0 h21 ?_
  refine Gk_iconst (v := 1) B d_Mo_parameter_22 (by decide) ?_
  refine Gk_isub B d_Mo_parameter_23 ?_
  obtain ⟨w24, h24, h⟩ := gk_bind h
  refine Gk_callS (As := [.int x2, .int (-1), .int (v21 - (1 : Int32))]) (rest := []) (st1 := [.int w24.1]) (k1 := 0) (n1 := 0) B gk_hG d_Mo_parameter_24 (sn_Mo_outside h24) tw_954 tw_952 tw_953 tw_48 nm_Mo_outside rfl (by decide) ⟨by decide, by decide⟩ ⟨by decide, by decide⟩ rfl rfl rfl rfl ?_
  refine Gk_if_eq (tgt := 32) B d_Mo_parameter_27 rfl (fun c27 => ?_) (fun c27 => ?_)
  · rw [if_pos c27] at h
    refine Gk_iload_n (i := 2) (x := x2) B d_Mo_parameter_32 rfl rfl ?_
    refine Gk_if_ge (tgt := 45) B d_Mo_parameter_33 rfl (fun c33 => ?_) (fun c33 => ?_)
    · rw [if_pos c33] at h
      refine Gk_aload_n (i := 0) (r := a0) B d_Mo_parameter_45 rfl rfl ?_
      obtain ⟨v46, h46, h⟩ := gk_bind h
      refine Gk_getR (j := 28) B d_Mo_parameter_46 in_Mo cl_Mo (by decide) tw_783 rfl h46 ?_
      refine Gk_aload_n (i := 0) (r := a0) B d_Mo_parameter_49 rfl rfl ?_
      obtain ⟨v50, h50, h⟩ := gk_bind h
      refine Gk_getR (j := 43) B d_Mo_parameter_50 in_Mo cl_Mo (by decide) tw_798 rfl h50 ?_
      refine Gk_iload_n (i := 1) (x := x1) B d_Mo_parameter_53 rfl rfl ?_
      obtain ⟨v54, h54, h⟩ := gk_bind h
      refine Gk_iaload B d_Mo_parameter_54 ty_0 h54 ?_
      refine Gk_iload_n (i := 2) (x := x2) B d_Mo_parameter_55 rfl rfl ?_
      refine Gk_iadd B d_Mo_parameter_56 ?_
      obtain ⟨v57, h57, h⟩ := gk_bind h
      refine Gk_caload B d_Mo_parameter_57 ty_1 h57 ?_
      cases h
      exact Gk_iret B hr d_Mo_parameter_58 rfl (by decide) (by decide) rfl
    rw [if_neg c33] at h
    refine Gk_aload_n (i := 0) (r := a0) B d_Mo_parameter_36 rfl rfl ?_
    obtain ⟨v37, h37, h⟩ := gk_bind h
    refine Gk_getR (j := 44) B d_Mo_parameter_37 in_Mo cl_Mo (by decide) tw_799 rfl h37 ?_
    refine Gk_iload_n (i := 1) (x := x1) B d_Mo_parameter_40 rfl rfl ?_
    obtain ⟨v41, h41, h⟩ := gk_bind h
    refine Gk_iaload B d_Mo_parameter_41 ty_0 h41 ?_
    refine Gk_goto (tgt := 58) B d_Mo_parameter_42 rfl ?_
    cases h
    exact Gk_iret B hr d_Mo_parameter_58 rfl (by decide) (by decide) rfl
  rw [if_neg c27] at h
  refine Gk_iconst (v := (-1)) B d_Mo_parameter_30 (by decide) ?_
  cases h
  exact Gk_iret B hr d_Mo_parameter_31 rfl (by decide) (by decide) rfl
theorem sn_Mo_parameter {l : Launch} {Γ : gk_G} {a0 : Option Nat} {x1 : Int32} {x2 : Int32} {M : gk_M} {ρ : Int32 × gk_M} (h : fn_Mo_parameter a0 x1 x2 M = some ρ) : gk_Met l gk_Y Γ y_Mo_parameter (.code y_Mo_parameter c_Mo_parameter 3 (some .int) :: gk_Y.2.2.2) rm_Mo_parameter [va_rf a0, .int x1, .int x2] M (some (.int ρ.1)) ρ.2 :=
  gk_start (by decide) (by simp [lg_sl, gk_rc, gk_ic, gk_jc]) [some (va_rf a0), some (.int x1), some (.int x2)] (by simp [gk_as, lv_args, gk_rc, gk_ic, gk_jc]) (fun p e s m args below meth c B hr hin => sn_Mo_parameter_0 B hr h)
theorem d_SD_allowed_0 : decode c_SD_allowed 0 = .ok (.aload_n 0, 1) := by decide +kernel
theorem d_SD_allowed_1 : decode c_SD_allowed 1 = .ok (.getfield 47, 3) := by decide +kernel
theorem d_SD_allowed_4 : decode c_SD_allowed 4 = .ok (.getfield 204, 3) := by decide +kernel
theorem d_SD_allowed_7 : decode c_SD_allowed 7 = .ok (.ireturn, 1) := by decide +kernel
set_option maxHeartbeats 4000000 in
set_option maxRecDepth 100000 in
theorem sn_SD_allowed_0 {l : Launch} {Γ : gk_G} {p : Program} {e : Env} {s : State} {m : MethodId} {args : Array Value} {below : List Frame} {meth : Method} {c : Code} (B : gk_B p s m args meth c gk_Y Γ c_SD_allowed 1 "StageDispatcher") (hr : meth.sig.returnType = (some .int)) {ρ : Int32 × gk_M}   {a0 : Option Nat} {M : gk_M} (h : fn_SD_allowed  a0 M = some ρ) : Gk p l e rm_SD_allowed s m args below meth c gk_Y Γ 1 (MQ below (gk_Q gk_Y Γ (some (.int ρ.1)) ρ.2) args s rm_SD_allowed.cells rm_SD_allowed.slots (fun q => Γ.2.2 ≤ q)) 0 0 M 0 [some (va_rf a0)] [] := by
  unfold fn_SD_allowed at h
  refine Gk_aload_n (i := 0) (r := a0) B d_SD_allowed_0 rfl rfl ?_
  obtain ⟨v1, h1, h⟩ := gk_bind h
  refine Gk_getR (j := 5) B d_SD_allowed_1 in_SD cl_SD (by decide) tw_283 rfl h1 ?_
  obtain ⟨v4, h4, h⟩ := gk_bind h
  refine Gk_getI (j := 11) B d_SD_allowed_4 in_Outcome cl_Outcome (by decide) tw_248 rfl h4 ?_
  cases h
  exact Gk_iret B hr d_SD_allowed_7 rfl (by decide) (by decide) rfl
theorem sn_SD_allowed {l : Launch} {Γ : gk_G} {a0 : Option Nat} {M : gk_M} {ρ : Int32 × gk_M} (h : fn_SD_allowed a0 M = some ρ) : gk_Met l gk_Y Γ y_SD_allowed (.code y_SD_allowed c_SD_allowed 1 (some .int) :: gk_Y.2.2.2) rm_SD_allowed [va_rf a0] M (some (.int ρ.1)) ρ.2 :=
  gk_start (by decide) (by simp [lg_sl, gk_rc, gk_ic, gk_jc]) [some (va_rf a0)] (by simp [gk_as, lv_args, gk_rc, gk_ic, gk_jc]) (fun p e s m args below meth c B hr hin => sn_SD_allowed_0 B hr h)
theorem d_Mo_allowed_0 : decode c_Mo_allowed 0 = .ok (.aload_n 0, 1) := by decide +kernel
theorem d_Mo_allowed_1 : decode c_Mo_allowed 1 = .ok (.getfield 231, 3) := by decide +kernel
theorem d_Mo_allowed_4 : decode c_Mo_allowed 4 = .ok (.ireturn, 1) := by decide +kernel
set_option maxHeartbeats 4000000 in
set_option maxRecDepth 100000 in
theorem sn_Mo_allowed_0 {l : Launch} {Γ : gk_G} {p : Program} {e : Env} {s : State} {m : MethodId} {args : Array Value} {below : List Frame} {meth : Method} {c : Code} (B : gk_B p s m args meth c gk_Y Γ c_Mo_allowed 1 "StageDispatcherModel") (hr : meth.sig.returnType = (some .int)) {ρ : Int32 × gk_M}   {a0 : Option Nat} {M : gk_M} (h : fn_Mo_allowed  a0 M = some ρ) : Gk p l e rm_Mo_allowed s m args below meth c gk_Y Γ 1 (MQ below (gk_Q gk_Y Γ (some (.int ρ.1)) ρ.2) args s rm_Mo_allowed.cells rm_Mo_allowed.slots (fun q => Γ.2.2 ≤ q)) 0 0 M 0 [some (va_rf a0)] [] := by
  unfold fn_Mo_allowed at h
  refine Gk_aload_n (i := 0) (r := a0) B d_Mo_allowed_0 rfl rfl ?_
  obtain ⟨v1, h1, h⟩ := gk_bind h
  refine Gk_getI (j := 38) B d_Mo_allowed_1 in_Mo cl_Mo (by decide) tw_793 rfl h1 ?_
  cases h
  exact Gk_iret B hr d_Mo_allowed_4 rfl (by decide) (by decide) rfl
theorem sn_Mo_allowed {l : Launch} {Γ : gk_G} {a0 : Option Nat} {M : gk_M} {ρ : Int32 × gk_M} (h : fn_Mo_allowed a0 M = some ρ) : gk_Met l gk_Y Γ y_Mo_allowed (.code y_Mo_allowed c_Mo_allowed 1 (some .int) :: gk_Y.2.2.2) rm_Mo_allowed [va_rf a0] M (some (.int ρ.1)) ρ.2 :=
  gk_start (by decide) (by simp [lg_sl, gk_rc, gk_ic, gk_jc]) [some (va_rf a0)] (by simp [gk_as, lv_args, gk_rc, gk_ic, gk_jc]) (fun p e s m args below meth c B hr hin => sn_Mo_allowed_0 B hr h)
theorem d_SD_produced_0 : decode c_SD_produced 0 = .ok (.aload_n 0, 1) := by decide +kernel
theorem d_SD_produced_1 : decode c_SD_produced 1 = .ok (.getfield 47, 3) := by decide +kernel
theorem d_SD_produced_4 : decode c_SD_produced 4 = .ok (.getfield 207, 3) := by decide +kernel
theorem d_SD_produced_7 : decode c_SD_produced 7 = .ok (.ireturn, 1) := by decide +kernel
set_option maxHeartbeats 4000000 in
set_option maxRecDepth 100000 in
theorem sn_SD_produced_0 {l : Launch} {Γ : gk_G} {p : Program} {e : Env} {s : State} {m : MethodId} {args : Array Value} {below : List Frame} {meth : Method} {c : Code} (B : gk_B p s m args meth c gk_Y Γ c_SD_produced 1 "StageDispatcher") (hr : meth.sig.returnType = (some .int)) {ρ : Int32 × gk_M}   {a0 : Option Nat} {M : gk_M} (h : fn_SD_produced  a0 M = some ρ) : Gk p l e rm_SD_produced s m args below meth c gk_Y Γ 1 (MQ below (gk_Q gk_Y Γ (some (.int ρ.1)) ρ.2) args s rm_SD_produced.cells rm_SD_produced.slots (fun q => Γ.2.2 ≤ q)) 0 0 M 0 [some (va_rf a0)] [] := by
  unfold fn_SD_produced at h
  refine Gk_aload_n (i := 0) (r := a0) B d_SD_produced_0 rfl rfl ?_
  obtain ⟨v1, h1, h⟩ := gk_bind h
  refine Gk_getR (j := 5) B d_SD_produced_1 in_SD cl_SD (by decide) tw_283 rfl h1 ?_
  obtain ⟨v4, h4, h⟩ := gk_bind h
  refine Gk_getI (j := 12) B d_SD_produced_4 in_Outcome cl_Outcome (by decide) tw_250 rfl h4 ?_
  cases h
  exact Gk_iret B hr d_SD_produced_7 rfl (by decide) (by decide) rfl
theorem sn_SD_produced {l : Launch} {Γ : gk_G} {a0 : Option Nat} {M : gk_M} {ρ : Int32 × gk_M} (h : fn_SD_produced a0 M = some ρ) : gk_Met l gk_Y Γ y_SD_produced (.code y_SD_produced c_SD_produced 1 (some .int) :: gk_Y.2.2.2) rm_SD_produced [va_rf a0] M (some (.int ρ.1)) ρ.2 :=
  gk_start (by decide) (by simp [lg_sl, gk_rc, gk_ic, gk_jc]) [some (va_rf a0)] (by simp [gk_as, lv_args, gk_rc, gk_ic, gk_jc]) (fun p e s m args below meth c B hr hin => sn_SD_produced_0 B hr h)
theorem d_Mo_produced_0 : decode c_Mo_produced 0 = .ok (.aload_n 0, 1) := by decide +kernel
theorem d_Mo_produced_1 : decode c_Mo_produced 1 = .ok (.getfield 111, 3) := by decide +kernel
theorem d_Mo_produced_4 : decode c_Mo_produced 4 = .ok (.ireturn, 1) := by decide +kernel
set_option maxHeartbeats 4000000 in
set_option maxRecDepth 100000 in
theorem sn_Mo_produced_0 {l : Launch} {Γ : gk_G} {p : Program} {e : Env} {s : State} {m : MethodId} {args : Array Value} {below : List Frame} {meth : Method} {c : Code} (B : gk_B p s m args meth c gk_Y Γ c_Mo_produced 1 "StageDispatcherModel") (hr : meth.sig.returnType = (some .int)) {ρ : Int32 × gk_M}   {a0 : Option Nat} {M : gk_M} (h : fn_Mo_produced  a0 M = some ρ) : Gk p l e rm_Mo_produced s m args below meth c gk_Y Γ 1 (MQ below (gk_Q gk_Y Γ (some (.int ρ.1)) ρ.2) args s rm_Mo_produced.cells rm_Mo_produced.slots (fun q => Γ.2.2 ≤ q)) 0 0 M 0 [some (va_rf a0)] [] := by
  unfold fn_Mo_produced at h
  refine Gk_aload_n (i := 0) (r := a0) B d_Mo_produced_0 rfl rfl ?_
  obtain ⟨v1, h1, h⟩ := gk_bind h
  refine Gk_getI (j := 39) B d_Mo_produced_1 in_Mo cl_Mo (by decide) tw_794 rfl h1 ?_
  cases h
  exact Gk_iret B hr d_Mo_produced_4 rfl (by decide) (by decide) rfl
theorem sn_Mo_produced {l : Launch} {Γ : gk_G} {a0 : Option Nat} {M : gk_M} {ρ : Int32 × gk_M} (h : fn_Mo_produced a0 M = some ρ) : gk_Met l gk_Y Γ y_Mo_produced (.code y_Mo_produced c_Mo_produced 1 (some .int) :: gk_Y.2.2.2) rm_Mo_produced [va_rf a0] M (some (.int ρ.1)) ρ.2 :=
  gk_start (by decide) (by simp [lg_sl, gk_rc, gk_ic, gk_jc]) [some (va_rf a0)] (by simp [gk_as, lv_args, gk_rc, gk_ic, gk_jc]) (fun p e s m args below meth c B hr hin => sn_Mo_produced_0 B hr h)
theorem d_SD_ran_0 : decode c_SD_ran 0 = .ok (.iload_n 1, 1) := by decide +kernel
theorem d_SD_ran_1 : decode c_SD_ran 1 = .ok (.iconst 0, 1) := by decide +kernel
theorem d_SD_ran_2 : decode c_SD_ran 2 = .ok (.aload_n 0, 1) := by decide +kernel
theorem d_SD_ran_3 : decode c_SD_ran 3 = .ok (.getfield 47, 3) := by decide +kernel
theorem d_SD_ran_6 : decode c_SD_ran 6 = .ok (.getfield 210, 3) := by decide +kernel
theorem d_SD_ran_9 : decode c_SD_ran 9 = .ok (.iconst 1, 1) := by decide +kernel
theorem d_SD_ran_10 : decode c_SD_ran 10 = .ok (.isub, 1) := by decide +kernel
theorem d_SD_ran_11 : decode c_SD_ran 11 = .ok (.invokestatic 95, 3) := by decide +kernel
theorem d_SD_ran_14 : decode c_SD_ran 14 = .ok (.ifCond .eq 15, 3) := by decide +kernel
theorem d_SD_ran_17 : decode c_SD_ran 17 = .ok (.aload_n 0, 1) := by decide +kernel
theorem d_SD_ran_18 : decode c_SD_ran 18 = .ok (.getfield 47, 3) := by decide +kernel
theorem d_SD_ran_21 : decode c_SD_ran 21 = .ok (.getfield 213, 3) := by decide +kernel
theorem d_SD_ran_24 : decode c_SD_ran 24 = .ok (.iload_n 1, 1) := by decide +kernel
theorem d_SD_ran_25 : decode c_SD_ran 25 = .ok (.iaload, 1) := by decide +kernel
theorem d_SD_ran_26 : decode c_SD_ran 26 = .ok (.goto 4, 3) := by decide +kernel
theorem d_SD_ran_29 : decode c_SD_ran 29 = .ok (.iconst (-1), 1) := by decide +kernel
theorem d_SD_ran_30 : decode c_SD_ran 30 = .ok (.ireturn, 1) := by decide +kernel
set_option maxHeartbeats 4000000 in
set_option maxRecDepth 100000 in
theorem sn_SD_ran_0 {l : Launch} {Γ : gk_G} {p : Program} {e : Env} {s : State} {m : MethodId} {args : Array Value} {below : List Frame} {meth : Method} {c : Code} (B : gk_B p s m args meth c gk_Y Γ c_SD_ran 2 "StageDispatcher") (hr : meth.sig.returnType = (some .int)) {ρ : Int32 × gk_M}   {a0 : Option Nat} {x1 : Int32} {M : gk_M} (h : fn_SD_ran  a0 x1 M = some ρ) : Gk p l e rm_SD_ran s m args below meth c gk_Y Γ 2 (MQ below (gk_Q gk_Y Γ (some (.int ρ.1)) ρ.2) args s rm_SD_ran.cells rm_SD_ran.slots (fun q => Γ.2.2 ≤ q)) 0 0 M 0 [some (va_rf a0), some (.int x1)] [] := by
  unfold fn_SD_ran at h
  refine Gk_iload_n (i := 1) (x := x1) B d_SD_ran_0 rfl rfl ?_
  refine Gk_iconst (v := 0) B d_SD_ran_1 (by decide) ?_
  refine Gk_aload_n (i := 0) (r := a0) B d_SD_ran_2 rfl rfl ?_
  obtain ⟨v3, h3, h⟩ := gk_bind h
  refine Gk_getR (j := 5) B d_SD_ran_3 in_SD cl_SD (by decide) tw_283 rfl h3 ?_
  obtain ⟨v6, h6, h⟩ := gk_bind h
  refine Gk_getI (j := 7) B d_SD_ran_6 in_Outcome cl_Outcome (by decide) tw_240 rfl h6 ?_
  refine Gk_iconst (v := 1) B d_SD_ran_9 (by decide) ?_
  refine Gk_isub B d_SD_ran_10 ?_
  obtain ⟨w11, h11, h⟩ := gk_bind h
  refine Gk_callS (As := [.int x1, .int 0, .int (v6 - (1 : Int32))]) (rest := []) (st1 := [.int w11.1]) (k1 := 0) (n1 := 0) B gk_hG d_SD_ran_11 (sn_SD_isWithin h11) tw_373 tw_377 tw_372 tw_40 nm_SD_isWithin rfl (by decide) ⟨by decide, by decide⟩ ⟨by decide, by decide⟩ rfl rfl rfl rfl ?_
  refine Gk_if_eq (tgt := 29) B d_SD_ran_14 rfl (fun c14 => ?_) (fun c14 => ?_)
  · rw [if_pos c14] at h
    refine Gk_iconst (v := (-1)) B d_SD_ran_29 (by decide) ?_
    cases h
    exact Gk_iret B hr d_SD_ran_30 rfl (by decide) (by decide) rfl
  rw [if_neg c14] at h
  refine Gk_aload_n (i := 0) (r := a0) B d_SD_ran_17 rfl rfl ?_
  obtain ⟨v18, h18, h⟩ := gk_bind h
  refine Gk_getR (j := 5) B d_SD_ran_18 in_SD cl_SD (by decide) tw_283 rfl h18 ?_
  obtain ⟨v21, h21, h⟩ := gk_bind h
  refine Gk_getR (j := 4) B d_SD_ran_21 in_Outcome cl_Outcome (by decide) tw_234 rfl h21 ?_
  refine Gk_iload_n (i := 1) (x := x1) B d_SD_ran_24 rfl rfl ?_
  obtain ⟨v25, h25, h⟩ := gk_bind h
  refine Gk_iaload B d_SD_ran_25 ty_0 h25 ?_
  refine Gk_goto (tgt := 30) B d_SD_ran_26 rfl ?_
  cases h
  exact Gk_iret B hr d_SD_ran_30 rfl (by decide) (by decide) rfl
theorem sn_SD_ran {l : Launch} {Γ : gk_G} {a0 : Option Nat} {x1 : Int32} {M : gk_M} {ρ : Int32 × gk_M} (h : fn_SD_ran a0 x1 M = some ρ) : gk_Met l gk_Y Γ y_SD_ran (.code y_SD_ran c_SD_ran 2 (some .int) :: gk_Y.2.2.2) rm_SD_ran [va_rf a0, .int x1] M (some (.int ρ.1)) ρ.2 :=
  gk_start (by decide) (by simp [lg_sl, gk_rc, gk_ic, gk_jc]) [some (va_rf a0), some (.int x1)] (by simp [gk_as, lv_args, gk_rc, gk_ic, gk_jc]) (fun p e s m args below meth c B hr hin => sn_SD_ran_0 B hr h)
