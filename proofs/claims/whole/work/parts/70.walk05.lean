theorem d_Fit_openPlaces_0 : decode c_Fit_openPlaces 0 = .ok (.iconst 1, 1) := by decide +kernel
theorem d_Fit_openPlaces_1 : decode c_Fit_openPlaces 1 = .ok (.aload_n 2, 1) := by decide +kernel
theorem d_Fit_openPlaces_2 : decode c_Fit_openPlaces 2 = .ok (.getfield 52, 3) := by decide +kernel
theorem d_Fit_openPlaces_5 : decode c_Fit_openPlaces 5 = .ok (.ishl, 1) := by decide +kernel
theorem d_Fit_openPlaces_6 : decode c_Fit_openPlaces 6 = .ok (.istore 4, 2) := by decide +kernel
theorem d_Fit_openPlaces_8 : decode c_Fit_openPlaces 8 = .ok (.iload_n 3, 1) := by decide +kernel
theorem d_Fit_openPlaces_9 : decode c_Fit_openPlaces 9 = .ok (.istore 5, 2) := by decide +kernel
theorem d_Fit_openPlaces_11 : decode c_Fit_openPlaces 11 = .ok (.iload 5, 2) := by decide +kernel
theorem d_Fit_openPlaces_13 : decode c_Fit_openPlaces 13 = .ok (.aload_n 2, 1) := by decide +kernel
theorem d_Fit_openPlaces_14 : decode c_Fit_openPlaces 14 = .ok (.getfield 52, 3) := by decide +kernel
theorem d_Fit_openPlaces_17 : decode c_Fit_openPlaces 17 = .ok (.if_icmp .ge 33, 3) := by decide +kernel
theorem d_Fit_openPlaces_20 : decode c_Fit_openPlaces 20 = .ok (.iload 4, 2) := by decide +kernel
theorem d_Fit_openPlaces_22 : decode c_Fit_openPlaces 22 = .ok (.aload_n 2, 1) := by decide +kernel
theorem d_Fit_openPlaces_23 : decode c_Fit_openPlaces 23 = .ok (.iload 5, 2) := by decide +kernel
theorem d_Fit_openPlaces_25 : decode c_Fit_openPlaces 25 = .ok (.bipush 47, 2) := by decide +kernel
theorem d_Fit_openPlaces_27 : decode c_Fit_openPlaces 27 = .ok (.invokevirtual 57, 3) := by decide +kernel
theorem d_Fit_openPlaces_30 : decode c_Fit_openPlaces 30 = .ok (.ifCond .eq 10, 3) := by decide +kernel
theorem d_Fit_openPlaces_33 : decode c_Fit_openPlaces 33 = .ok (.iconst 1, 1) := by decide +kernel
theorem d_Fit_openPlaces_34 : decode c_Fit_openPlaces 34 = .ok (.iload 5, 2) := by decide +kernel
theorem d_Fit_openPlaces_36 : decode c_Fit_openPlaces 36 = .ok (.ishl, 1) := by decide +kernel
theorem d_Fit_openPlaces_37 : decode c_Fit_openPlaces 37 = .ok (.goto 4, 3) := by decide +kernel
theorem d_Fit_openPlaces_40 : decode c_Fit_openPlaces 40 = .ok (.iconst 0, 1) := by decide +kernel
theorem d_Fit_openPlaces_41 : decode c_Fit_openPlaces 41 = .ok (.ior, 1) := by decide +kernel
theorem d_Fit_openPlaces_42 : decode c_Fit_openPlaces 42 = .ok (.istore 4, 2) := by decide +kernel
theorem d_Fit_openPlaces_44 : decode c_Fit_openPlaces 44 = .ok (.iinc 5 1, 3) := by decide +kernel
theorem d_Fit_openPlaces_47 : decode c_Fit_openPlaces 47 = .ok (.goto (-36), 3) := by decide +kernel
theorem d_Fit_openPlaces_50 : decode c_Fit_openPlaces 50 = .ok (.aload_n 0, 1) := by decide +kernel
theorem d_Fit_openPlaces_51 : decode c_Fit_openPlaces 51 = .ok (.getfield 9, 3) := by decide +kernel
theorem d_Fit_openPlaces_54 : decode c_Fit_openPlaces 54 = .ok (.aload_n 1, 1) := by decide +kernel
theorem d_Fit_openPlaces_55 : decode c_Fit_openPlaces 55 = .ok (.getfield 36, 3) := by decide +kernel
theorem d_Fit_openPlaces_58 : decode c_Fit_openPlaces 58 = .ok (.iload 4, 2) := by decide +kernel
theorem d_Fit_openPlaces_60 : decode c_Fit_openPlaces 60 = .ok (.iastore, 1) := by decide +kernel
theorem d_Fit_openPlaces_61 : decode c_Fit_openPlaces 61 = .ok (.aload_n 1, 1) := by decide +kernel
theorem d_Fit_openPlaces_62 : decode c_Fit_openPlaces 62 = .ok (.getfield 36, 3) := by decide +kernel
theorem d_Fit_openPlaces_65 : decode c_Fit_openPlaces 65 = .ok (.iconst 1, 1) := by decide +kernel
theorem d_Fit_openPlaces_66 : decode c_Fit_openPlaces 66 = .ok (.isub, 1) := by decide +kernel
theorem d_Fit_openPlaces_67 : decode c_Fit_openPlaces 67 = .ok (.istore 5, 2) := by decide +kernel
theorem d_Fit_openPlaces_69 : decode c_Fit_openPlaces 69 = .ok (.iload 5, 2) := by decide +kernel
theorem d_Fit_openPlaces_71 : decode c_Fit_openPlaces 71 = .ok (.ifCond .lt 78, 3) := by decide +kernel
theorem d_Fit_openPlaces_74 : decode c_Fit_openPlaces 74 = .ok (.iconst 0, 1) := by decide +kernel
theorem d_Fit_openPlaces_75 : decode c_Fit_openPlaces 75 = .ok (.istore 6, 2) := by decide +kernel
theorem d_Fit_openPlaces_77 : decode c_Fit_openPlaces 77 = .ok (.iload_n 3, 1) := by decide +kernel
theorem d_Fit_openPlaces_78 : decode c_Fit_openPlaces 78 = .ok (.istore 7, 2) := by decide +kernel
theorem d_Fit_openPlaces_80 : decode c_Fit_openPlaces 80 = .ok (.iload 7, 2) := by decide +kernel
theorem d_Fit_openPlaces_82 : decode c_Fit_openPlaces 82 = .ok (.aload_n 2, 1) := by decide +kernel
theorem d_Fit_openPlaces_83 : decode c_Fit_openPlaces 83 = .ok (.getfield 52, 3) := by decide +kernel
theorem d_Fit_openPlaces_86 : decode c_Fit_openPlaces 86 = .ok (.if_icmp .gt 48, 3) := by decide +kernel
theorem d_Fit_openPlaces_89 : decode c_Fit_openPlaces 89 = .ok (.iload 6, 2) := by decide +kernel
theorem d_Fit_openPlaces_91 : decode c_Fit_openPlaces 91 = .ok (.aload_n 1, 1) := by decide +kernel
theorem d_Fit_openPlaces_92 : decode c_Fit_openPlaces 92 = .ok (.getfield 41, 3) := by decide +kernel
theorem d_Fit_openPlaces_95 : decode c_Fit_openPlaces 95 = .ok (.iload 5, 2) := by decide +kernel
theorem d_Fit_openPlaces_97 : decode c_Fit_openPlaces 97 = .ok (.iaload, 1) := by decide +kernel
theorem d_Fit_openPlaces_98 : decode c_Fit_openPlaces 98 = .ok (.aload_n 2, 1) := by decide +kernel
theorem d_Fit_openPlaces_99 : decode c_Fit_openPlaces 99 = .ok (.iload 7, 2) := by decide +kernel
theorem d_Fit_openPlaces_101 : decode c_Fit_openPlaces 101 = .ok (.aload_n 0, 1) := by decide +kernel
theorem d_Fit_openPlaces_102 : decode c_Fit_openPlaces 102 = .ok (.getfield 9, 3) := by decide +kernel
theorem d_Fit_openPlaces_105 : decode c_Fit_openPlaces 105 = .ok (.iload 5, 2) := by decide +kernel
theorem d_Fit_openPlaces_107 : decode c_Fit_openPlaces 107 = .ok (.iconst 1, 1) := by decide +kernel
theorem d_Fit_openPlaces_108 : decode c_Fit_openPlaces 108 = .ok (.iadd, 1) := by decide +kernel
theorem d_Fit_openPlaces_109 : decode c_Fit_openPlaces 109 = .ok (.iaload, 1) := by decide +kernel
theorem d_Fit_openPlaces_110 : decode c_Fit_openPlaces 110 = .ok (.invokestatic 44, 3) := by decide +kernel
theorem d_Fit_openPlaces_113 : decode c_Fit_openPlaces 113 = .ok (.iconst (-1), 1) := by decide +kernel
theorem d_Fit_openPlaces_114 : decode c_Fit_openPlaces 114 = .ok (.if_icmp .ne 7, 3) := by decide +kernel
theorem d_Fit_openPlaces_117 : decode c_Fit_openPlaces 117 = .ok (.iconst 0, 1) := by decide +kernel
theorem d_Fit_openPlaces_118 : decode c_Fit_openPlaces 118 = .ok (.goto 7, 3) := by decide +kernel
theorem d_Fit_openPlaces_121 : decode c_Fit_openPlaces 121 = .ok (.iconst 1, 1) := by decide +kernel
theorem d_Fit_openPlaces_122 : decode c_Fit_openPlaces 122 = .ok (.iload 7, 2) := by decide +kernel
theorem d_Fit_openPlaces_124 : decode c_Fit_openPlaces 124 = .ok (.ishl, 1) := by decide +kernel
theorem d_Fit_openPlaces_125 : decode c_Fit_openPlaces 125 = .ok (.ior, 1) := by decide +kernel
theorem d_Fit_openPlaces_126 : decode c_Fit_openPlaces 126 = .ok (.istore 6, 2) := by decide +kernel
theorem d_Fit_openPlaces_128 : decode c_Fit_openPlaces 128 = .ok (.iinc 7 1, 3) := by decide +kernel
theorem d_Fit_openPlaces_131 : decode c_Fit_openPlaces 131 = .ok (.goto (-51), 3) := by decide +kernel
theorem d_Fit_openPlaces_134 : decode c_Fit_openPlaces 134 = .ok (.aload_n 0, 1) := by decide +kernel
theorem d_Fit_openPlaces_135 : decode c_Fit_openPlaces 135 = .ok (.getfield 9, 3) := by decide +kernel
theorem d_Fit_openPlaces_138 : decode c_Fit_openPlaces 138 = .ok (.iload 5, 2) := by decide +kernel
theorem d_Fit_openPlaces_140 : decode c_Fit_openPlaces 140 = .ok (.iload 6, 2) := by decide +kernel
theorem d_Fit_openPlaces_142 : decode c_Fit_openPlaces 142 = .ok (.iastore, 1) := by decide +kernel
theorem d_Fit_openPlaces_143 : decode c_Fit_openPlaces 143 = .ok (.iinc 5 (-1), 3) := by decide +kernel
theorem d_Fit_openPlaces_146 : decode c_Fit_openPlaces 146 = .ok (.goto (-77), 3) := by decide +kernel
theorem d_Fit_openPlaces_149 : decode c_Fit_openPlaces 149 = .ok (.return_, 1) := by decide +kernel
set_option maxHeartbeats 4000000 in
set_option maxRecDepth 100000 in
theorem sn_Fit_openPlaces_41 {l : Launch} {Γ : gk_G} {p : Program} {e : Env} {s : State} {m : MethodId} {args : Array Value} {below : List Frame} {meth : Method} {c : Code} (B : gk_B p s m args meth c gk_Y Γ c_Fit_openPlaces 8 "StageDispatcher$Fit") (hr : meth.sig.returnType = none) {ρ : gk_M} {k11 : Option Nat → Option Nat → Option Nat → Int32 → Int32 → Int32 → gk_M → Option (gk_M)} (H11 : ∀ (a0 : Option Nat) (a1 : Option Nat) (a2 : Option Nat) (x3 : Int32) (x4 : Int32) (x5 : Int32) (M : gk_M), k11 a0 a1 a2 x3 x4 x5 M = some ρ → Gk p l e rm_Fit_openPlaces s m args below meth c gk_Y Γ 8 (MQ below (gk_Q gk_Y Γ none ρ) args s rm_Fit_openPlaces.cells rm_Fit_openPlaces.slots (fun q => Γ.2.2 ≤ q)) 0 0 M 11 [some (va_rf a0), some (va_rf a1), some (va_rf a2), some (.int x3), some (.int x4), some (.int x5), none, none] []) {a0 : Option Nat} {a1 : Option Nat} {a2 : Option Nat} {x3 : Int32} {x5 : Int32} {s0 : Int32} {s1 : Int32} {M : gk_M} (h : fn_Fit_openPlaces_41 k11 a0 a1 a2 x3 x5 s0 s1 M = some ρ) : Gk p l e rm_Fit_openPlaces s m args below meth c gk_Y Γ 8 (MQ below (gk_Q gk_Y Γ none ρ) args s rm_Fit_openPlaces.cells rm_Fit_openPlaces.slots (fun q => Γ.2.2 ≤ q)) 0 0 M 41 [some (va_rf a0), some (va_rf a1), some (va_rf a2), some (.int x3), none, some (.int x5), none, none] [.int s1, .int s0] := by
  unfold fn_Fit_openPlaces_41 at h
  refine Gk_ior B d_Fit_openPlaces_41 ?_
  refine Gk_istore (L' := [some (va_rf a0), some (va_rf a1), some (va_rf a2), some (.int x3), some (.int (s0 ||| s1)), some (.int x5), none, none]) B d_Fit_openPlaces_42 (by decide) (gk_c1_i rfl) rfl ?_
  refine Gk_iinc (x := x5) (v := (x5 + 1)) (L' := [some (va_rf a0), some (va_rf a1), some (va_rf a2), some (.int x3), some (.int (s0 ||| s1)), some (.int (x5 + 1)), none, none]) B d_Fit_openPlaces_44 rfl (congrArg (fun z => x5 + z) (by decide : Int32.ofInt 1 = 1)) (by decide) (gk_c1_i rfl) rfl ?_
  refine Gk_goto (tgt := 11) B d_Fit_openPlaces_47 rfl ?_
  exact H11 a0 a1 a2 x3 (s0 ||| s1) (x5 + 1) M h
set_option maxHeartbeats 4000000 in
set_option maxRecDepth 100000 in
theorem sn_Fit_openPlaces_125 {l : Launch} {Γ : gk_G} {p : Program} {e : Env} {s : State} {m : MethodId} {args : Array Value} {below : List Frame} {meth : Method} {c : Code} (B : gk_B p s m args meth c gk_Y Γ c_Fit_openPlaces 8 "StageDispatcher$Fit") (hr : meth.sig.returnType = none) {ρ : gk_M} {k69 : Option Nat → Option Nat → Option Nat → Int32 → Int32 → gk_M → Option (gk_M)} {k80 : Option Nat → Option Nat → Option Nat → Int32 → Int32 → Int32 → Int32 → gk_M → Option (gk_M)} (H69 : ∀ (a0 : Option Nat) (a1 : Option Nat) (a2 : Option Nat) (x3 : Int32) (x5 : Int32) (M : gk_M), k69 a0 a1 a2 x3 x5 M = some ρ → Gk p l e rm_Fit_openPlaces s m args below meth c gk_Y Γ 8 (MQ below (gk_Q gk_Y Γ none ρ) args s rm_Fit_openPlaces.cells rm_Fit_openPlaces.slots (fun q => Γ.2.2 ≤ q)) 0 0 M 69 [some (va_rf a0), some (va_rf a1), some (va_rf a2), some (.int x3), none, some (.int x5), none, none] []) (H80 : ∀ (a0 : Option Nat) (a1 : Option Nat) (a2 : Option Nat) (x3 : Int32) (x5 : Int32) (x6 : Int32) (x7 : Int32) (M : gk_M), k80 a0 a1 a2 x3 x5 x6 x7 M = some ρ → Gk p l e rm_Fit_openPlaces s m args below meth c gk_Y Γ 8 (MQ below (gk_Q gk_Y Γ none ρ) args s rm_Fit_openPlaces.cells rm_Fit_openPlaces.slots (fun q => Γ.2.2 ≤ q)) 0 0 M 80 [some (va_rf a0), some (va_rf a1), some (va_rf a2), some (.int x3), none, some (.int x5), some (.int x6), some (.int x7)] []) {a0 : Option Nat} {a1 : Option Nat} {a2 : Option Nat} {x3 : Int32} {x5 : Int32} {x7 : Int32} {s0 : Int32} {s1 : Int32} {M : gk_M} (h : fn_Fit_openPlaces_125 k69 k80 a0 a1 a2 x3 x5 x7 s0 s1 M = some ρ) : Gk p l e rm_Fit_openPlaces s m args below meth c gk_Y Γ 8 (MQ below (gk_Q gk_Y Γ none ρ) args s rm_Fit_openPlaces.cells rm_Fit_openPlaces.slots (fun q => Γ.2.2 ≤ q)) 0 0 M 125 [some (va_rf a0), some (va_rf a1), some (va_rf a2), some (.int x3), none, some (.int x5), none, some (.int x7)] [.int s1, .int s0] := by
  unfold fn_Fit_openPlaces_125 at h
  refine Gk_ior B d_Fit_openPlaces_125 ?_
  refine Gk_istore (L' := [some (va_rf a0), some (va_rf a1), some (va_rf a2), some (.int x3), none, some (.int x5), some (.int (s0 ||| s1)), some (.int x7)]) B d_Fit_openPlaces_126 (by decide) (gk_c1_i rfl) rfl ?_
  refine Gk_iinc (x := x7) (v := (x7 + 1)) (L' := [some (va_rf a0), some (va_rf a1), some (va_rf a2), some (.int x3), none, some (.int x5), some (.int (s0 ||| s1)), some (.int (x7 + 1))]) B d_Fit_openPlaces_128 rfl (congrArg (fun z => x7 + z) (by decide : Int32.ofInt 1 = 1)) (by decide) (gk_c1_i rfl) rfl ?_
  refine Gk_goto (tgt := 80) B d_Fit_openPlaces_131 rfl ?_
  exact H80 a0 a1 a2 x3 x5 (s0 ||| s1) (x7 + 1) M h
set_option maxHeartbeats 4000000 in
set_option maxRecDepth 100000 in
theorem sn_Fit_openPlaces_80_bd {l : Launch} {Γ : gk_G} {p : Program} {e : Env} {s : State} {m : MethodId} {args : Array Value} {below : List Frame} {meth : Method} {c : Code} (B : gk_B p s m args meth c gk_Y Γ c_Fit_openPlaces 8 "StageDispatcher$Fit") (hr : meth.sig.returnType = none) {ρ : gk_M} {k69 : Option Nat → Option Nat → Option Nat → Int32 → Int32 → gk_M → Option (gk_M)} {k80 : Option Nat → Option Nat → Option Nat → Int32 → Int32 → Int32 → Int32 → gk_M → Option (gk_M)} (H69 : ∀ (a0 : Option Nat) (a1 : Option Nat) (a2 : Option Nat) (x3 : Int32) (x5 : Int32) (M : gk_M), k69 a0 a1 a2 x3 x5 M = some ρ → Gk p l e rm_Fit_openPlaces s m args below meth c gk_Y Γ 8 (MQ below (gk_Q gk_Y Γ none ρ) args s rm_Fit_openPlaces.cells rm_Fit_openPlaces.slots (fun q => Γ.2.2 ≤ q)) 0 0 M 69 [some (va_rf a0), some (va_rf a1), some (va_rf a2), some (.int x3), none, some (.int x5), none, none] []) (H80 : ∀ (a0 : Option Nat) (a1 : Option Nat) (a2 : Option Nat) (x3 : Int32) (x5 : Int32) (x6 : Int32) (x7 : Int32) (M : gk_M), k80 a0 a1 a2 x3 x5 x6 x7 M = some ρ → Gk p l e rm_Fit_openPlaces s m args below meth c gk_Y Γ 8 (MQ below (gk_Q gk_Y Γ none ρ) args s rm_Fit_openPlaces.cells rm_Fit_openPlaces.slots (fun q => Γ.2.2 ≤ q)) 0 0 M 80 [some (va_rf a0), some (va_rf a1), some (va_rf a2), some (.int x3), none, some (.int x5), some (.int x6), some (.int x7)] []) {a0 : Option Nat} {a1 : Option Nat} {a2 : Option Nat} {x3 : Int32} {x5 : Int32} {x6 : Int32} {x7 : Int32} {M : gk_M} (h : fn_Fit_openPlaces_80_bd k69 k80 a0 a1 a2 x3 x5 x6 x7 M = some ρ) : Gk p l e rm_Fit_openPlaces s m args below meth c gk_Y Γ 8 (MQ below (gk_Q gk_Y Γ none ρ) args s rm_Fit_openPlaces.cells rm_Fit_openPlaces.slots (fun q => Γ.2.2 ≤ q)) 0 0 M 80 [some (va_rf a0), some (va_rf a1), some (va_rf a2), some (.int x3), none, some (.int x5), some (.int x6), some (.int x7)] [] := by
  unfold fn_Fit_openPlaces_80_bd at h
  refine Gk_iload (x := x7) B d_Fit_openPlaces_80 rfl ?_
  refine Gk_aload_n (i := 2) (r := a2) B d_Fit_openPlaces_82 rfl rfl ?_
  obtain ⟨v83, h83, h⟩ := gk_bind h
  refine Gk_getI (j := 1) B d_Fit_openPlaces_83 in_Text cl_Text (by decide) tw_77 rfl h83 ?_
  refine Gk_icmp_gt (tgt := 134) B d_Fit_openPlaces_86 rfl (fun c86 => ?_) (fun c86 => ?_)
  · rw [if_pos c86] at h
    refine Gk_aload_n (i := 0) (r := a0) B d_Fit_openPlaces_134 rfl rfl ?_
    obtain ⟨v135, h135, h⟩ := gk_bind h
    refine Gk_getR (j := 0) B d_Fit_openPlaces_135 in_Fit cl_Fit (by decide) tw_182 rfl h135 ?_
    refine Gk_iload (x := x5) B d_Fit_openPlaces_138 rfl ?_
    refine Gk_iload (x := x6) B d_Fit_openPlaces_140 rfl ?_
    obtain ⟨M142, h142, h⟩ := gk_bind h
    refine Gk_iastore B d_Fit_openPlaces_142 ty_0 h142 ?_
    refine Gk_iinc (x := x5) (v := (x5 + (-1))) (L' := [some (va_rf a0), some (va_rf a1), some (va_rf a2), some (.int x3), none, some (.int (x5 + (-1))), some (.int x6), some (.int x7)]) B d_Fit_openPlaces_143 rfl (congrArg (fun z => x5 + z) (by decide : Int32.ofInt (-1) = (-1))) (by decide) (gk_c1_n rfl) rfl ?_
    refine Gk_goto (tgt := 69) B d_Fit_openPlaces_146 rfl ?_
    refine Gk_weak [true, true, true, true, false, true, false, false] (L' := [some (va_rf a0), some (va_rf a1), some (va_rf a2), some (.int x3), none, some (.int (x5 + (-1))), none, none]) rfl ?_
    exact H69 a0 a1 a2 x3 (x5 + (-1)) M142 h
  rw [if_neg c86] at h
  refine Gk_iload (x := x6) B d_Fit_openPlaces_89 rfl ?_
  refine Gk_aload_n (i := 1) (r := a1) B d_Fit_openPlaces_91 rfl rfl ?_
  obtain ⟨v92, h92, h⟩ := gk_bind h
  refine Gk_getR (j := 0) B d_Fit_openPlaces_92 in_Template cl_Template (by decide) tw_338 rfl h92 ?_
  refine Gk_iload (x := x5) B d_Fit_openPlaces_95 rfl ?_
  obtain ⟨v97, h97, h⟩ := gk_bind h
  refine Gk_iaload B d_Fit_openPlaces_97 ty_0 h97 ?_
  refine Gk_aload_n (i := 2) (r := a2) B d_Fit_openPlaces_98 rfl rfl ?_
  refine Gk_iload (x := x7) B d_Fit_openPlaces_99 rfl ?_
  refine Gk_aload_n (i := 0) (r := a0) B d_Fit_openPlaces_101 rfl rfl ?_
  obtain ⟨v102, h102, h⟩ := gk_bind h
  refine Gk_getR (j := 0) B d_Fit_openPlaces_102 in_Fit cl_Fit (by decide) tw_182 rfl h102 ?_
  refine Gk_iload (x := x5) B d_Fit_openPlaces_105 rfl ?_
  refine Gk_iconst (v := 1) B d_Fit_openPlaces_107 (by decide) ?_
  refine Gk_iadd B d_Fit_openPlaces_108 ?_
  obtain ⟨v109, h109, h⟩ := gk_bind h
  refine Gk_iaload B d_Fit_openPlaces_109 ty_0 h109 ?_
  obtain ⟨w110, h110, h⟩ := gk_bind h
  refine Gk_callS (As := [.int v97, va_rf a2, .int x7, .int v109]) (rest := [.int x6]) (st1 := [.int w110.1, .int x6]) (k1 := 0) (n1 := 0) B gk_hG d_Fit_openPlaces_110 (sn_Fit_lastEnd h110) tw_583 tw_581 tw_582 tw_46 nm_Fit_lastEnd rfl (by simp [gk_rc, gk_ic, gk_jc, rm_Fit_openPlaces]) ⟨by decide, by decide⟩ ⟨by decide, by decide⟩ rfl rfl rfl rfl ?_
  refine Gk_iconst (v := (-1)) B d_Fit_openPlaces_113 (by decide) ?_
  refine Gk_icmp_ne (tgt := 121) B d_Fit_openPlaces_114 rfl (fun c114 => ?_) (fun c114 => ?_)
  · rw [if_neg c114] at h
    refine Gk_iconst (v := 1) B d_Fit_openPlaces_121 (by decide) ?_
    refine Gk_iload (x := x7) B d_Fit_openPlaces_122 rfl ?_
    refine Gk_ishl B d_Fit_openPlaces_124 ?_
    refine Gk_weak [true, true, true, true, false, true, false, true] (L' := [some (va_rf a0), some (va_rf a1), some (va_rf a2), some (.int x3), none, some (.int x5), none, some (.int x7)]) rfl ?_
    exact sn_Fit_openPlaces_125 B hr H69 H80 h
  rw [if_pos c114] at h
  refine Gk_iconst (v := 0) B d_Fit_openPlaces_117 (by decide) ?_
  refine Gk_goto (tgt := 125) B d_Fit_openPlaces_118 rfl ?_
  refine Gk_weak [true, true, true, true, false, true, false, true] (L' := [some (va_rf a0), some (va_rf a1), some (va_rf a2), some (.int x3), none, some (.int x5), none, some (.int x7)]) rfl ?_
  exact sn_Fit_openPlaces_125 B hr H69 H80 h
set_option maxHeartbeats 4000000 in
set_option maxRecDepth 100000 in
theorem sn_Fit_openPlaces_80 {l : Launch} {Γ : gk_G} {p : Program} {e : Env} {s : State} {m : MethodId} {args : Array Value} {below : List Frame} {meth : Method} {c : Code} (B : gk_B p s m args meth c gk_Y Γ c_Fit_openPlaces 8 "StageDispatcher$Fit") (hr : meth.sig.returnType = none) {ρ : gk_M} {k69 : Option Nat → Option Nat → Option Nat → Int32 → Int32 → gk_M → Option (gk_M)} (H69 : ∀ (a0 : Option Nat) (a1 : Option Nat) (a2 : Option Nat) (x3 : Int32) (x5 : Int32) (M : gk_M), k69 a0 a1 a2 x3 x5 M = some ρ → Gk p l e rm_Fit_openPlaces s m args below meth c gk_Y Γ 8 (MQ below (gk_Q gk_Y Γ none ρ) args s rm_Fit_openPlaces.cells rm_Fit_openPlaces.slots (fun q => Γ.2.2 ≤ q)) 0 0 M 69 [some (va_rf a0), some (va_rf a1), some (va_rf a2), some (.int x3), none, some (.int x5), none, none] []) {a0 : Option Nat} {a1 : Option Nat} {a2 : Option Nat} {x3 : Int32} {x5 : Int32} {x6 : Int32} {x7 : Int32} {M : gk_M} (h : fn_Fit_openPlaces_80 k69 a0 a1 a2 x3 x5 x6 x7 M = some ρ) : Gk p l e rm_Fit_openPlaces s m args below meth c gk_Y Γ 8 (MQ below (gk_Q gk_Y Γ none ρ) args s rm_Fit_openPlaces.cells rm_Fit_openPlaces.slots (fun q => Γ.2.2 ≤ q)) 0 0 M 80 [some (va_rf a0), some (va_rf a1), some (va_rf a2), some (.int x3), none, some (.int x5), some (.int x6), some (.int x7)] [] := by
  unfold fn_Fit_openPlaces_80 at h
  exact gk_loop_sound (α := Option Nat × Option Nat × Option Nat × Int32 × Int32 × Int32 × Int32 × gk_M) (P := fun a => Gk p l e rm_Fit_openPlaces s m args below meth c gk_Y Γ 8 (MQ below (gk_Q gk_Y Γ none ρ) args s rm_Fit_openPlaces.cells rm_Fit_openPlaces.slots (fun q => Γ.2.2 ≤ q)) 0 0 a.2.2.2.2.2.2.2 80 [some (va_rf a.1), some (va_rf a.2.1), some (va_rf a.2.2.1), some (.int a.2.2.2.1), none, some (.int a.2.2.2.2.1), some (.int a.2.2.2.2.2.1), some (.int a.2.2.2.2.2.2.1)] []) (fun kk a Hk hb => sn_Fit_openPlaces_80_bd B hr H69 (fun a0 a1 a2 x3 x5 x6 x7 M hh => Hk (a0, a1, a2, x3, x5, x6, x7, M) hh) hb) _ _ h
set_option maxHeartbeats 4000000 in
set_option maxRecDepth 100000 in
theorem sn_Fit_openPlaces_69_bd {l : Launch} {Γ : gk_G} {p : Program} {e : Env} {s : State} {m : MethodId} {args : Array Value} {below : List Frame} {meth : Method} {c : Code} (B : gk_B p s m args meth c gk_Y Γ c_Fit_openPlaces 8 "StageDispatcher$Fit") (hr : meth.sig.returnType = none) {ρ : gk_M} {k69 : Option Nat → Option Nat → Option Nat → Int32 → Int32 → gk_M → Option (gk_M)} (H69 : ∀ (a0 : Option Nat) (a1 : Option Nat) (a2 : Option Nat) (x3 : Int32) (x5 : Int32) (M : gk_M), k69 a0 a1 a2 x3 x5 M = some ρ → Gk p l e rm_Fit_openPlaces s m args below meth c gk_Y Γ 8 (MQ below (gk_Q gk_Y Γ none ρ) args s rm_Fit_openPlaces.cells rm_Fit_openPlaces.slots (fun q => Γ.2.2 ≤ q)) 0 0 M 69 [some (va_rf a0), some (va_rf a1), some (va_rf a2), some (.int x3), none, some (.int x5), none, none] []) {a0 : Option Nat} {a1 : Option Nat} {a2 : Option Nat} {x3 : Int32} {x5 : Int32} {M : gk_M} (h : fn_Fit_openPlaces_69_bd k69 a0 a1 a2 x3 x5 M = some ρ) : Gk p l e rm_Fit_openPlaces s m args below meth c gk_Y Γ 8 (MQ below (gk_Q gk_Y Γ none ρ) args s rm_Fit_openPlaces.cells rm_Fit_openPlaces.slots (fun q => Γ.2.2 ≤ q)) 0 0 M 69 [some (va_rf a0), some (va_rf a1), some (va_rf a2), some (.int x3), none, some (.int x5), none, none] [] := by
  unfold fn_Fit_openPlaces_69_bd at h
  refine Gk_iload (x := x5) B d_Fit_openPlaces_69 rfl ?_
  refine Gk_if_lt (tgt := 149) B d_Fit_openPlaces_71 rfl (fun c71 => ?_) (fun c71 => ?_)
  · rw [if_pos c71] at h
    cases h
    exact Gk_vret B hr d_Fit_openPlaces_149 (by decide) (by decide) rfl
  rw [if_neg c71] at h
  refine Gk_iconst (v := 0) B d_Fit_openPlaces_74 (by decide) ?_
  refine Gk_istore (L' := [some (va_rf a0), some (va_rf a1), some (va_rf a2), some (.int x3), none, some (.int x5), some (.int 0), none]) B d_Fit_openPlaces_75 (by decide) (gk_c1_i rfl) rfl ?_
  refine Gk_iload_n (i := 3) (x := x3) B d_Fit_openPlaces_77 rfl rfl ?_
  refine Gk_istore (L' := [some (va_rf a0), some (va_rf a1), some (va_rf a2), some (.int x3), none, some (.int x5), some (.int 0), some (.int x3)]) B d_Fit_openPlaces_78 (by decide) (gk_c1_i rfl) rfl ?_
  exact sn_Fit_openPlaces_80 B hr H69 h
set_option maxHeartbeats 4000000 in
set_option maxRecDepth 100000 in
theorem sn_Fit_openPlaces_69 {l : Launch} {Γ : gk_G} {p : Program} {e : Env} {s : State} {m : MethodId} {args : Array Value} {below : List Frame} {meth : Method} {c : Code} (B : gk_B p s m args meth c gk_Y Γ c_Fit_openPlaces 8 "StageDispatcher$Fit") (hr : meth.sig.returnType = none) {ρ : gk_M}   {a0 : Option Nat} {a1 : Option Nat} {a2 : Option Nat} {x3 : Int32} {x5 : Int32} {M : gk_M} (h : fn_Fit_openPlaces_69  a0 a1 a2 x3 x5 M = some ρ) : Gk p l e rm_Fit_openPlaces s m args below meth c gk_Y Γ 8 (MQ below (gk_Q gk_Y Γ none ρ) args s rm_Fit_openPlaces.cells rm_Fit_openPlaces.slots (fun q => Γ.2.2 ≤ q)) 0 0 M 69 [some (va_rf a0), some (va_rf a1), some (va_rf a2), some (.int x3), none, some (.int x5), none, none] [] := by
  unfold fn_Fit_openPlaces_69 at h
  exact gk_loop_sound (α := Option Nat × Option Nat × Option Nat × Int32 × Int32 × gk_M) (P := fun a => Gk p l e rm_Fit_openPlaces s m args below meth c gk_Y Γ 8 (MQ below (gk_Q gk_Y Γ none ρ) args s rm_Fit_openPlaces.cells rm_Fit_openPlaces.slots (fun q => Γ.2.2 ≤ q)) 0 0 a.2.2.2.2.2 69 [some (va_rf a.1), some (va_rf a.2.1), some (va_rf a.2.2.1), some (.int a.2.2.2.1), none, some (.int a.2.2.2.2.1), none, none] []) (fun kk a Hk hb => sn_Fit_openPlaces_69_bd B hr (fun a0 a1 a2 x3 x5 M hh => Hk (a0, a1, a2, x3, x5, M) hh) hb) _ _ h
set_option maxHeartbeats 4000000 in
set_option maxRecDepth 100000 in
theorem sn_Fit_openPlaces_11_bd {l : Launch} {Γ : gk_G} {p : Program} {e : Env} {s : State} {m : MethodId} {args : Array Value} {below : List Frame} {meth : Method} {c : Code} (B : gk_B p s m args meth c gk_Y Γ c_Fit_openPlaces 8 "StageDispatcher$Fit") (hr : meth.sig.returnType = none) {ρ : gk_M} {k11 : Option Nat → Option Nat → Option Nat → Int32 → Int32 → Int32 → gk_M → Option (gk_M)} (H11 : ∀ (a0 : Option Nat) (a1 : Option Nat) (a2 : Option Nat) (x3 : Int32) (x4 : Int32) (x5 : Int32) (M : gk_M), k11 a0 a1 a2 x3 x4 x5 M = some ρ → Gk p l e rm_Fit_openPlaces s m args below meth c gk_Y Γ 8 (MQ below (gk_Q gk_Y Γ none ρ) args s rm_Fit_openPlaces.cells rm_Fit_openPlaces.slots (fun q => Γ.2.2 ≤ q)) 0 0 M 11 [some (va_rf a0), some (va_rf a1), some (va_rf a2), some (.int x3), some (.int x4), some (.int x5), none, none] []) {a0 : Option Nat} {a1 : Option Nat} {a2 : Option Nat} {x3 : Int32} {x4 : Int32} {x5 : Int32} {M : gk_M} (h : fn_Fit_openPlaces_11_bd k11 a0 a1 a2 x3 x4 x5 M = some ρ) : Gk p l e rm_Fit_openPlaces s m args below meth c gk_Y Γ 8 (MQ below (gk_Q gk_Y Γ none ρ) args s rm_Fit_openPlaces.cells rm_Fit_openPlaces.slots (fun q => Γ.2.2 ≤ q)) 0 0 M 11 [some (va_rf a0), some (va_rf a1), some (va_rf a2), some (.int x3), some (.int x4), some (.int x5), none, none] [] := by
  unfold fn_Fit_openPlaces_11_bd at h
  refine Gk_iload (x := x5) B d_Fit_openPlaces_11 rfl ?_
  refine Gk_aload_n (i := 2) (r := a2) B d_Fit_openPlaces_13 rfl rfl ?_
  obtain ⟨v14, h14, h⟩ := gk_bind h
  refine Gk_getI (j := 1) B d_Fit_openPlaces_14 in_Text cl_Text (by decide) tw_77 rfl h14 ?_
  refine Gk_icmp_ge (tgt := 50) B d_Fit_openPlaces_17 rfl (fun c17 => ?_) (fun c17 => ?_)
  · rw [if_pos c17] at h
    refine Gk_aload_n (i := 0) (r := a0) B d_Fit_openPlaces_50 rfl rfl ?_
    obtain ⟨v51, h51, h⟩ := gk_bind h
    refine Gk_getR (j := 0) B d_Fit_openPlaces_51 in_Fit cl_Fit (by decide) tw_182 rfl h51 ?_
    refine Gk_aload_n (i := 1) (r := a1) B d_Fit_openPlaces_54 rfl rfl ?_
    obtain ⟨v55, h55, h⟩ := gk_bind h
    refine Gk_getI (j := 1) B d_Fit_openPlaces_55 in_Template cl_Template (by decide) tw_340 rfl h55 ?_
    refine Gk_iload (x := x4) B d_Fit_openPlaces_58 rfl ?_
    obtain ⟨M60, h60, h⟩ := gk_bind h
    refine Gk_iastore B d_Fit_openPlaces_60 ty_0 h60 ?_
    refine Gk_aload_n (i := 1) (r := a1) B d_Fit_openPlaces_61 rfl rfl ?_
    obtain ⟨v62, h62, h⟩ := gk_bind h
    refine Gk_getI (j := 1) B d_Fit_openPlaces_62 in_Template cl_Template (by decide) tw_340 rfl h62 ?_
    refine Gk_iconst (v := 1) B d_Fit_openPlaces_65 (by decide) ?_
    refine Gk_isub B d_Fit_openPlaces_66 ?_
    refine Gk_istore (L' := [some (va_rf a0), some (va_rf a1), some (va_rf a2), some (.int x3), some (.int x4), some (.int (v62 - (1 : Int32))), none, none]) B d_Fit_openPlaces_67 (by decide) (gk_c1_i rfl) rfl ?_
    refine Gk_weak [true, true, true, true, false, true, false, false] (L' := [some (va_rf a0), some (va_rf a1), some (va_rf a2), some (.int x3), none, some (.int (v62 - (1 : Int32))), none, none]) rfl ?_
    exact sn_Fit_openPlaces_69 B hr h
  rw [if_neg c17] at h
  refine Gk_iload (x := x4) B d_Fit_openPlaces_20 rfl ?_
  refine Gk_aload_n (i := 2) (r := a2) B d_Fit_openPlaces_22 rfl rfl ?_
  refine Gk_iload (x := x5) B d_Fit_openPlaces_23 rfl ?_
  refine Gk_bipush (v := 47) B d_Fit_openPlaces_25 (by decide) ?_
  obtain ⟨o27, g27, h⟩ := gk_bind h
  obtain ⟨w27, h27, h⟩ := gk_bind h
  refine Gk_callV (As := [.int x5, .int 47]) (rest := [.int x4]) (st1 := [.int w27.1, .int x4]) (k1 := 0) (n1 := 0) B gk_hG d_Fit_openPlaces_27 (sn_Text_has h27) g27 cl_Text tw_321 tw_580 tw_319 tw_320 tw_41 nm_Text_has rfl (by simp [gk_rc, gk_ic, gk_jc, rm_Fit_openPlaces]) ⟨by decide, by decide⟩ ⟨by decide, by decide⟩ rfl rfl rfl rfl ?_
  refine Gk_if_eq (tgt := 40) B d_Fit_openPlaces_30 rfl (fun c30 => ?_) (fun c30 => ?_)
  · rw [if_pos c30] at h
    refine Gk_iconst (v := 0) B d_Fit_openPlaces_40 (by decide) ?_
    refine Gk_weak [true, true, true, true, false, true, false, false] (L' := [some (va_rf a0), some (va_rf a1), some (va_rf a2), some (.int x3), none, some (.int x5), none, none]) rfl ?_
    exact sn_Fit_openPlaces_41 B hr H11 h
  rw [if_neg c30] at h
  refine Gk_iconst (v := 1) B d_Fit_openPlaces_33 (by decide) ?_
  refine Gk_iload (x := x5) B d_Fit_openPlaces_34 rfl ?_
  refine Gk_ishl B d_Fit_openPlaces_36 ?_
  refine Gk_goto (tgt := 41) B d_Fit_openPlaces_37 rfl ?_
  refine Gk_weak [true, true, true, true, false, true, false, false] (L' := [some (va_rf a0), some (va_rf a1), some (va_rf a2), some (.int x3), none, some (.int x5), none, none]) rfl ?_
  exact sn_Fit_openPlaces_41 B hr H11 h
set_option maxHeartbeats 4000000 in
set_option maxRecDepth 100000 in
theorem sn_Fit_openPlaces_11 {l : Launch} {Γ : gk_G} {p : Program} {e : Env} {s : State} {m : MethodId} {args : Array Value} {below : List Frame} {meth : Method} {c : Code} (B : gk_B p s m args meth c gk_Y Γ c_Fit_openPlaces 8 "StageDispatcher$Fit") (hr : meth.sig.returnType = none) {ρ : gk_M}   {a0 : Option Nat} {a1 : Option Nat} {a2 : Option Nat} {x3 : Int32} {x4 : Int32} {x5 : Int32} {M : gk_M} (h : fn_Fit_openPlaces_11  a0 a1 a2 x3 x4 x5 M = some ρ) : Gk p l e rm_Fit_openPlaces s m args below meth c gk_Y Γ 8 (MQ below (gk_Q gk_Y Γ none ρ) args s rm_Fit_openPlaces.cells rm_Fit_openPlaces.slots (fun q => Γ.2.2 ≤ q)) 0 0 M 11 [some (va_rf a0), some (va_rf a1), some (va_rf a2), some (.int x3), some (.int x4), some (.int x5), none, none] [] := by
  unfold fn_Fit_openPlaces_11 at h
  exact gk_loop_sound (α := Option Nat × Option Nat × Option Nat × Int32 × Int32 × Int32 × gk_M) (P := fun a => Gk p l e rm_Fit_openPlaces s m args below meth c gk_Y Γ 8 (MQ below (gk_Q gk_Y Γ none ρ) args s rm_Fit_openPlaces.cells rm_Fit_openPlaces.slots (fun q => Γ.2.2 ≤ q)) 0 0 a.2.2.2.2.2.2 11 [some (va_rf a.1), some (va_rf a.2.1), some (va_rf a.2.2.1), some (.int a.2.2.2.1), some (.int a.2.2.2.2.1), some (.int a.2.2.2.2.2.1), none, none] []) (fun kk a Hk hb => sn_Fit_openPlaces_11_bd B hr (fun a0 a1 a2 x3 x4 x5 M hh => Hk (a0, a1, a2, x3, x4, x5, M) hh) hb) _ _ h
set_option maxHeartbeats 4000000 in
set_option maxRecDepth 100000 in
theorem sn_Fit_openPlaces_0 {l : Launch} {Γ : gk_G} {p : Program} {e : Env} {s : State} {m : MethodId} {args : Array Value} {below : List Frame} {meth : Method} {c : Code} (B : gk_B p s m args meth c gk_Y Γ c_Fit_openPlaces 8 "StageDispatcher$Fit") (hr : meth.sig.returnType = none) {ρ : gk_M}   {a0 : Option Nat} {a1 : Option Nat} {a2 : Option Nat} {x3 : Int32} {M : gk_M} (h : fn_Fit_openPlaces  a0 a1 a2 x3 M = some ρ) : Gk p l e rm_Fit_openPlaces s m args below meth c gk_Y Γ 8 (MQ below (gk_Q gk_Y Γ none ρ) args s rm_Fit_openPlaces.cells rm_Fit_openPlaces.slots (fun q => Γ.2.2 ≤ q)) 0 0 M 0 [some (va_rf a0), some (va_rf a1), some (va_rf a2), some (.int x3), none, none, none, none] [] := by
  unfold fn_Fit_openPlaces at h
  refine Gk_iconst (v := 1) B d_Fit_openPlaces_0 (by decide) ?_
  refine Gk_aload_n (i := 2) (r := a2) B d_Fit_openPlaces_1 rfl rfl ?_
  obtain ⟨v2, h2, h⟩ := gk_bind h
  refine Gk_getI (j := 1) B d_Fit_openPlaces_2 in_Text cl_Text (by decide) tw_77 rfl h2 ?_
  refine Gk_ishl B d_Fit_openPlaces_5 ?_
  refine Gk_istore (L' := [some (va_rf a0), some (va_rf a1), some (va_rf a2), some (.int x3), some (.int ((1 : Int32) <<< (v2 &&& 31))), none, none, none]) B d_Fit_openPlaces_6 (by decide) (gk_c1_i rfl) rfl ?_
  refine Gk_iload_n (i := 3) (x := x3) B d_Fit_openPlaces_8 rfl rfl ?_
  refine Gk_istore (L' := [some (va_rf a0), some (va_rf a1), some (va_rf a2), some (.int x3), some (.int ((1 : Int32) <<< (v2 &&& 31))), some (.int x3), none, none]) B d_Fit_openPlaces_9 (by decide) (gk_c1_i rfl) rfl ?_
  exact sn_Fit_openPlaces_11 B hr h
theorem sn_Fit_openPlaces {l : Launch} {Γ : gk_G} {a0 : Option Nat} {a1 : Option Nat} {a2 : Option Nat} {x3 : Int32} {M : gk_M} {ρ : gk_M} (h : fn_Fit_openPlaces a0 a1 a2 x3 M = some ρ) : gk_Met l gk_Y Γ y_Fit_openPlaces (.code y_Fit_openPlaces c_Fit_openPlaces 8 none :: gk_Y.2.2.2) rm_Fit_openPlaces [va_rf a0, va_rf a1, va_rf a2, .int x3] M none ρ :=
  gk_start (by decide) (by simp [lg_sl, gk_rc, gk_ic, gk_jc]) [some (va_rf a0), some (va_rf a1), some (va_rf a2), some (.int x3), none, none, none, none] (by simp [gk_as, lv_args, gk_rc, gk_ic, gk_jc]) (fun p e s m args below meth c B hr hin => sn_Fit_openPlaces_0 B hr h)
theorem d_Fit_find_0 : decode c_Fit_find 0 = .ok (.aload_n 0, 1) := by decide +kernel
theorem d_Fit_find_1 : decode c_Fit_find 1 = .ok (.aload_n 1, 1) := by decide +kernel
theorem d_Fit_find_2 : decode c_Fit_find 2 = .ok (.aload_n 2, 1) := by decide +kernel
theorem d_Fit_find_3 : decode c_Fit_find 3 = .ok (.iload_n 3, 1) := by decide +kernel
theorem d_Fit_find_4 : decode c_Fit_find 4 = .ok (.invokevirtual 28, 3) := by decide +kernel
theorem d_Fit_find_7 : decode c_Fit_find 7 = .ok (.aload_n 0, 1) := by decide +kernel
theorem d_Fit_find_8 : decode c_Fit_find 8 = .ok (.getfield 9, 3) := by decide +kernel
theorem d_Fit_find_11 : decode c_Fit_find 11 = .ok (.iconst 0, 1) := by decide +kernel
theorem d_Fit_find_12 : decode c_Fit_find 12 = .ok (.iaload, 1) := by decide +kernel
theorem d_Fit_find_13 : decode c_Fit_find 13 = .ok (.iload_n 3, 1) := by decide +kernel
theorem d_Fit_find_14 : decode c_Fit_find 14 = .ok (.invokestatic 32, 3) := by decide +kernel
theorem d_Fit_find_17 : decode c_Fit_find 17 = .ok (.ifCond .ne 5, 3) := by decide +kernel
theorem d_Fit_find_20 : decode c_Fit_find 20 = .ok (.iconst 0, 1) := by decide +kernel
theorem d_Fit_find_21 : decode c_Fit_find 21 = .ok (.ireturn, 1) := by decide +kernel
theorem d_Fit_find_22 : decode c_Fit_find 22 = .ok (.aload_n 0, 1) := by decide +kernel
theorem d_Fit_find_23 : decode c_Fit_find 23 = .ok (.iconst 0, 1) := by decide +kernel
theorem d_Fit_find_24 : decode c_Fit_find 24 = .ok (.putfield 21, 3) := by decide +kernel
theorem d_Fit_find_27 : decode c_Fit_find 27 = .ok (.iload_n 3, 1) := by decide +kernel
theorem d_Fit_find_28 : decode c_Fit_find 28 = .ok (.istore 4, 2) := by decide +kernel
theorem d_Fit_find_30 : decode c_Fit_find 30 = .ok (.iconst 0, 1) := by decide +kernel
theorem d_Fit_find_31 : decode c_Fit_find 31 = .ok (.istore 5, 2) := by decide +kernel
theorem d_Fit_find_33 : decode c_Fit_find 33 = .ok (.iload 5, 2) := by decide +kernel
theorem d_Fit_find_35 : decode c_Fit_find 35 = .ok (.aload_n 1, 1) := by decide +kernel
theorem d_Fit_find_36 : decode c_Fit_find 36 = .ok (.getfield 36, 3) := by decide +kernel
theorem d_Fit_find_39 : decode c_Fit_find 39 = .ok (.if_icmp .ge 82, 3) := by decide +kernel
theorem d_Fit_find_42 : decode c_Fit_find 42 = .ok (.aload_n 1, 1) := by decide +kernel
theorem d_Fit_find_43 : decode c_Fit_find 43 = .ok (.getfield 41, 3) := by decide +kernel
theorem d_Fit_find_46 : decode c_Fit_find 46 = .ok (.iload 5, 2) := by decide +kernel
theorem d_Fit_find_48 : decode c_Fit_find 48 = .ok (.iaload, 1) := by decide +kernel
theorem d_Fit_find_49 : decode c_Fit_find 49 = .ok (.aload_n 2, 1) := by decide +kernel
theorem d_Fit_find_50 : decode c_Fit_find 50 = .ok (.iload 4, 2) := by decide +kernel
theorem d_Fit_find_52 : decode c_Fit_find 52 = .ok (.aload_n 0, 1) := by decide +kernel
theorem d_Fit_find_53 : decode c_Fit_find 53 = .ok (.getfield 9, 3) := by decide +kernel
theorem d_Fit_find_56 : decode c_Fit_find 56 = .ok (.iload 5, 2) := by decide +kernel
theorem d_Fit_find_58 : decode c_Fit_find 58 = .ok (.iconst 1, 1) := by decide +kernel
theorem d_Fit_find_59 : decode c_Fit_find 59 = .ok (.iadd, 1) := by decide +kernel
theorem d_Fit_find_60 : decode c_Fit_find 60 = .ok (.iaload, 1) := by decide +kernel
theorem d_Fit_find_61 : decode c_Fit_find 61 = .ok (.invokestatic 44, 3) := by decide +kernel
theorem d_Fit_find_64 : decode c_Fit_find 64 = .ok (.istore 6, 2) := by decide +kernel
theorem d_Fit_find_66 : decode c_Fit_find 66 = .ok (.aload_n 1, 1) := by decide +kernel
theorem d_Fit_find_67 : decode c_Fit_find 67 = .ok (.getfield 41, 3) := by decide +kernel
theorem d_Fit_find_70 : decode c_Fit_find 70 = .ok (.iload 5, 2) := by decide +kernel
theorem d_Fit_find_72 : decode c_Fit_find 72 = .ok (.iaload, 1) := by decide +kernel
theorem d_Fit_find_73 : decode c_Fit_find 73 = .ok (.invokestatic 48, 3) := by decide +kernel
theorem d_Fit_find_76 : decode c_Fit_find 76 = .ok (.ifCond .eq 35, 3) := by decide +kernel
theorem d_Fit_find_79 : decode c_Fit_find 79 = .ok (.aload_n 0, 1) := by decide +kernel
theorem d_Fit_find_80 : decode c_Fit_find 80 = .ok (.getfield 15, 3) := by decide +kernel
theorem d_Fit_find_83 : decode c_Fit_find 83 = .ok (.aload_n 0, 1) := by decide +kernel
theorem d_Fit_find_84 : decode c_Fit_find 84 = .ok (.getfield 21, 3) := by decide +kernel
theorem d_Fit_find_87 : decode c_Fit_find 87 = .ok (.iload 4, 2) := by decide +kernel
theorem d_Fit_find_89 : decode c_Fit_find 89 = .ok (.iastore, 1) := by decide +kernel
theorem d_Fit_find_90 : decode c_Fit_find 90 = .ok (.aload_n 0, 1) := by decide +kernel
theorem d_Fit_find_91 : decode c_Fit_find 91 = .ok (.getfield 18, 3) := by decide +kernel
theorem d_Fit_find_94 : decode c_Fit_find 94 = .ok (.aload_n 0, 1) := by decide +kernel
theorem d_Fit_find_95 : decode c_Fit_find 95 = .ok (.getfield 21, 3) := by decide +kernel
theorem d_Fit_find_98 : decode c_Fit_find 98 = .ok (.iload 6, 2) := by decide +kernel
theorem d_Fit_find_100 : decode c_Fit_find 100 = .ok (.iastore, 1) := by decide +kernel
theorem d_Fit_find_101 : decode c_Fit_find 101 = .ok (.aload_n 0, 1) := by decide +kernel
theorem d_Fit_find_102 : decode c_Fit_find 102 = .ok (.dup, 1) := by decide +kernel
theorem d_Fit_find_103 : decode c_Fit_find 103 = .ok (.getfield 21, 3) := by decide +kernel
theorem d_Fit_find_106 : decode c_Fit_find 106 = .ok (.iconst 1, 1) := by decide +kernel
theorem d_Fit_find_107 : decode c_Fit_find 107 = .ok (.iadd, 1) := by decide +kernel
theorem d_Fit_find_108 : decode c_Fit_find 108 = .ok (.putfield 21, 3) := by decide +kernel
theorem d_Fit_find_111 : decode c_Fit_find 111 = .ok (.iload 6, 2) := by decide +kernel
theorem d_Fit_find_113 : decode c_Fit_find 113 = .ok (.istore 4, 2) := by decide +kernel
theorem d_Fit_find_115 : decode c_Fit_find 115 = .ok (.iinc 5 1, 3) := by decide +kernel
theorem d_Fit_find_118 : decode c_Fit_find 118 = .ok (.goto (-85), 3) := by decide +kernel
theorem d_Fit_find_121 : decode c_Fit_find 121 = .ok (.aload_n 0, 1) := by decide +kernel
theorem d_Fit_find_122 : decode c_Fit_find 122 = .ok (.iload 4, 2) := by decide +kernel
theorem d_Fit_find_124 : decode c_Fit_find 124 = .ok (.putfield 25, 3) := by decide +kernel
theorem d_Fit_find_127 : decode c_Fit_find 127 = .ok (.iconst 1, 1) := by decide +kernel
theorem d_Fit_find_128 : decode c_Fit_find 128 = .ok (.ireturn, 1) := by decide +kernel
set_option maxHeartbeats 4000000 in
set_option maxRecDepth 100000 in
theorem sn_Fit_find_111 {l : Launch} {Γ : gk_G} {p : Program} {e : Env} {s : State} {m : MethodId} {args : Array Value} {below : List Frame} {meth : Method} {c : Code} (B : gk_B p s m args meth c gk_Y Γ c_Fit_find 7 "StageDispatcher$Fit") (hr : meth.sig.returnType = (some .boolean)) {ρ : Int32 × gk_M} {k33 : Option Nat → Option Nat → Option Nat → Int32 → Int32 → gk_M → Option (Int32 × gk_M)} (H33 : ∀ (a0 : Option Nat) (a1 : Option Nat) (a2 : Option Nat) (x4 : Int32) (x5 : Int32) (M : gk_M), k33 a0 a1 a2 x4 x5 M = some ρ → Gk p l e rm_Fit_find s m args below meth c gk_Y Γ 7 (MQ below (gk_Q gk_Y Γ (some (.int ρ.1)) ρ.2) args s rm_Fit_find.cells rm_Fit_find.slots (fun q => Γ.2.2 ≤ q)) 0 0 M 33 [some (va_rf a0), some (va_rf a1), some (va_rf a2), none, some (.int x4), some (.int x5), none] []) {a0 : Option Nat} {a1 : Option Nat} {a2 : Option Nat} {x5 : Int32} {x6 : Int32} {M : gk_M} (h : fn_Fit_find_111 k33 a0 a1 a2 x5 x6 M = some ρ) : Gk p l e rm_Fit_find s m args below meth c gk_Y Γ 7 (MQ below (gk_Q gk_Y Γ (some (.int ρ.1)) ρ.2) args s rm_Fit_find.cells rm_Fit_find.slots (fun q => Γ.2.2 ≤ q)) 0 0 M 111 [some (va_rf a0), some (va_rf a1), some (va_rf a2), none, none, some (.int x5), some (.int x6)] [] := by
  unfold fn_Fit_find_111 at h
  refine Gk_iload (x := x6) B d_Fit_find_111 rfl ?_
  refine Gk_istore (L' := [some (va_rf a0), some (va_rf a1), some (va_rf a2), none, some (.int x6), some (.int x5), some (.int x6)]) B d_Fit_find_113 (by decide) (gk_c1_n rfl) rfl ?_
  refine Gk_iinc (x := x5) (v := (x5 + 1)) (L' := [some (va_rf a0), some (va_rf a1), some (va_rf a2), none, some (.int x6), some (.int (x5 + 1)), some (.int x6)]) B d_Fit_find_115 rfl (congrArg (fun z => x5 + z) (by decide : Int32.ofInt 1 = 1)) (by decide) (gk_c1_i rfl) rfl ?_
  refine Gk_goto (tgt := 33) B d_Fit_find_118 rfl ?_
  refine Gk_weak [true, true, true, false, true, true, false] (L' := [some (va_rf a0), some (va_rf a1), some (va_rf a2), none, some (.int x6), some (.int (x5 + 1)), none]) rfl ?_
  exact H33 a0 a1 a2 x6 (x5 + 1) M h
set_option maxHeartbeats 4000000 in
set_option maxRecDepth 100000 in
theorem sn_Fit_find_33_bd {l : Launch} {Γ : gk_G} {p : Program} {e : Env} {s : State} {m : MethodId} {args : Array Value} {below : List Frame} {meth : Method} {c : Code} (B : gk_B p s m args meth c gk_Y Γ c_Fit_find 7 "StageDispatcher$Fit") (hr : meth.sig.returnType = (some .boolean)) {ρ : Int32 × gk_M} {k33 : Option Nat → Option Nat → Option Nat → Int32 → Int32 → gk_M → Option (Int32 × gk_M)} (H33 : ∀ (a0 : Option Nat) (a1 : Option Nat) (a2 : Option Nat) (x4 : Int32) (x5 : Int32) (M : gk_M), k33 a0 a1 a2 x4 x5 M = some ρ → Gk p l e rm_Fit_find s m args below meth c gk_Y Γ 7 (MQ below (gk_Q gk_Y Γ (some (.int ρ.1)) ρ.2) args s rm_Fit_find.cells rm_Fit_find.slots (fun q => Γ.2.2 ≤ q)) 0 0 M 33 [some (va_rf a0), some (va_rf a1), some (va_rf a2), none, some (.int x4), some (.int x5), none] []) {a0 : Option Nat} {a1 : Option Nat} {a2 : Option Nat} {x4 : Int32} {x5 : Int32} {M : gk_M} (h : fn_Fit_find_33_bd k33 a0 a1 a2 x4 x5 M = some ρ) : Gk p l e rm_Fit_find s m args below meth c gk_Y Γ 7 (MQ below (gk_Q gk_Y Γ (some (.int ρ.1)) ρ.2) args s rm_Fit_find.cells rm_Fit_find.slots (fun q => Γ.2.2 ≤ q)) 0 0 M 33 [some (va_rf a0), some (va_rf a1), some (va_rf a2), none, some (.int x4), some (.int x5), none] [] := by
  unfold fn_Fit_find_33_bd at h
  refine Gk_iload (x := x5) B d_Fit_find_33 rfl ?_
  refine Gk_aload_n (i := 1) (r := a1) B d_Fit_find_35 rfl rfl ?_
  obtain ⟨v36, h36, h⟩ := gk_bind h
  refine Gk_getI (j := 1) B d_Fit_find_36 in_Template cl_Template (by decide) tw_340 rfl h36 ?_
  refine Gk_icmp_ge (tgt := 121) B d_Fit_find_39 rfl (fun c39 => ?_) (fun c39 => ?_)
  · rw [if_pos c39] at h
    refine Gk_aload_n (i := 0) (r := a0) B d_Fit_find_121 rfl rfl ?_
    refine Gk_iload (x := x4) B d_Fit_find_122 rfl ?_
    obtain ⟨M124, h124, h⟩ := gk_bind h
    refine Gk_put (j := 4) (ty := .int) B d_Fit_find_124 in_Fit t_Fit t_Fit_ok n_Fit cl_Fit (by decide) tw_189 rfl rfl rfl rfl rfl h124 ?_
    refine Gk_iconst (v := 1) B d_Fit_find_127 (by decide) ?_
    obtain ⟨z, hz, h⟩ := gk_bind h
    obtain ⟨hz1, hz2⟩ := gk_z_eq hz
    cases h
    subst hz1
    exact Gk_iret B hr d_Fit_find_128 (gk_nz hz2) (by decide) (by decide) rfl
  rw [if_neg c39] at h
  refine Gk_aload_n (i := 1) (r := a1) B d_Fit_find_42 rfl rfl ?_
  obtain ⟨v43, h43, h⟩ := gk_bind h
  refine Gk_getR (j := 0) B d_Fit_find_43 in_Template cl_Template (by decide) tw_338 rfl h43 ?_
  refine Gk_iload (x := x5) B d_Fit_find_46 rfl ?_
  obtain ⟨v48, h48, h⟩ := gk_bind h
  refine Gk_iaload B d_Fit_find_48 ty_0 h48 ?_
  refine Gk_aload_n (i := 2) (r := a2) B d_Fit_find_49 rfl rfl ?_
  refine Gk_iload (x := x4) B d_Fit_find_50 rfl ?_
  refine Gk_aload_n (i := 0) (r := a0) B d_Fit_find_52 rfl rfl ?_
  obtain ⟨v53, h53, h⟩ := gk_bind h
  refine Gk_getR (j := 0) B d_Fit_find_53 in_Fit cl_Fit (by decide) tw_182 rfl h53 ?_
  refine Gk_iload (x := x5) B d_Fit_find_56 rfl ?_
  refine Gk_iconst (v := 1) B d_Fit_find_58 (by decide) ?_
  refine Gk_iadd B d_Fit_find_59 ?_
  obtain ⟨v60, h60, h⟩ := gk_bind h
  refine Gk_iaload B d_Fit_find_60 ty_0 h60 ?_
  obtain ⟨w61, h61, h⟩ := gk_bind h
  refine Gk_callS (As := [.int v48, va_rf a2, .int x4, .int v60]) (rest := []) (st1 := [.int w61.1]) (k1 := 0) (n1 := 0) B gk_hG d_Fit_find_61 (sn_Fit_lastEnd h61) tw_583 tw_581 tw_582 tw_46 nm_Fit_lastEnd rfl (by decide) ⟨by decide, by decide⟩ ⟨by decide, by decide⟩ rfl rfl rfl rfl ?_
  refine Gk_istore (L' := [some (va_rf a0), some (va_rf a1), some (va_rf a2), none, some (.int x4), some (.int x5), some (.int w61.1)]) B d_Fit_find_64 (by decide) (gk_c1_i rfl) rfl ?_
  refine Gk_aload_n (i := 1) (r := a1) B d_Fit_find_66 rfl rfl ?_
  obtain ⟨v67, h67, h⟩ := gk_bind h
  refine Gk_getR (j := 0) B d_Fit_find_67 in_Template cl_Template (by decide) tw_338 rfl h67 ?_
  refine Gk_iload (x := x5) B d_Fit_find_70 rfl ?_
  obtain ⟨v72, h72, h⟩ := gk_bind h
  refine Gk_iaload B d_Fit_find_72 ty_0 h72 ?_
  obtain ⟨w73, h73, h⟩ := gk_bind h
  refine Gk_callS (As := [.int v72]) (rest := []) (st1 := [.int w73.1]) (k1 := 0) (n1 := 0) B gk_hG d_Fit_find_73 (sn_Template_isGroup h73) tw_336 tw_584 tw_335 tw_49 nm_Template_isGroup rfl (by decide) ⟨by decide, by decide⟩ ⟨by decide, by decide⟩ rfl rfl rfl rfl ?_
  refine Gk_if_eq (tgt := 111) B d_Fit_find_76 rfl (fun c76 => ?_) (fun c76 => ?_)
  · rw [if_pos c76] at h
    refine Gk_weak [true, true, true, false, false, true, true] (L' := [some (va_rf a0), some (va_rf a1), some (va_rf a2), none, none, some (.int x5), some (.int w61.1)]) rfl ?_
    exact sn_Fit_find_111 B hr H33 h
  rw [if_neg c76] at h
  refine Gk_aload_n (i := 0) (r := a0) B d_Fit_find_79 rfl rfl ?_
  obtain ⟨v80, h80, h⟩ := gk_bind h
  refine Gk_getR (j := 1) B d_Fit_find_80 in_Fit cl_Fit (by decide) tw_183 rfl h80 ?_
  refine Gk_aload_n (i := 0) (r := a0) B d_Fit_find_83 rfl rfl ?_
  obtain ⟨v84, h84, h⟩ := gk_bind h
  refine Gk_getI (j := 3) B d_Fit_find_84 in_Fit cl_Fit (by decide) tw_187 rfl h84 ?_
  refine Gk_iload (x := x4) B d_Fit_find_87 rfl ?_
  obtain ⟨M89, h89, h⟩ := gk_bind h
  refine Gk_iastore B d_Fit_find_89 ty_0 h89 ?_
  refine Gk_aload_n (i := 0) (r := a0) B d_Fit_find_90 rfl rfl ?_
  obtain ⟨v91, h91, h⟩ := gk_bind h
  refine Gk_getR (j := 2) B d_Fit_find_91 in_Fit cl_Fit (by decide) tw_185 rfl h91 ?_
  refine Gk_aload_n (i := 0) (r := a0) B d_Fit_find_94 rfl rfl ?_
  obtain ⟨v95, h95, h⟩ := gk_bind h
  refine Gk_getI (j := 3) B d_Fit_find_95 in_Fit cl_Fit (by decide) tw_187 rfl h95 ?_
  refine Gk_iload (x := w61.1) B d_Fit_find_98 rfl ?_
  obtain ⟨M100, h100, h⟩ := gk_bind h
  refine Gk_iastore B d_Fit_find_100 ty_0 h100 ?_
  refine Gk_aload_n (i := 0) (r := a0) B d_Fit_find_101 rfl rfl ?_
  refine Gk_dup B d_Fit_find_102 (gk_rc _) ?_
  obtain ⟨v103, h103, h⟩ := gk_bind h
  refine Gk_getI (j := 3) B d_Fit_find_103 in_Fit cl_Fit (by decide) tw_187 rfl h103 ?_
  refine Gk_iconst (v := 1) B d_Fit_find_106 (by decide) ?_
  refine Gk_iadd B d_Fit_find_107 ?_
  obtain ⟨M108, h108, h⟩ := gk_bind h
  refine Gk_put (j := 3) (ty := .int) B d_Fit_find_108 in_Fit t_Fit t_Fit_ok n_Fit cl_Fit (by decide) tw_187 rfl rfl rfl rfl rfl h108 ?_
  refine Gk_weak [true, true, true, false, false, true, true] (L' := [some (va_rf a0), some (va_rf a1), some (va_rf a2), none, none, some (.int x5), some (.int w61.1)]) rfl ?_
  exact sn_Fit_find_111 B hr H33 h
set_option maxHeartbeats 4000000 in
set_option maxRecDepth 100000 in
theorem sn_Fit_find_33 {l : Launch} {Γ : gk_G} {p : Program} {e : Env} {s : State} {m : MethodId} {args : Array Value} {below : List Frame} {meth : Method} {c : Code} (B : gk_B p s m args meth c gk_Y Γ c_Fit_find 7 "StageDispatcher$Fit") (hr : meth.sig.returnType = (some .boolean)) {ρ : Int32 × gk_M}   {a0 : Option Nat} {a1 : Option Nat} {a2 : Option Nat} {x4 : Int32} {x5 : Int32} {M : gk_M} (h : fn_Fit_find_33  a0 a1 a2 x4 x5 M = some ρ) : Gk p l e rm_Fit_find s m args below meth c gk_Y Γ 7 (MQ below (gk_Q gk_Y Γ (some (.int ρ.1)) ρ.2) args s rm_Fit_find.cells rm_Fit_find.slots (fun q => Γ.2.2 ≤ q)) 0 0 M 33 [some (va_rf a0), some (va_rf a1), some (va_rf a2), none, some (.int x4), some (.int x5), none] [] := by
  unfold fn_Fit_find_33 at h
  exact gk_loop_sound (α := Option Nat × Option Nat × Option Nat × Int32 × Int32 × gk_M) (P := fun a => Gk p l e rm_Fit_find s m args below meth c gk_Y Γ 7 (MQ below (gk_Q gk_Y Γ (some (.int ρ.1)) ρ.2) args s rm_Fit_find.cells rm_Fit_find.slots (fun q => Γ.2.2 ≤ q)) 0 0 a.2.2.2.2.2 33 [some (va_rf a.1), some (va_rf a.2.1), some (va_rf a.2.2.1), none, some (.int a.2.2.2.1), some (.int a.2.2.2.2.1), none] []) (fun kk a Hk hb => sn_Fit_find_33_bd B hr (fun a0 a1 a2 x4 x5 M hh => Hk (a0, a1, a2, x4, x5, M) hh) hb) _ _ h
set_option maxHeartbeats 4000000 in
set_option maxRecDepth 100000 in
theorem sn_Fit_find_0 {l : Launch} {Γ : gk_G} {p : Program} {e : Env} {s : State} {m : MethodId} {args : Array Value} {below : List Frame} {meth : Method} {c : Code} (B : gk_B p s m args meth c gk_Y Γ c_Fit_find 7 "StageDispatcher$Fit") (hr : meth.sig.returnType = (some .boolean)) {ρ : Int32 × gk_M}   {a0 : Option Nat} {a1 : Option Nat} {a2 : Option Nat} {x3 : Int32} {M : gk_M} (h : fn_Fit_find  a0 a1 a2 x3 M = some ρ) : Gk p l e rm_Fit_find s m args below meth c gk_Y Γ 7 (MQ below (gk_Q gk_Y Γ (some (.int ρ.1)) ρ.2) args s rm_Fit_find.cells rm_Fit_find.slots (fun q => Γ.2.2 ≤ q)) 0 0 M 0 [some (va_rf a0), some (va_rf a1), some (va_rf a2), some (.int x3), none, none, none] [] := by
  unfold fn_Fit_find at h
  refine Gk_aload_n (i := 0) (r := a0) B d_Fit_find_0 rfl rfl ?_
  refine Gk_aload_n (i := 1) (r := a1) B d_Fit_find_1 rfl rfl ?_
  refine Gk_aload_n (i := 2) (r := a2) B d_Fit_find_2 rfl rfl ?_
  refine Gk_iload_n (i := 3) (x := x3) B d_Fit_find_3 rfl rfl ?_
  obtain ⟨o4, g4, h⟩ := gk_bind h
  obtain ⟨w4, h4, h⟩ := gk_bind h
  refine Gk_callV (As := [va_rf a1, va_rf a2, .int x3]) (rest := []) (st1 := []) (k1 := 0) (n1 := 0) B gk_hG d_Fit_find_4 (sn_Fit_openPlaces h4) g4 cl_Fit tw_579 tw_576 tw_578 tw_3 tw_46 nm_Fit_openPlaces rfl (by decide) ⟨by decide, by decide⟩ ⟨by decide, by decide⟩ rfl rfl rfl rfl ?_
  refine Gk_aload_n (i := 0) (r := a0) B d_Fit_find_7 rfl rfl ?_
  obtain ⟨v8, h8, h⟩ := gk_bind h
  refine Gk_getR (j := 0) B d_Fit_find_8 in_Fit cl_Fit (by decide) tw_182 rfl h8 ?_
  refine Gk_iconst (v := 0) B d_Fit_find_11 (by decide) ?_
  obtain ⟨v12, h12, h⟩ := gk_bind h
  refine Gk_iaload B d_Fit_find_12 ty_0 h12 ?_
  refine Gk_iload_n (i := 3) (x := x3) B d_Fit_find_13 rfl rfl ?_
  obtain ⟨w14, h14, h⟩ := gk_bind h
  refine Gk_callSN (As := [.int v12, .int x3]) (rest := []) (st1 := [.int w14.1]) (k1 := 0) (n1 := 0) B gk_hG d_Fit_find_14 (sn_SD_holds h14) tw_593 nw_591 tw_592 tw_40 nm_SD_holds rfl (by decide) ⟨by decide, by decide⟩ ⟨by decide, by decide⟩ rfl rfl rfl rfl ?_
  refine Gk_if_ne (tgt := 22) B d_Fit_find_17 rfl (fun c17 => ?_) (fun c17 => ?_)
  · rw [if_neg c17] at h
    refine Gk_aload_n (i := 0) (r := a0) B d_Fit_find_22 rfl rfl ?_
    refine Gk_iconst (v := 0) B d_Fit_find_23 (by decide) ?_
    obtain ⟨M24, h24, h⟩ := gk_bind h
    refine Gk_put (j := 3) (ty := .int) B d_Fit_find_24 in_Fit t_Fit t_Fit_ok n_Fit cl_Fit (by decide) tw_187 rfl rfl rfl rfl rfl h24 ?_
    refine Gk_iload_n (i := 3) (x := x3) B d_Fit_find_27 rfl rfl ?_
    refine Gk_istore (L' := [some (va_rf a0), some (va_rf a1), some (va_rf a2), some (.int x3), some (.int x3), none, none]) B d_Fit_find_28 (by decide) (gk_c1_i rfl) rfl ?_
    refine Gk_iconst (v := 0) B d_Fit_find_30 (by decide) ?_
    refine Gk_istore (L' := [some (va_rf a0), some (va_rf a1), some (va_rf a2), some (.int x3), some (.int x3), some (.int 0), none]) B d_Fit_find_31 (by decide) (gk_c1_i rfl) rfl ?_
    refine Gk_weak [true, true, true, false, true, true, false] (L' := [some (va_rf a0), some (va_rf a1), some (va_rf a2), none, some (.int x3), some (.int 0), none]) rfl ?_
    exact sn_Fit_find_33 B hr h
  rw [if_pos c17] at h
  refine Gk_iconst (v := 0) B d_Fit_find_20 (by decide) ?_
  obtain ⟨z, hz, h⟩ := gk_bind h
  obtain ⟨hz1, hz2⟩ := gk_z_eq hz
  cases h
  subst hz1
  exact Gk_iret B hr d_Fit_find_21 (gk_nz hz2) (by decide) (by decide) rfl
theorem sn_Fit_find {l : Launch} {Γ : gk_G} {a0 : Option Nat} {a1 : Option Nat} {a2 : Option Nat} {x3 : Int32} {M : gk_M} {ρ : Int32 × gk_M} (h : fn_Fit_find a0 a1 a2 x3 M = some ρ) : gk_Met l gk_Y Γ y_Fit_find (.code y_Fit_find c_Fit_find 7 (some .boolean) :: gk_Y.2.2.2) rm_Fit_find [va_rf a0, va_rf a1, va_rf a2, .int x3] M (some (.int ρ.1)) ρ.2 :=
  gk_start (by decide) (by simp [lg_sl, gk_rc, gk_ic, gk_jc]) [some (va_rf a0), some (va_rf a1), some (va_rf a2), some (.int x3), none, none, none] (by simp [gk_as, lv_args, gk_rc, gk_ic, gk_jc]) (fun p e s m args below meth c B hr hin => sn_Fit_find_0 B hr h)
theorem d_Text_endsAt_0 : decode c_Text_endsAt 0 = .ok (.iload_n 1, 1) := by decide +kernel
theorem d_Text_endsAt_1 : decode c_Text_endsAt 1 = .ok (.aload_n 0, 1) := by decide +kernel
theorem d_Text_endsAt_2 : decode c_Text_endsAt 2 = .ok (.getfield 15, 3) := by decide +kernel
theorem d_Text_endsAt_5 : decode c_Text_endsAt 5 = .ok (.if_icmp .eq 23, 3) := by decide +kernel
theorem d_Text_endsAt_8 : decode c_Text_endsAt 8 = .ok (.iload_n 1, 1) := by decide +kernel
theorem d_Text_endsAt_9 : decode c_Text_endsAt 9 = .ok (.aload_n 0, 1) := by decide +kernel
theorem d_Text_endsAt_10 : decode c_Text_endsAt 10 = .ok (.getfield 15, 3) := by decide +kernel
theorem d_Text_endsAt_13 : decode c_Text_endsAt 13 = .ok (.iconst 1, 1) := by decide +kernel
theorem d_Text_endsAt_14 : decode c_Text_endsAt 14 = .ok (.isub, 1) := by decide +kernel
theorem d_Text_endsAt_15 : decode c_Text_endsAt 15 = .ok (.if_icmp .ne 17, 3) := by decide +kernel
theorem d_Text_endsAt_18 : decode c_Text_endsAt 18 = .ok (.aload_n 0, 1) := by decide +kernel
theorem d_Text_endsAt_19 : decode c_Text_endsAt 19 = .ok (.iload_n 1, 1) := by decide +kernel
theorem d_Text_endsAt_20 : decode c_Text_endsAt 20 = .ok (.bipush 47, 2) := by decide +kernel
theorem d_Text_endsAt_22 : decode c_Text_endsAt 22 = .ok (.invokevirtual 25, 3) := by decide +kernel
theorem d_Text_endsAt_25 : decode c_Text_endsAt 25 = .ok (.ifCond .eq 7, 3) := by decide +kernel
theorem d_Text_endsAt_28 : decode c_Text_endsAt 28 = .ok (.iconst 1, 1) := by decide +kernel
theorem d_Text_endsAt_29 : decode c_Text_endsAt 29 = .ok (.goto 4, 3) := by decide +kernel
theorem d_Text_endsAt_32 : decode c_Text_endsAt 32 = .ok (.iconst 0, 1) := by decide +kernel
theorem d_Text_endsAt_33 : decode c_Text_endsAt 33 = .ok (.ireturn, 1) := by decide +kernel
set_option maxHeartbeats 4000000 in
set_option maxRecDepth 100000 in
theorem sn_Text_endsAt_28 {l : Launch} {Γ : gk_G} {p : Program} {e : Env} {s : State} {m : MethodId} {args : Array Value} {below : List Frame} {meth : Method} {c : Code} (B : gk_B p s m args meth c gk_Y Γ c_Text_endsAt 2 "StageDispatcher$Text") (hr : meth.sig.returnType = (some .boolean)) {ρ : Int32 × gk_M}    {M : gk_M} (h : fn_Text_endsAt_28   M = some ρ) : Gk p l e rm_Text_endsAt s m args below meth c gk_Y Γ 2 (MQ below (gk_Q gk_Y Γ (some (.int ρ.1)) ρ.2) args s rm_Text_endsAt.cells rm_Text_endsAt.slots (fun q => Γ.2.2 ≤ q)) 0 0 M 28 [none, none] [] := by
  unfold fn_Text_endsAt_28 at h
  refine Gk_iconst (v := 1) B d_Text_endsAt_28 (by decide) ?_
  refine Gk_goto (tgt := 33) B d_Text_endsAt_29 rfl ?_
  obtain ⟨z, hz, h⟩ := gk_bind h
  obtain ⟨hz1, hz2⟩ := gk_z_eq hz
  cases h
  subst hz1
  exact Gk_iret B hr d_Text_endsAt_33 (gk_nz hz2) (by decide) (by decide) rfl
set_option maxHeartbeats 4000000 in
set_option maxRecDepth 100000 in
theorem sn_Text_endsAt_32 {l : Launch} {Γ : gk_G} {p : Program} {e : Env} {s : State} {m : MethodId} {args : Array Value} {below : List Frame} {meth : Method} {c : Code} (B : gk_B p s m args meth c gk_Y Γ c_Text_endsAt 2 "StageDispatcher$Text") (hr : meth.sig.returnType = (some .boolean)) {ρ : Int32 × gk_M}    {M : gk_M} (h : fn_Text_endsAt_32   M = some ρ) : Gk p l e rm_Text_endsAt s m args below meth c gk_Y Γ 2 (MQ below (gk_Q gk_Y Γ (some (.int ρ.1)) ρ.2) args s rm_Text_endsAt.cells rm_Text_endsAt.slots (fun q => Γ.2.2 ≤ q)) 0 0 M 32 [none, none] [] := by
  unfold fn_Text_endsAt_32 at h
  refine Gk_iconst (v := 0) B d_Text_endsAt_32 (by decide) ?_
  obtain ⟨z, hz, h⟩ := gk_bind h
  obtain ⟨hz1, hz2⟩ := gk_z_eq hz
  cases h
  subst hz1
  exact Gk_iret B hr d_Text_endsAt_33 (gk_nz hz2) (by decide) (by decide) rfl
set_option maxHeartbeats 4000000 in
set_option maxRecDepth 100000 in
theorem sn_Text_endsAt_0 {l : Launch} {Γ : gk_G} {p : Program} {e : Env} {s : State} {m : MethodId} {args : Array Value} {below : List Frame} {meth : Method} {c : Code} (B : gk_B p s m args meth c gk_Y Γ c_Text_endsAt 2 "StageDispatcher$Text") (hr : meth.sig.returnType = (some .boolean)) {ρ : Int32 × gk_M}   {a0 : Option Nat} {x1 : Int32} {M : gk_M} (h : fn_Text_endsAt  a0 x1 M = some ρ) : Gk p l e rm_Text_endsAt s m args below meth c gk_Y Γ 2 (MQ below (gk_Q gk_Y Γ (some (.int ρ.1)) ρ.2) args s rm_Text_endsAt.cells rm_Text_endsAt.slots (fun q => Γ.2.2 ≤ q)) 0 0 M 0 [some (va_rf a0), some (.int x1)] [] := by
  unfold fn_Text_endsAt at h
  refine Gk_iload_n (i := 1) (x := x1) B d_Text_endsAt_0 rfl rfl ?_
  refine Gk_aload_n (i := 0) (r := a0) B d_Text_endsAt_1 rfl rfl ?_
  obtain ⟨v2, h2, h⟩ := gk_bind h
  refine Gk_getI (j := 1) B d_Text_endsAt_2 in_Text cl_Text (by decide) tw_76 rfl h2 ?_
  refine Gk_icmp_eq (tgt := 28) B d_Text_endsAt_5 rfl (fun c5 => ?_) (fun c5 => ?_)
  · rw [if_pos c5] at h
    refine Gk_weak [false, false] (L' := [none, none]) rfl ?_
    exact sn_Text_endsAt_28 B hr h
  rw [if_neg c5] at h
  refine Gk_iload_n (i := 1) (x := x1) B d_Text_endsAt_8 rfl rfl ?_
  refine Gk_aload_n (i := 0) (r := a0) B d_Text_endsAt_9 rfl rfl ?_
  obtain ⟨v10, h10, h⟩ := gk_bind h
  refine Gk_getI (j := 1) B d_Text_endsAt_10 in_Text cl_Text (by decide) tw_76 rfl h10 ?_
  refine Gk_iconst (v := 1) B d_Text_endsAt_13 (by decide) ?_
  refine Gk_isub B d_Text_endsAt_14 ?_
  refine Gk_icmp_ne (tgt := 32) B d_Text_endsAt_15 rfl (fun c15 => ?_) (fun c15 => ?_)
  · rw [if_neg c15] at h
    refine Gk_weak [false, false] (L' := [none, none]) rfl ?_
    exact sn_Text_endsAt_32 B hr h
  rw [if_pos c15] at h
  refine Gk_aload_n (i := 0) (r := a0) B d_Text_endsAt_18 rfl rfl ?_
  refine Gk_iload_n (i := 1) (x := x1) B d_Text_endsAt_19 rfl rfl ?_
  refine Gk_bipush (v := 47) B d_Text_endsAt_20 (by decide) ?_
  obtain ⟨o22, g22, h⟩ := gk_bind h
  obtain ⟨w22, h22, h⟩ := gk_bind h
  refine Gk_callV (As := [.int x1, .int 47]) (rest := []) (st1 := [.int w22.1]) (k1 := 0) (n1 := 0) B gk_hG d_Text_endsAt_22 (sn_Text_has h22) g22 cl_Text tw_321 tw_528 tw_319 tw_320 tw_41 nm_Text_has rfl (by decide) ⟨by decide, by decide⟩ ⟨by decide, by decide⟩ rfl rfl rfl rfl ?_
  refine Gk_if_eq (tgt := 32) B d_Text_endsAt_25 rfl (fun c25 => ?_) (fun c25 => ?_)
  · rw [if_pos c25] at h
    refine Gk_weak [false, false] (L' := [none, none]) rfl ?_
    exact sn_Text_endsAt_32 B hr h
  rw [if_neg c25] at h
  refine Gk_weak [false, false] (L' := [none, none]) rfl ?_
  exact sn_Text_endsAt_28 B hr h
theorem sn_Text_endsAt {l : Launch} {Γ : gk_G} {a0 : Option Nat} {x1 : Int32} {M : gk_M} {ρ : Int32 × gk_M} (h : fn_Text_endsAt a0 x1 M = some ρ) : gk_Met l gk_Y Γ y_Text_endsAt (.code y_Text_endsAt c_Text_endsAt 2 (some .boolean) :: gk_Y.2.2.2) rm_Text_endsAt [va_rf a0, .int x1] M (some (.int ρ.1)) ρ.2 :=
  gk_start (by decide) (by simp [lg_sl, gk_rc, gk_ic, gk_jc]) [some (va_rf a0), some (.int x1)] (by simp [gk_as, lv_args, gk_rc, gk_ic, gk_jc]) (fun p e s m args below meth c B hr hin => sn_Text_endsAt_0 B hr h)
theorem d_Catalog_leadsDeeper_0 : decode c_Catalog_leadsDeeper 0 = .ok (.iconst 0, 1) := by decide +kernel
theorem d_Catalog_leadsDeeper_1 : decode c_Catalog_leadsDeeper 1 = .ok (.istore_n 2, 1) := by decide +kernel
theorem d_Catalog_leadsDeeper_2 : decode c_Catalog_leadsDeeper 2 = .ok (.iload_n 2, 1) := by decide +kernel
theorem d_Catalog_leadsDeeper_3 : decode c_Catalog_leadsDeeper 3 = .ok (.aload_n 0, 1) := by decide +kernel
theorem d_Catalog_leadsDeeper_4 : decode c_Catalog_leadsDeeper 4 = .ok (.getfield 33, 3) := by decide +kernel
theorem d_Catalog_leadsDeeper_7 : decode c_Catalog_leadsDeeper 7 = .ok (.if_icmp .ge 36, 3) := by decide +kernel
theorem d_Catalog_leadsDeeper_10 : decode c_Catalog_leadsDeeper 10 = .ok (.aload_n 0, 1) := by decide +kernel
theorem d_Catalog_leadsDeeper_11 : decode c_Catalog_leadsDeeper 11 = .ok (.getfield 19, 3) := by decide +kernel
theorem d_Catalog_leadsDeeper_14 : decode c_Catalog_leadsDeeper 14 = .ok (.iload_n 2, 1) := by decide +kernel
theorem d_Catalog_leadsDeeper_15 : decode c_Catalog_leadsDeeper 15 = .ok (.aaload, 1) := by decide +kernel
theorem d_Catalog_leadsDeeper_16 : decode c_Catalog_leadsDeeper 16 = .ok (.getfield 43, 3) := by decide +kernel
theorem d_Catalog_leadsDeeper_19 : decode c_Catalog_leadsDeeper 19 = .ok (.iload_n 1, 1) := by decide +kernel
theorem d_Catalog_leadsDeeper_20 : decode c_Catalog_leadsDeeper 20 = .ok (.if_icmp .ne 17, 3) := by decide +kernel
theorem d_Catalog_leadsDeeper_23 : decode c_Catalog_leadsDeeper 23 = .ok (.aload_n 0, 1) := by decide +kernel
theorem d_Catalog_leadsDeeper_24 : decode c_Catalog_leadsDeeper 24 = .ok (.getfield 19, 3) := by decide +kernel
theorem d_Catalog_leadsDeeper_27 : decode c_Catalog_leadsDeeper 27 = .ok (.iload_n 2, 1) := by decide +kernel
theorem d_Catalog_leadsDeeper_28 : decode c_Catalog_leadsDeeper 28 = .ok (.aaload, 1) := by decide +kernel
theorem d_Catalog_leadsDeeper_29 : decode c_Catalog_leadsDeeper 29 = .ok (.getfield 46, 3) := by decide +kernel
theorem d_Catalog_leadsDeeper_32 : decode c_Catalog_leadsDeeper 32 = .ok (.ifnull 5, 3) := by decide +kernel
theorem d_Catalog_leadsDeeper_35 : decode c_Catalog_leadsDeeper 35 = .ok (.iconst 1, 1) := by decide +kernel
theorem d_Catalog_leadsDeeper_36 : decode c_Catalog_leadsDeeper 36 = .ok (.ireturn, 1) := by decide +kernel
theorem d_Catalog_leadsDeeper_37 : decode c_Catalog_leadsDeeper 37 = .ok (.iinc 2 1, 3) := by decide +kernel
theorem d_Catalog_leadsDeeper_40 : decode c_Catalog_leadsDeeper 40 = .ok (.goto (-38), 3) := by decide +kernel
theorem d_Catalog_leadsDeeper_43 : decode c_Catalog_leadsDeeper 43 = .ok (.iconst 0, 1) := by decide +kernel
theorem d_Catalog_leadsDeeper_44 : decode c_Catalog_leadsDeeper 44 = .ok (.istore_n 2, 1) := by decide +kernel
theorem d_Catalog_leadsDeeper_45 : decode c_Catalog_leadsDeeper 45 = .ok (.iload_n 2, 1) := by decide +kernel
theorem d_Catalog_leadsDeeper_46 : decode c_Catalog_leadsDeeper 46 = .ok (.aload_n 0, 1) := by decide +kernel
theorem d_Catalog_leadsDeeper_47 : decode c_Catalog_leadsDeeper 47 = .ok (.getfield 36, 3) := by decide +kernel
theorem d_Catalog_leadsDeeper_50 : decode c_Catalog_leadsDeeper 50 = .ok (.if_icmp .ge 24, 3) := by decide +kernel
theorem d_Catalog_leadsDeeper_53 : decode c_Catalog_leadsDeeper 53 = .ok (.aload_n 0, 1) := by decide +kernel
theorem d_Catalog_leadsDeeper_54 : decode c_Catalog_leadsDeeper 54 = .ok (.getfield 25, 3) := by decide +kernel
theorem d_Catalog_leadsDeeper_57 : decode c_Catalog_leadsDeeper 57 = .ok (.iload_n 2, 1) := by decide +kernel
theorem d_Catalog_leadsDeeper_58 : decode c_Catalog_leadsDeeper 58 = .ok (.aaload, 1) := by decide +kernel
theorem d_Catalog_leadsDeeper_59 : decode c_Catalog_leadsDeeper 59 = .ok (.getfield 50, 3) := by decide +kernel
theorem d_Catalog_leadsDeeper_62 : decode c_Catalog_leadsDeeper 62 = .ok (.iload_n 1, 1) := by decide +kernel
theorem d_Catalog_leadsDeeper_63 : decode c_Catalog_leadsDeeper 63 = .ok (.if_icmp .ne 5, 3) := by decide +kernel
theorem d_Catalog_leadsDeeper_66 : decode c_Catalog_leadsDeeper 66 = .ok (.iconst 1, 1) := by decide +kernel
theorem d_Catalog_leadsDeeper_67 : decode c_Catalog_leadsDeeper 67 = .ok (.ireturn, 1) := by decide +kernel
theorem d_Catalog_leadsDeeper_68 : decode c_Catalog_leadsDeeper 68 = .ok (.iinc 2 1, 3) := by decide +kernel
theorem d_Catalog_leadsDeeper_71 : decode c_Catalog_leadsDeeper 71 = .ok (.goto (-26), 3) := by decide +kernel
theorem d_Catalog_leadsDeeper_74 : decode c_Catalog_leadsDeeper 74 = .ok (.iconst 0, 1) := by decide +kernel
theorem d_Catalog_leadsDeeper_75 : decode c_Catalog_leadsDeeper 75 = .ok (.ireturn, 1) := by decide +kernel
set_option maxHeartbeats 4000000 in
set_option maxRecDepth 100000 in
theorem sn_Catalog_leadsDeeper_37 {l : Launch} {Γ : gk_G} {p : Program} {e : Env} {s : State} {m : MethodId} {args : Array Value} {below : List Frame} {meth : Method} {c : Code} (B : gk_B p s m args meth c gk_Y Γ c_Catalog_leadsDeeper 3 "StageDispatcher$Catalog") (hr : meth.sig.returnType = (some .boolean)) {ρ : Int32 × gk_M} {k2 : Option Nat → Int32 → Int32 → gk_M → Option (Int32 × gk_M)} (H2 : ∀ (a0 : Option Nat) (x1 : Int32) (x2 : Int32) (M : gk_M), k2 a0 x1 x2 M = some ρ → Gk p l e rm_Catalog_leadsDeeper s m args below meth c gk_Y Γ 3 (MQ below (gk_Q gk_Y Γ (some (.int ρ.1)) ρ.2) args s rm_Catalog_leadsDeeper.cells rm_Catalog_leadsDeeper.slots (fun q => Γ.2.2 ≤ q)) 0 0 M 2 [some (va_rf a0), some (.int x1), some (.int x2)] []) {a0 : Option Nat} {x1 : Int32} {x2 : Int32} {M : gk_M} (h : fn_Catalog_leadsDeeper_37 k2 a0 x1 x2 M = some ρ) : Gk p l e rm_Catalog_leadsDeeper s m args below meth c gk_Y Γ 3 (MQ below (gk_Q gk_Y Γ (some (.int ρ.1)) ρ.2) args s rm_Catalog_leadsDeeper.cells rm_Catalog_leadsDeeper.slots (fun q => Γ.2.2 ≤ q)) 0 0 M 37 [some (va_rf a0), some (.int x1), some (.int x2)] [] := by
  unfold fn_Catalog_leadsDeeper_37 at h
  refine Gk_iinc (x := x2) (v := (x2 + 1)) (L' := [some (va_rf a0), some (.int x1), some (.int (x2 + 1))]) B d_Catalog_leadsDeeper_37 rfl (congrArg (fun z => x2 + z) (by decide : Int32.ofInt 1 = 1)) (by decide) (gk_c1_i rfl) rfl ?_
  refine Gk_goto (tgt := 2) B d_Catalog_leadsDeeper_40 rfl ?_
  exact H2 a0 x1 (x2 + 1) M h
set_option maxHeartbeats 4000000 in
set_option maxRecDepth 100000 in
theorem sn_Catalog_leadsDeeper_45_bd {l : Launch} {Γ : gk_G} {p : Program} {e : Env} {s : State} {m : MethodId} {args : Array Value} {below : List Frame} {meth : Method} {c : Code} (B : gk_B p s m args meth c gk_Y Γ c_Catalog_leadsDeeper 3 "StageDispatcher$Catalog") (hr : meth.sig.returnType = (some .boolean)) {ρ : Int32 × gk_M} {k45 : Option Nat → Int32 → Int32 → gk_M → Option (Int32 × gk_M)} (H45 : ∀ (a0 : Option Nat) (x1 : Int32) (x2 : Int32) (M : gk_M), k45 a0 x1 x2 M = some ρ → Gk p l e rm_Catalog_leadsDeeper s m args below meth c gk_Y Γ 3 (MQ below (gk_Q gk_Y Γ (some (.int ρ.1)) ρ.2) args s rm_Catalog_leadsDeeper.cells rm_Catalog_leadsDeeper.slots (fun q => Γ.2.2 ≤ q)) 0 0 M 45 [some (va_rf a0), some (.int x1), some (.int x2)] []) {a0 : Option Nat} {x1 : Int32} {x2 : Int32} {M : gk_M} (h : fn_Catalog_leadsDeeper_45_bd k45 a0 x1 x2 M = some ρ) : Gk p l e rm_Catalog_leadsDeeper s m args below meth c gk_Y Γ 3 (MQ below (gk_Q gk_Y Γ (some (.int ρ.1)) ρ.2) args s rm_Catalog_leadsDeeper.cells rm_Catalog_leadsDeeper.slots (fun q => Γ.2.2 ≤ q)) 0 0 M 45 [some (va_rf a0), some (.int x1), some (.int x2)] [] := by
  unfold fn_Catalog_leadsDeeper_45_bd at h
  refine Gk_iload_n (i := 2) (x := x2) B d_Catalog_leadsDeeper_45 rfl rfl ?_
  refine Gk_aload_n (i := 0) (r := a0) B d_Catalog_leadsDeeper_46 rfl rfl ?_
  obtain ⟨v47, h47, h⟩ := gk_bind h
  refine Gk_getI (j := 5) B d_Catalog_leadsDeeper_47 in_Catalog cl_Catalog (by decide) tw_110 rfl h47 ?_
  refine Gk_icmp_ge (tgt := 74) B d_Catalog_leadsDeeper_50 rfl (fun c50 => ?_) (fun c50 => ?_)
  · rw [if_pos c50] at h
    refine Gk_iconst (v := 0) B d_Catalog_leadsDeeper_74 (by decide) ?_
    obtain ⟨z, hz, h⟩ := gk_bind h
    obtain ⟨hz1, hz2⟩ := gk_z_eq hz
    cases h
    subst hz1
    exact Gk_iret B hr d_Catalog_leadsDeeper_75 (gk_nz hz2) (by decide) (by decide) rfl
  rw [if_neg c50] at h
  refine Gk_aload_n (i := 0) (r := a0) B d_Catalog_leadsDeeper_53 rfl rfl ?_
  obtain ⟨v54, h54, h⟩ := gk_bind h
  refine Gk_getR (j := 2) B d_Catalog_leadsDeeper_54 in_Catalog cl_Catalog (by decide) tw_102 rfl h54 ?_
  refine Gk_iload_n (i := 2) (x := x2) B d_Catalog_leadsDeeper_57 rfl rfl ?_
  obtain ⟨v58, h58, h⟩ := gk_bind h
  refine Gk_aaload B d_Catalog_leadsDeeper_58 ty_5 h58 ?_
  obtain ⟨v59, h59, h⟩ := gk_bind h
  refine Gk_getIN (j := 0) B d_Catalog_leadsDeeper_59 in_Locator cl_Locator (by decide) nw_454 rfl h59 ?_
  refine Gk_iload_n (i := 1) (x := x1) B d_Catalog_leadsDeeper_62 rfl rfl ?_
  refine Gk_icmp_ne (tgt := 68) B d_Catalog_leadsDeeper_63 rfl (fun c63 => ?_) (fun c63 => ?_)
  · rw [if_neg c63] at h
    refine Gk_iinc (x := x2) (v := (x2 + 1)) (L' := [some (va_rf a0), some (.int x1), some (.int (x2 + 1))]) B d_Catalog_leadsDeeper_68 rfl (congrArg (fun z => x2 + z) (by decide : Int32.ofInt 1 = 1)) (by decide) (gk_c1_i rfl) rfl ?_
    refine Gk_goto (tgt := 45) B d_Catalog_leadsDeeper_71 rfl ?_
    exact H45 a0 x1 (x2 + 1) M h
  rw [if_pos c63] at h
  refine Gk_iconst (v := 1) B d_Catalog_leadsDeeper_66 (by decide) ?_
  obtain ⟨z, hz, h⟩ := gk_bind h
  obtain ⟨hz1, hz2⟩ := gk_z_eq hz
  cases h
  subst hz1
  exact Gk_iret B hr d_Catalog_leadsDeeper_67 (gk_nz hz2) (by decide) (by decide) rfl
set_option maxHeartbeats 4000000 in
set_option maxRecDepth 100000 in
theorem sn_Catalog_leadsDeeper_45 {l : Launch} {Γ : gk_G} {p : Program} {e : Env} {s : State} {m : MethodId} {args : Array Value} {below : List Frame} {meth : Method} {c : Code} (B : gk_B p s m args meth c gk_Y Γ c_Catalog_leadsDeeper 3 "StageDispatcher$Catalog") (hr : meth.sig.returnType = (some .boolean)) {ρ : Int32 × gk_M}   {a0 : Option Nat} {x1 : Int32} {x2 : Int32} {M : gk_M} (h : fn_Catalog_leadsDeeper_45  a0 x1 x2 M = some ρ) : Gk p l e rm_Catalog_leadsDeeper s m args below meth c gk_Y Γ 3 (MQ below (gk_Q gk_Y Γ (some (.int ρ.1)) ρ.2) args s rm_Catalog_leadsDeeper.cells rm_Catalog_leadsDeeper.slots (fun q => Γ.2.2 ≤ q)) 0 0 M 45 [some (va_rf a0), some (.int x1), some (.int x2)] [] := by
  unfold fn_Catalog_leadsDeeper_45 at h
  exact gk_loop_sound (α := Option Nat × Int32 × Int32 × gk_M) (P := fun a => Gk p l e rm_Catalog_leadsDeeper s m args below meth c gk_Y Γ 3 (MQ below (gk_Q gk_Y Γ (some (.int ρ.1)) ρ.2) args s rm_Catalog_leadsDeeper.cells rm_Catalog_leadsDeeper.slots (fun q => Γ.2.2 ≤ q)) 0 0 a.2.2.2 45 [some (va_rf a.1), some (.int a.2.1), some (.int a.2.2.1)] []) (fun kk a Hk hb => sn_Catalog_leadsDeeper_45_bd B hr (fun a0 x1 x2 M hh => Hk (a0, x1, x2, M) hh) hb) _ _ h
set_option maxHeartbeats 4000000 in
set_option maxRecDepth 100000 in
theorem sn_Catalog_leadsDeeper_2_bd {l : Launch} {Γ : gk_G} {p : Program} {e : Env} {s : State} {m : MethodId} {args : Array Value} {below : List Frame} {meth : Method} {c : Code} (B : gk_B p s m args meth c gk_Y Γ c_Catalog_leadsDeeper 3 "StageDispatcher$Catalog") (hr : meth.sig.returnType = (some .boolean)) {ρ : Int32 × gk_M} {k2 : Option Nat → Int32 → Int32 → gk_M → Option (Int32 × gk_M)} (H2 : ∀ (a0 : Option Nat) (x1 : Int32) (x2 : Int32) (M : gk_M), k2 a0 x1 x2 M = some ρ → Gk p l e rm_Catalog_leadsDeeper s m args below meth c gk_Y Γ 3 (MQ below (gk_Q gk_Y Γ (some (.int ρ.1)) ρ.2) args s rm_Catalog_leadsDeeper.cells rm_Catalog_leadsDeeper.slots (fun q => Γ.2.2 ≤ q)) 0 0 M 2 [some (va_rf a0), some (.int x1), some (.int x2)] []) {a0 : Option Nat} {x1 : Int32} {x2 : Int32} {M : gk_M} (h : fn_Catalog_leadsDeeper_2_bd k2 a0 x1 x2 M = some ρ) : Gk p l e rm_Catalog_leadsDeeper s m args below meth c gk_Y Γ 3 (MQ below (gk_Q gk_Y Γ (some (.int ρ.1)) ρ.2) args s rm_Catalog_leadsDeeper.cells rm_Catalog_leadsDeeper.slots (fun q => Γ.2.2 ≤ q)) 0 0 M 2 [some (va_rf a0), some (.int x1), some (.int x2)] [] := by
  unfold fn_Catalog_leadsDeeper_2_bd at h
  refine Gk_iload_n (i := 2) (x := x2) B d_Catalog_leadsDeeper_2 rfl rfl ?_
  refine Gk_aload_n (i := 0) (r := a0) B d_Catalog_leadsDeeper_3 rfl rfl ?_
  obtain ⟨v4, h4, h⟩ := gk_bind h
  refine Gk_getI (j := 4) B d_Catalog_leadsDeeper_4 in_Catalog cl_Catalog (by decide) tw_107 rfl h4 ?_
  refine Gk_icmp_ge (tgt := 43) B d_Catalog_leadsDeeper_7 rfl (fun c7 => ?_) (fun c7 => ?_)
  · rw [if_pos c7] at h
    refine Gk_iconst (v := 0) B d_Catalog_leadsDeeper_43 (by decide) ?_
    refine Gk_istore_n (i := 2) (L' := [some (va_rf a0), some (.int x1), some (.int 0)]) B d_Catalog_leadsDeeper_44 rfl (by decide) (gk_c1_i rfl) rfl ?_
    exact sn_Catalog_leadsDeeper_45 B hr h
  rw [if_neg c7] at h
  refine Gk_aload_n (i := 0) (r := a0) B d_Catalog_leadsDeeper_10 rfl rfl ?_
  obtain ⟨v11, h11, h⟩ := gk_bind h
  refine Gk_getR (j := 1) B d_Catalog_leadsDeeper_11 in_Catalog cl_Catalog (by decide) tw_99 rfl h11 ?_
  refine Gk_iload_n (i := 2) (x := x2) B d_Catalog_leadsDeeper_14 rfl rfl ?_
  obtain ⟨v15, h15, h⟩ := gk_bind h
  refine Gk_aaload B d_Catalog_leadsDeeper_15 ty_4 h15 ?_
  obtain ⟨v16, h16, h⟩ := gk_bind h
  refine Gk_getI (j := 0) B d_Catalog_leadsDeeper_16 in_Method cl_Method (by decide) tw_389 rfl h16 ?_
  refine Gk_iload_n (i := 1) (x := x1) B d_Catalog_leadsDeeper_19 rfl rfl ?_
  refine Gk_icmp_ne (tgt := 37) B d_Catalog_leadsDeeper_20 rfl (fun c20 => ?_) (fun c20 => ?_)
  · rw [if_neg c20] at h
    exact sn_Catalog_leadsDeeper_37 B hr H2 h
  rw [if_pos c20] at h
  refine Gk_aload_n (i := 0) (r := a0) B d_Catalog_leadsDeeper_23 rfl rfl ?_
  obtain ⟨v24, h24, h⟩ := gk_bind h
  refine Gk_getR (j := 1) B d_Catalog_leadsDeeper_24 in_Catalog cl_Catalog (by decide) tw_99 rfl h24 ?_
  refine Gk_iload_n (i := 2) (x := x2) B d_Catalog_leadsDeeper_27 rfl rfl ?_
  obtain ⟨v28, h28, h⟩ := gk_bind h
  refine Gk_aaload B d_Catalog_leadsDeeper_28 ty_4 h28 ?_
  obtain ⟨v29, h29, h⟩ := gk_bind h
  refine Gk_getR (j := 1) B d_Catalog_leadsDeeper_29 in_Method cl_Method (by decide) tw_392 rfl h29 ?_
  refine Gk_ifnull (tgt := 37) B d_Catalog_leadsDeeper_32 rfl (fun c32 => ?_) (fun c32 => ?_)
  · rw [if_pos c32] at h
    exact sn_Catalog_leadsDeeper_37 B hr H2 h
  rw [if_neg c32] at h
  refine Gk_iconst (v := 1) B d_Catalog_leadsDeeper_35 (by decide) ?_
  obtain ⟨z, hz, h⟩ := gk_bind h
  obtain ⟨hz1, hz2⟩ := gk_z_eq hz
  cases h
  subst hz1
  exact Gk_iret B hr d_Catalog_leadsDeeper_36 (gk_nz hz2) (by decide) (by decide) rfl
set_option maxHeartbeats 4000000 in
set_option maxRecDepth 100000 in
theorem sn_Catalog_leadsDeeper_2 {l : Launch} {Γ : gk_G} {p : Program} {e : Env} {s : State} {m : MethodId} {args : Array Value} {below : List Frame} {meth : Method} {c : Code} (B : gk_B p s m args meth c gk_Y Γ c_Catalog_leadsDeeper 3 "StageDispatcher$Catalog") (hr : meth.sig.returnType = (some .boolean)) {ρ : Int32 × gk_M}   {a0 : Option Nat} {x1 : Int32} {x2 : Int32} {M : gk_M} (h : fn_Catalog_leadsDeeper_2  a0 x1 x2 M = some ρ) : Gk p l e rm_Catalog_leadsDeeper s m args below meth c gk_Y Γ 3 (MQ below (gk_Q gk_Y Γ (some (.int ρ.1)) ρ.2) args s rm_Catalog_leadsDeeper.cells rm_Catalog_leadsDeeper.slots (fun q => Γ.2.2 ≤ q)) 0 0 M 2 [some (va_rf a0), some (.int x1), some (.int x2)] [] := by
  unfold fn_Catalog_leadsDeeper_2 at h
  exact gk_loop_sound (α := Option Nat × Int32 × Int32 × gk_M) (P := fun a => Gk p l e rm_Catalog_leadsDeeper s m args below meth c gk_Y Γ 3 (MQ below (gk_Q gk_Y Γ (some (.int ρ.1)) ρ.2) args s rm_Catalog_leadsDeeper.cells rm_Catalog_leadsDeeper.slots (fun q => Γ.2.2 ≤ q)) 0 0 a.2.2.2 2 [some (va_rf a.1), some (.int a.2.1), some (.int a.2.2.1)] []) (fun kk a Hk hb => sn_Catalog_leadsDeeper_2_bd B hr (fun a0 x1 x2 M hh => Hk (a0, x1, x2, M) hh) hb) _ _ h
set_option maxHeartbeats 4000000 in
set_option maxRecDepth 100000 in
theorem sn_Catalog_leadsDeeper_0 {l : Launch} {Γ : gk_G} {p : Program} {e : Env} {s : State} {m : MethodId} {args : Array Value} {below : List Frame} {meth : Method} {c : Code} (B : gk_B p s m args meth c gk_Y Γ c_Catalog_leadsDeeper 3 "StageDispatcher$Catalog") (hr : meth.sig.returnType = (some .boolean)) {ρ : Int32 × gk_M}   {a0 : Option Nat} {x1 : Int32} {M : gk_M} (h : fn_Catalog_leadsDeeper  a0 x1 M = some ρ) : Gk p l e rm_Catalog_leadsDeeper s m args below meth c gk_Y Γ 3 (MQ below (gk_Q gk_Y Γ (some (.int ρ.1)) ρ.2) args s rm_Catalog_leadsDeeper.cells rm_Catalog_leadsDeeper.slots (fun q => Γ.2.2 ≤ q)) 0 0 M 0 [some (va_rf a0), some (.int x1), none] [] := by
  unfold fn_Catalog_leadsDeeper at h
  refine Gk_iconst (v := 0) B d_Catalog_leadsDeeper_0 (by decide) ?_
  refine Gk_istore_n (i := 2) (L' := [some (va_rf a0), some (.int x1), some (.int 0)]) B d_Catalog_leadsDeeper_1 rfl (by decide) (gk_c1_i rfl) rfl ?_
  exact sn_Catalog_leadsDeeper_2 B hr h
theorem sn_Catalog_leadsDeeper {l : Launch} {Γ : gk_G} {a0 : Option Nat} {x1 : Int32} {M : gk_M} {ρ : Int32 × gk_M} (h : fn_Catalog_leadsDeeper a0 x1 M = some ρ) : gk_Met l gk_Y Γ y_Catalog_leadsDeeper (.code y_Catalog_leadsDeeper c_Catalog_leadsDeeper 3 (some .boolean) :: gk_Y.2.2.2) rm_Catalog_leadsDeeper [va_rf a0, .int x1] M (some (.int ρ.1)) ρ.2 :=
  gk_start (by decide) (by simp [lg_sl, gk_rc, gk_ic, gk_jc]) [some (va_rf a0), some (.int x1), none] (by simp [gk_as, lv_args, gk_rc, gk_ic, gk_jc]) (fun p e s m args below meth c B hr hin => sn_Catalog_leadsDeeper_0 B hr h)
theorem d_Outcome_addParameter_0 : decode c_Outcome_addParameter 0 = .ok (.aload_n 0, 1) := by decide +kernel
theorem d_Outcome_addParameter_1 : decode c_Outcome_addParameter 1 = .ok (.getfield 35, 3) := by decide +kernel
theorem d_Outcome_addParameter_4 : decode c_Outcome_addParameter 4 = .ok (.aload_n 0, 1) := by decide +kernel
theorem d_Outcome_addParameter_5 : decode c_Outcome_addParameter 5 = .ok (.getfield 22, 3) := by decide +kernel
theorem d_Outcome_addParameter_8 : decode c_Outcome_addParameter 8 = .ok (.arraylength, 1) := by decide +kernel
theorem d_Outcome_addParameter_9 : decode c_Outcome_addParameter 9 = .ok (.if_icmp .ge 33, 3) := by decide +kernel
theorem d_Outcome_addParameter_12 : decode c_Outcome_addParameter 12 = .ok (.aload_n 0, 1) := by decide +kernel
theorem d_Outcome_addParameter_13 : decode c_Outcome_addParameter 13 = .ok (.getfield 22, 3) := by decide +kernel
theorem d_Outcome_addParameter_16 : decode c_Outcome_addParameter 16 = .ok (.aload_n 0, 1) := by decide +kernel
theorem d_Outcome_addParameter_17 : decode c_Outcome_addParameter 17 = .ok (.getfield 35, 3) := by decide +kernel
theorem d_Outcome_addParameter_20 : decode c_Outcome_addParameter 20 = .ok (.iload_n 1, 1) := by decide +kernel
theorem d_Outcome_addParameter_21 : decode c_Outcome_addParameter 21 = .ok (.iastore, 1) := by decide +kernel
theorem d_Outcome_addParameter_22 : decode c_Outcome_addParameter 22 = .ok (.aload_n 0, 1) := by decide +kernel
theorem d_Outcome_addParameter_23 : decode c_Outcome_addParameter 23 = .ok (.getfield 25, 3) := by decide +kernel
theorem d_Outcome_addParameter_26 : decode c_Outcome_addParameter 26 = .ok (.aload_n 0, 1) := by decide +kernel
theorem d_Outcome_addParameter_27 : decode c_Outcome_addParameter 27 = .ok (.getfield 35, 3) := by decide +kernel
theorem d_Outcome_addParameter_30 : decode c_Outcome_addParameter 30 = .ok (.iload_n 2, 1) := by decide +kernel
theorem d_Outcome_addParameter_31 : decode c_Outcome_addParameter 31 = .ok (.iastore, 1) := by decide +kernel
theorem d_Outcome_addParameter_32 : decode c_Outcome_addParameter 32 = .ok (.aload_n 0, 1) := by decide +kernel
theorem d_Outcome_addParameter_33 : decode c_Outcome_addParameter 33 = .ok (.dup, 1) := by decide +kernel
theorem d_Outcome_addParameter_34 : decode c_Outcome_addParameter 34 = .ok (.getfield 35, 3) := by decide +kernel
theorem d_Outcome_addParameter_37 : decode c_Outcome_addParameter 37 = .ok (.iconst 1, 1) := by decide +kernel
theorem d_Outcome_addParameter_38 : decode c_Outcome_addParameter 38 = .ok (.iadd, 1) := by decide +kernel
theorem d_Outcome_addParameter_39 : decode c_Outcome_addParameter 39 = .ok (.putfield 35, 3) := by decide +kernel
theorem d_Outcome_addParameter_42 : decode c_Outcome_addParameter 42 = .ok (.return_, 1) := by decide +kernel
set_option maxHeartbeats 4000000 in
set_option maxRecDepth 100000 in
theorem sn_Outcome_addParameter_0 {l : Launch} {Γ : gk_G} {p : Program} {e : Env} {s : State} {m : MethodId} {args : Array Value} {below : List Frame} {meth : Method} {c : Code} (B : gk_B p s m args meth c gk_Y Γ c_Outcome_addParameter 3 "StageDispatcher$Outcome") (hr : meth.sig.returnType = none) {ρ : gk_M}   {a0 : Option Nat} {x1 : Int32} {x2 : Int32} {M : gk_M} (h : fn_Outcome_addParameter  a0 x1 x2 M = some ρ) : Gk p l e rm_Outcome_addParameter s m args below meth c gk_Y Γ 3 (MQ below (gk_Q gk_Y Γ none ρ) args s rm_Outcome_addParameter.cells rm_Outcome_addParameter.slots (fun q => Γ.2.2 ≤ q)) 0 0 M 0 [some (va_rf a0), some (.int x1), some (.int x2)] [] := by
  unfold fn_Outcome_addParameter at h
  refine Gk_aload_n (i := 0) (r := a0) B d_Outcome_addParameter_0 rfl rfl ?_
  obtain ⟨v1, h1, h⟩ := gk_bind h
  refine Gk_getI (j := 6) B d_Outcome_addParameter_1 in_Outcome cl_Outcome (by decide) tw_237 rfl h1 ?_
  refine Gk_aload_n (i := 0) (r := a0) B d_Outcome_addParameter_4 rfl rfl ?_
  obtain ⟨v5, h5, h⟩ := gk_bind h
  refine Gk_getR (j := 2) B d_Outcome_addParameter_5 in_Outcome cl_Outcome (by decide) tw_229 rfl h5 ?_
  obtain ⟨v8, h8, h⟩ := gk_bind h
  refine Gk_alen B d_Outcome_addParameter_8 ty_0 h8 ?_
  refine Gk_icmp_ge (tgt := 42) B d_Outcome_addParameter_9 rfl (fun c9 => ?_) (fun c9 => ?_)
  · rw [if_pos c9] at h
    cases h
    exact Gk_vret B hr d_Outcome_addParameter_42 (by decide) (by decide) rfl
  rw [if_neg c9] at h
  refine Gk_aload_n (i := 0) (r := a0) B d_Outcome_addParameter_12 rfl rfl ?_
  obtain ⟨v13, h13, h⟩ := gk_bind h
  refine Gk_getR (j := 2) B d_Outcome_addParameter_13 in_Outcome cl_Outcome (by decide) tw_229 rfl h13 ?_
  refine Gk_aload_n (i := 0) (r := a0) B d_Outcome_addParameter_16 rfl rfl ?_
  obtain ⟨v17, h17, h⟩ := gk_bind h
  refine Gk_getI (j := 6) B d_Outcome_addParameter_17 in_Outcome cl_Outcome (by decide) tw_237 rfl h17 ?_
  refine Gk_iload_n (i := 1) (x := x1) B d_Outcome_addParameter_20 rfl rfl ?_
  obtain ⟨M21, h21, h⟩ := gk_bind h
  refine Gk_iastore B d_Outcome_addParameter_21 ty_0 h21 ?_
  refine Gk_aload_n (i := 0) (r := a0) B d_Outcome_addParameter_22 rfl rfl ?_
  obtain ⟨v23, h23, h⟩ := gk_bind h
  refine Gk_getR (j := 3) B d_Outcome_addParameter_23 in_Outcome cl_Outcome (by decide) tw_231 rfl h23 ?_
  refine Gk_aload_n (i := 0) (r := a0) B d_Outcome_addParameter_26 rfl rfl ?_
  obtain ⟨v27, h27, h⟩ := gk_bind h
  refine Gk_getI (j := 6) B d_Outcome_addParameter_27 in_Outcome cl_Outcome (by decide) tw_237 rfl h27 ?_
  refine Gk_iload_n (i := 2) (x := x2) B d_Outcome_addParameter_30 rfl rfl ?_
  obtain ⟨M31, h31, h⟩ := gk_bind h
  refine Gk_iastore B d_Outcome_addParameter_31 ty_0 h31 ?_
  refine Gk_aload_n (i := 0) (r := a0) B d_Outcome_addParameter_32 rfl rfl ?_
  refine Gk_dup B d_Outcome_addParameter_33 (gk_rc _) ?_
  obtain ⟨v34, h34, h⟩ := gk_bind h
  refine Gk_getI (j := 6) B d_Outcome_addParameter_34 in_Outcome cl_Outcome (by decide) tw_237 rfl h34 ?_
  refine Gk_iconst (v := 1) B d_Outcome_addParameter_37 (by decide) ?_
  refine Gk_iadd B d_Outcome_addParameter_38 ?_
  obtain ⟨M39, h39, h⟩ := gk_bind h
  refine Gk_put (j := 6) (ty := .int) B d_Outcome_addParameter_39 in_Outcome t_Outcome t_Outcome_ok n_Outcome cl_Outcome (by decide) tw_237 rfl rfl rfl rfl rfl h39 ?_
  cases h
  exact Gk_vret B hr d_Outcome_addParameter_42 (by decide) (by decide) rfl
theorem sn_Outcome_addParameter {l : Launch} {Γ : gk_G} {a0 : Option Nat} {x1 : Int32} {x2 : Int32} {M : gk_M} {ρ : gk_M} (h : fn_Outcome_addParameter a0 x1 x2 M = some ρ) : gk_Met l gk_Y Γ y_Outcome_addParameter (.code y_Outcome_addParameter c_Outcome_addParameter 3 none :: gk_Y.2.2.2) rm_Outcome_addParameter [va_rf a0, .int x1, .int x2] M none ρ :=
  gk_start (by decide) (by simp [lg_sl, gk_rc, gk_ic, gk_jc]) [some (va_rf a0), some (.int x1), some (.int x2)] (by simp [gk_as, lv_args, gk_rc, gk_ic, gk_jc]) (fun p e s m args below meth c B hr hin => sn_Outcome_addParameter_0 B hr h)
theorem d_Route_follow_0 : decode c_Route_follow 0 = .ok (.aload_n 0, 1) := by decide +kernel
theorem d_Route_follow_1 : decode c_Route_follow 1 = .ok (.getfield 12, 3) := by decide +kernel
theorem d_Route_follow_4 : decode c_Route_follow 4 = .ok (.aload_n 1, 1) := by decide +kernel
theorem d_Route_follow_5 : decode c_Route_follow 5 = .ok (.aload_n 2, 1) := by decide +kernel
theorem d_Route_follow_6 : decode c_Route_follow 6 = .ok (.getfield 43, 3) := by decide +kernel
theorem d_Route_follow_9 : decode c_Route_follow 9 = .ok (.aload_n 0, 1) := by decide +kernel
theorem d_Route_follow_10 : decode c_Route_follow 10 = .ok (.getfield 18, 3) := by decide +kernel
theorem d_Route_follow_13 : decode c_Route_follow 13 = .ok (.invokevirtual 49, 3) := by decide +kernel
theorem d_Route_follow_16 : decode c_Route_follow 16 = .ok (.ifCond .eq 55, 3) := by decide +kernel
theorem d_Route_follow_19 : decode c_Route_follow 19 = .ok (.iconst 0, 1) := by decide +kernel
theorem d_Route_follow_20 : decode c_Route_follow 20 = .ok (.istore_n 3, 1) := by decide +kernel
theorem d_Route_follow_21 : decode c_Route_follow 21 = .ok (.iload_n 3, 1) := by decide +kernel
theorem d_Route_follow_22 : decode c_Route_follow 22 = .ok (.aload_n 0, 1) := by decide +kernel
theorem d_Route_follow_23 : decode c_Route_follow 23 = .ok (.getfield 12, 3) := by decide +kernel
theorem d_Route_follow_26 : decode c_Route_follow 26 = .ok (.getfield 127, 3) := by decide +kernel
theorem d_Route_follow_29 : decode c_Route_follow 29 = .ok (.if_icmp .ge 31, 3) := by decide +kernel
theorem d_Route_follow_32 : decode c_Route_follow 32 = .ok (.aload_n 2, 1) := by decide +kernel
theorem d_Route_follow_33 : decode c_Route_follow 33 = .ok (.aload_n 0, 1) := by decide +kernel
theorem d_Route_follow_34 : decode c_Route_follow 34 = .ok (.getfield 12, 3) := by decide +kernel
theorem d_Route_follow_37 : decode c_Route_follow 37 = .ok (.getfield 130, 3) := by decide +kernel
theorem d_Route_follow_40 : decode c_Route_follow 40 = .ok (.iload_n 3, 1) := by decide +kernel
theorem d_Route_follow_41 : decode c_Route_follow 41 = .ok (.iaload, 1) := by decide +kernel
theorem d_Route_follow_42 : decode c_Route_follow 42 = .ok (.aload_n 0, 1) := by decide +kernel
theorem d_Route_follow_43 : decode c_Route_follow 43 = .ok (.getfield 12, 3) := by decide +kernel
theorem d_Route_follow_46 : decode c_Route_follow 46 = .ok (.getfield 134, 3) := by decide +kernel
theorem d_Route_follow_49 : decode c_Route_follow 49 = .ok (.iload_n 3, 1) := by decide +kernel
theorem d_Route_follow_50 : decode c_Route_follow 50 = .ok (.iaload, 1) := by decide +kernel
theorem d_Route_follow_51 : decode c_Route_follow 51 = .ok (.invokevirtual 137, 3) := by decide +kernel
theorem d_Route_follow_54 : decode c_Route_follow 54 = .ok (.iinc 3 1, 3) := by decide +kernel
theorem d_Route_follow_57 : decode c_Route_follow 57 = .ok (.goto (-36), 3) := by decide +kernel
theorem d_Route_follow_60 : decode c_Route_follow 60 = .ok (.aload_n 0, 1) := by decide +kernel
theorem d_Route_follow_61 : decode c_Route_follow 61 = .ok (.aload_n 0, 1) := by decide +kernel
theorem d_Route_follow_62 : decode c_Route_follow 62 = .ok (.getfield 12, 3) := by decide +kernel
theorem d_Route_follow_65 : decode c_Route_follow 65 = .ok (.getfield 53, 3) := by decide +kernel
theorem d_Route_follow_68 : decode c_Route_follow 68 = .ok (.putfield 18, 3) := by decide +kernel
theorem d_Route_follow_71 : decode c_Route_follow 71 = .ok (.return_, 1) := by decide +kernel
set_option maxHeartbeats 4000000 in
set_option maxRecDepth 100000 in
theorem sn_Route_follow_21_bd {l : Launch} {Γ : gk_G} {p : Program} {e : Env} {s : State} {m : MethodId} {args : Array Value} {below : List Frame} {meth : Method} {c : Code} (B : gk_B p s m args meth c gk_Y Γ c_Route_follow 4 "StageDispatcher$Route") (hr : meth.sig.returnType = none) {ρ : gk_M} {k21 : Option Nat → Option Nat → Int32 → gk_M → Option (gk_M)} (H21 : ∀ (a0 : Option Nat) (a2 : Option Nat) (x3 : Int32) (M : gk_M), k21 a0 a2 x3 M = some ρ → Gk p l e rm_Route_follow s m args below meth c gk_Y Γ 4 (MQ below (gk_Q gk_Y Γ none ρ) args s rm_Route_follow.cells rm_Route_follow.slots (fun q => Γ.2.2 ≤ q)) 0 0 M 21 [some (va_rf a0), none, some (va_rf a2), some (.int x3)] []) {a0 : Option Nat} {a2 : Option Nat} {x3 : Int32} {M : gk_M} (h : fn_Route_follow_21_bd k21 a0 a2 x3 M = some ρ) : Gk p l e rm_Route_follow s m args below meth c gk_Y Γ 4 (MQ below (gk_Q gk_Y Γ none ρ) args s rm_Route_follow.cells rm_Route_follow.slots (fun q => Γ.2.2 ≤ q)) 0 0 M 21 [some (va_rf a0), none, some (va_rf a2), some (.int x3)] [] := by
  unfold fn_Route_follow_21_bd at h
  refine Gk_iload_n (i := 3) (x := x3) B d_Route_follow_21 rfl rfl ?_
  refine Gk_aload_n (i := 0) (r := a0) B d_Route_follow_22 rfl rfl ?_
  obtain ⟨v23, h23, h⟩ := gk_bind h
  refine Gk_getR (j := 0) B d_Route_follow_23 in_Route cl_Route (by decide) tw_202 rfl h23 ?_
  obtain ⟨v26, h26, h⟩ := gk_bind h
  refine Gk_getI (j := 3) B d_Route_follow_26 in_Fit cl_Fit (by decide) tw_188 rfl h26 ?_
  refine Gk_icmp_ge (tgt := 60) B d_Route_follow_29 rfl (fun c29 => ?_) (fun c29 => ?_)
  · rw [if_pos c29] at h
    refine Gk_aload_n (i := 0) (r := a0) B d_Route_follow_60 rfl rfl ?_
    refine Gk_aload_n (i := 0) (r := a0) B d_Route_follow_61 rfl rfl ?_
    obtain ⟨v62, h62, h⟩ := gk_bind h
    refine Gk_getR (j := 0) B d_Route_follow_62 in_Route cl_Route (by decide) tw_202 rfl h62 ?_
    obtain ⟨v65, h65, h⟩ := gk_bind h
    refine Gk_getI (j := 4) B d_Route_follow_65 in_Fit cl_Fit (by decide) tw_190 rfl h65 ?_
    obtain ⟨M68, h68, h⟩ := gk_bind h
    refine Gk_put (j := 1) (ty := .int) B d_Route_follow_68 in_Route t_Route t_Route_ok n_Route cl_Route (by decide) tw_203 rfl rfl rfl rfl rfl h68 ?_
    cases h
    exact Gk_vret B hr d_Route_follow_71 (by decide) (by decide) rfl
  rw [if_neg c29] at h
  refine Gk_aload_n (i := 2) (r := a2) B d_Route_follow_32 rfl rfl ?_
  refine Gk_aload_n (i := 0) (r := a0) B d_Route_follow_33 rfl rfl ?_
  obtain ⟨v34, h34, h⟩ := gk_bind h
  refine Gk_getR (j := 0) B d_Route_follow_34 in_Route cl_Route (by decide) tw_202 rfl h34 ?_
  obtain ⟨v37, h37, h⟩ := gk_bind h
  refine Gk_getR (j := 1) B d_Route_follow_37 in_Fit cl_Fit (by decide) tw_184 rfl h37 ?_
  refine Gk_iload_n (i := 3) (x := x3) B d_Route_follow_40 rfl rfl ?_
  obtain ⟨v41, h41, h⟩ := gk_bind h
  refine Gk_iaload B d_Route_follow_41 ty_0 h41 ?_
  refine Gk_aload_n (i := 0) (r := a0) B d_Route_follow_42 rfl rfl ?_
  obtain ⟨v43, h43, h⟩ := gk_bind h
  refine Gk_getR (j := 0) B d_Route_follow_43 in_Route cl_Route (by decide) tw_202 rfl h43 ?_
  obtain ⟨v46, h46, h⟩ := gk_bind h
  refine Gk_getR (j := 2) B d_Route_follow_46 in_Fit cl_Fit (by decide) tw_186 rfl h46 ?_
  refine Gk_iload_n (i := 3) (x := x3) B d_Route_follow_49 rfl rfl ?_
  obtain ⟨v50, h50, h⟩ := gk_bind h
  refine Gk_iaload B d_Route_follow_50 ty_0 h50 ?_
  obtain ⟨o51, g51, h⟩ := gk_bind h
  obtain ⟨w51, h51, h⟩ := gk_bind h
  refine Gk_callV (As := [.int v41, .int v50]) (rest := []) (st1 := []) (k1 := 0) (n1 := 0) B gk_hG d_Route_follow_51 (sn_Outcome_addParameter h51) g51 cl_Outcome tw_609 tw_606 tw_607 tw_608 tw_47 nm_Outcome_addParameter rfl (by decide) ⟨by decide, by decide⟩ ⟨by decide, by decide⟩ rfl rfl rfl rfl ?_
  refine Gk_iinc (x := x3) (v := (x3 + 1)) (L' := [some (va_rf a0), none, some (va_rf a2), some (.int (x3 + 1))]) B d_Route_follow_54 rfl (congrArg (fun z => x3 + z) (by decide : Int32.ofInt 1 = 1)) (by decide) (gk_c1_r rfl) rfl ?_
  refine Gk_goto (tgt := 21) B d_Route_follow_57 rfl ?_
  exact H21 a0 a2 (x3 + 1) w51 h
set_option maxHeartbeats 4000000 in
set_option maxRecDepth 100000 in
theorem sn_Route_follow_21 {l : Launch} {Γ : gk_G} {p : Program} {e : Env} {s : State} {m : MethodId} {args : Array Value} {below : List Frame} {meth : Method} {c : Code} (B : gk_B p s m args meth c gk_Y Γ c_Route_follow 4 "StageDispatcher$Route") (hr : meth.sig.returnType = none) {ρ : gk_M}   {a0 : Option Nat} {a2 : Option Nat} {x3 : Int32} {M : gk_M} (h : fn_Route_follow_21  a0 a2 x3 M = some ρ) : Gk p l e rm_Route_follow s m args below meth c gk_Y Γ 4 (MQ below (gk_Q gk_Y Γ none ρ) args s rm_Route_follow.cells rm_Route_follow.slots (fun q => Γ.2.2 ≤ q)) 0 0 M 21 [some (va_rf a0), none, some (va_rf a2), some (.int x3)] [] := by
  unfold fn_Route_follow_21 at h
  exact gk_loop_sound (α := Option Nat × Option Nat × Int32 × gk_M) (P := fun a => Gk p l e rm_Route_follow s m args below meth c gk_Y Γ 4 (MQ below (gk_Q gk_Y Γ none ρ) args s rm_Route_follow.cells rm_Route_follow.slots (fun q => Γ.2.2 ≤ q)) 0 0 a.2.2.2 21 [some (va_rf a.1), none, some (va_rf a.2.1), some (.int a.2.2.1)] []) (fun kk a Hk hb => sn_Route_follow_21_bd B hr (fun a0 a2 x3 M hh => Hk (a0, a2, x3, M) hh) hb) _ _ h
set_option maxHeartbeats 4000000 in
set_option maxRecDepth 100000 in
theorem sn_Route_follow_0 {l : Launch} {Γ : gk_G} {p : Program} {e : Env} {s : State} {m : MethodId} {args : Array Value} {below : List Frame} {meth : Method} {c : Code} (B : gk_B p s m args meth c gk_Y Γ c_Route_follow 4 "StageDispatcher$Route") (hr : meth.sig.returnType = none) {ρ : gk_M}   {a0 : Option Nat} {a1 : Option Nat} {a2 : Option Nat} {M : gk_M} (h : fn_Route_follow  a0 a1 a2 M = some ρ) : Gk p l e rm_Route_follow s m args below meth c gk_Y Γ 4 (MQ below (gk_Q gk_Y Γ none ρ) args s rm_Route_follow.cells rm_Route_follow.slots (fun q => Γ.2.2 ≤ q)) 0 0 M 0 [some (va_rf a0), some (va_rf a1), some (va_rf a2), none] [] := by
  unfold fn_Route_follow at h
  refine Gk_aload_n (i := 0) (r := a0) B d_Route_follow_0 rfl rfl ?_
  obtain ⟨v1, h1, h⟩ := gk_bind h
  refine Gk_getR (j := 0) B d_Route_follow_1 in_Route cl_Route (by decide) tw_202 rfl h1 ?_
  refine Gk_aload_n (i := 1) (r := a1) B d_Route_follow_4 rfl rfl ?_
  refine Gk_aload_n (i := 2) (r := a2) B d_Route_follow_5 rfl rfl ?_
  obtain ⟨v6, h6, h⟩ := gk_bind h
  refine Gk_getR (j := 0) B d_Route_follow_6 in_Outcome cl_Outcome (by decide) tw_225 rfl h6 ?_
  refine Gk_aload_n (i := 0) (r := a0) B d_Route_follow_9 rfl rfl ?_
  obtain ⟨v10, h10, h⟩ := gk_bind h
  refine Gk_getI (j := 1) B d_Route_follow_10 in_Route cl_Route (by decide) tw_203 rfl h10 ?_
  obtain ⟨o13, g13, h⟩ := gk_bind h
  obtain ⟨w13, h13, h⟩ := gk_bind h
  refine Gk_callV (As := [va_rf a1, va_rf v6, .int v10]) (rest := []) (st1 := [.int w13.1]) (k1 := 0) (n1 := 0) B gk_hG d_Route_follow_13 (sn_Fit_find h13) g13 cl_Fit tw_575 tw_572 tw_573 tw_574 tw_46 nm_Fit_find rfl (by decide) ⟨by decide, by decide⟩ ⟨by decide, by decide⟩ rfl rfl rfl rfl ?_
  refine Gk_if_eq (tgt := 71) B d_Route_follow_16 rfl (fun c16 => ?_) (fun c16 => ?_)
  · rw [if_pos c16] at h
    cases h
    exact Gk_vret B hr d_Route_follow_71 (by decide) (by decide) rfl
  rw [if_neg c16] at h
  refine Gk_iconst (v := 0) B d_Route_follow_19 (by decide) ?_
  refine Gk_istore_n (i := 3) (L' := [some (va_rf a0), some (va_rf a1), some (va_rf a2), some (.int 0)]) B d_Route_follow_20 rfl (by decide) (gk_c1_r rfl) rfl ?_
  refine Gk_weak [true, false, true, true] (L' := [some (va_rf a0), none, some (va_rf a2), some (.int 0)]) rfl ?_
  exact sn_Route_follow_21 B hr h
theorem sn_Route_follow {l : Launch} {Γ : gk_G} {a0 : Option Nat} {a1 : Option Nat} {a2 : Option Nat} {M : gk_M} {ρ : gk_M} (h : fn_Route_follow a0 a1 a2 M = some ρ) : gk_Met l gk_Y Γ y_Route_follow (.code y_Route_follow c_Route_follow 4 none :: gk_Y.2.2.2) rm_Route_follow [va_rf a0, va_rf a1, va_rf a2] M none ρ :=
  gk_start (by decide) (by simp [lg_sl, gk_rc, gk_ic, gk_jc]) [some (va_rf a0), some (va_rf a1), some (va_rf a2), none] (by simp [gk_as, lv_args, gk_rc, gk_ic, gk_jc]) (fun p e s m args below meth c B hr hin => sn_Route_follow_0 B hr h)
theorem d_Template_isSameAs_0 : decode c_Template_isSameAs 0 = .ok (.aload_n 0, 1) := by decide +kernel
theorem d_Template_isSameAs_1 : decode c_Template_isSameAs 1 = .ok (.getfield 38, 3) := by decide +kernel
theorem d_Template_isSameAs_4 : decode c_Template_isSameAs 4 = .ok (.aload_n 1, 1) := by decide +kernel
theorem d_Template_isSameAs_5 : decode c_Template_isSameAs 5 = .ok (.getfield 38, 3) := by decide +kernel
theorem d_Template_isSameAs_8 : decode c_Template_isSameAs 8 = .ok (.if_icmp .eq 5, 3) := by decide +kernel
theorem d_Template_isSameAs_11 : decode c_Template_isSameAs 11 = .ok (.iconst 0, 1) := by decide +kernel
theorem d_Template_isSameAs_12 : decode c_Template_isSameAs 12 = .ok (.ireturn, 1) := by decide +kernel
theorem d_Template_isSameAs_13 : decode c_Template_isSameAs 13 = .ok (.iconst 0, 1) := by decide +kernel
theorem d_Template_isSameAs_14 : decode c_Template_isSameAs 14 = .ok (.istore_n 2, 1) := by decide +kernel
theorem d_Template_isSameAs_15 : decode c_Template_isSameAs 15 = .ok (.iload_n 2, 1) := by decide +kernel
theorem d_Template_isSameAs_16 : decode c_Template_isSameAs 16 = .ok (.aload_n 0, 1) := by decide +kernel
theorem d_Template_isSameAs_17 : decode c_Template_isSameAs 17 = .ok (.getfield 38, 3) := by decide +kernel
theorem d_Template_isSameAs_20 : decode c_Template_isSameAs 20 = .ok (.if_icmp .ge 26, 3) := by decide +kernel
theorem d_Template_isSameAs_23 : decode c_Template_isSameAs 23 = .ok (.aload_n 0, 1) := by decide +kernel
theorem d_Template_isSameAs_24 : decode c_Template_isSameAs 24 = .ok (.getfield 34, 3) := by decide +kernel
theorem d_Template_isSameAs_27 : decode c_Template_isSameAs 27 = .ok (.iload_n 2, 1) := by decide +kernel
theorem d_Template_isSameAs_28 : decode c_Template_isSameAs 28 = .ok (.iaload, 1) := by decide +kernel
theorem d_Template_isSameAs_29 : decode c_Template_isSameAs 29 = .ok (.aload_n 1, 1) := by decide +kernel
theorem d_Template_isSameAs_30 : decode c_Template_isSameAs 30 = .ok (.getfield 34, 3) := by decide +kernel
theorem d_Template_isSameAs_33 : decode c_Template_isSameAs 33 = .ok (.iload_n 2, 1) := by decide +kernel
theorem d_Template_isSameAs_34 : decode c_Template_isSameAs 34 = .ok (.iaload, 1) := by decide +kernel
theorem d_Template_isSameAs_35 : decode c_Template_isSameAs 35 = .ok (.if_icmp .eq 5, 3) := by decide +kernel
theorem d_Template_isSameAs_38 : decode c_Template_isSameAs 38 = .ok (.iconst 0, 1) := by decide +kernel
theorem d_Template_isSameAs_39 : decode c_Template_isSameAs 39 = .ok (.ireturn, 1) := by decide +kernel
theorem d_Template_isSameAs_40 : decode c_Template_isSameAs 40 = .ok (.iinc 2 1, 3) := by decide +kernel
theorem d_Template_isSameAs_43 : decode c_Template_isSameAs 43 = .ok (.goto (-28), 3) := by decide +kernel
theorem d_Template_isSameAs_46 : decode c_Template_isSameAs 46 = .ok (.iconst 1, 1) := by decide +kernel
theorem d_Template_isSameAs_47 : decode c_Template_isSameAs 47 = .ok (.ireturn, 1) := by decide +kernel
set_option maxHeartbeats 4000000 in
set_option maxRecDepth 100000 in
theorem sn_Template_isSameAs_15_bd {l : Launch} {Γ : gk_G} {p : Program} {e : Env} {s : State} {m : MethodId} {args : Array Value} {below : List Frame} {meth : Method} {c : Code} (B : gk_B p s m args meth c gk_Y Γ c_Template_isSameAs 3 "StageDispatcher$Template") (hr : meth.sig.returnType = (some .boolean)) {ρ : Int32 × gk_M} {k15 : Option Nat → Option Nat → Int32 → gk_M → Option (Int32 × gk_M)} (H15 : ∀ (a0 : Option Nat) (a1 : Option Nat) (x2 : Int32) (M : gk_M), k15 a0 a1 x2 M = some ρ → Gk p l e rm_Template_isSameAs s m args below meth c gk_Y Γ 3 (MQ below (gk_Q gk_Y Γ (some (.int ρ.1)) ρ.2) args s rm_Template_isSameAs.cells rm_Template_isSameAs.slots (fun q => Γ.2.2 ≤ q)) 0 0 M 15 [some (va_rf a0), some (va_rf a1), some (.int x2)] []) {a0 : Option Nat} {a1 : Option Nat} {x2 : Int32} {M : gk_M} (h : fn_Template_isSameAs_15_bd k15 a0 a1 x2 M = some ρ) : Gk p l e rm_Template_isSameAs s m args below meth c gk_Y Γ 3 (MQ below (gk_Q gk_Y Γ (some (.int ρ.1)) ρ.2) args s rm_Template_isSameAs.cells rm_Template_isSameAs.slots (fun q => Γ.2.2 ≤ q)) 0 0 M 15 [some (va_rf a0), some (va_rf a1), some (.int x2)] [] := by
  unfold fn_Template_isSameAs_15_bd at h
  refine Gk_iload_n (i := 2) (x := x2) B d_Template_isSameAs_15 rfl rfl ?_
  refine Gk_aload_n (i := 0) (r := a0) B d_Template_isSameAs_16 rfl rfl ?_
  obtain ⟨v17, h17, h⟩ := gk_bind h
  refine Gk_getI (j := 1) B d_Template_isSameAs_17 in_Template cl_Template (by decide) tw_339 rfl h17 ?_
  refine Gk_icmp_ge (tgt := 46) B d_Template_isSameAs_20 rfl (fun c20 => ?_) (fun c20 => ?_)
  · rw [if_pos c20] at h
    refine Gk_iconst (v := 1) B d_Template_isSameAs_46 (by decide) ?_
    obtain ⟨z, hz, h⟩ := gk_bind h
    obtain ⟨hz1, hz2⟩ := gk_z_eq hz
    cases h
    subst hz1
    exact Gk_iret B hr d_Template_isSameAs_47 (gk_nz hz2) (by decide) (by decide) rfl
  rw [if_neg c20] at h
  refine Gk_aload_n (i := 0) (r := a0) B d_Template_isSameAs_23 rfl rfl ?_
  obtain ⟨v24, h24, h⟩ := gk_bind h
  refine Gk_getR (j := 0) B d_Template_isSameAs_24 in_Template cl_Template (by decide) tw_337 rfl h24 ?_
  refine Gk_iload_n (i := 2) (x := x2) B d_Template_isSameAs_27 rfl rfl ?_
  obtain ⟨v28, h28, h⟩ := gk_bind h
  refine Gk_iaload B d_Template_isSameAs_28 ty_0 h28 ?_
  refine Gk_aload_n (i := 1) (r := a1) B d_Template_isSameAs_29 rfl rfl ?_
  obtain ⟨v30, h30, h⟩ := gk_bind h
  refine Gk_getR (j := 0) B d_Template_isSameAs_30 in_Template cl_Template (by decide) tw_337 rfl h30 ?_
  refine Gk_iload_n (i := 2) (x := x2) B d_Template_isSameAs_33 rfl rfl ?_
  obtain ⟨v34, h34, h⟩ := gk_bind h
  refine Gk_iaload B d_Template_isSameAs_34 ty_0 h34 ?_
  refine Gk_icmp_eq (tgt := 40) B d_Template_isSameAs_35 rfl (fun c35 => ?_) (fun c35 => ?_)
  · rw [if_pos c35] at h
    refine Gk_iinc (x := x2) (v := (x2 + 1)) (L' := [some (va_rf a0), some (va_rf a1), some (.int (x2 + 1))]) B d_Template_isSameAs_40 rfl (congrArg (fun z => x2 + z) (by decide : Int32.ofInt 1 = 1)) (by decide) (gk_c1_r rfl) rfl ?_
    refine Gk_goto (tgt := 15) B d_Template_isSameAs_43 rfl ?_
    exact H15 a0 a1 (x2 + 1) M h
  rw [if_neg c35] at h
  refine Gk_iconst (v := 0) B d_Template_isSameAs_38 (by decide) ?_
  obtain ⟨z, hz, h⟩ := gk_bind h
  obtain ⟨hz1, hz2⟩ := gk_z_eq hz
  cases h
  subst hz1
  exact Gk_iret B hr d_Template_isSameAs_39 (gk_nz hz2) (by decide) (by decide) rfl
set_option maxHeartbeats 4000000 in
set_option maxRecDepth 100000 in
theorem sn_Template_isSameAs_15 {l : Launch} {Γ : gk_G} {p : Program} {e : Env} {s : State} {m : MethodId} {args : Array Value} {below : List Frame} {meth : Method} {c : Code} (B : gk_B p s m args meth c gk_Y Γ c_Template_isSameAs 3 "StageDispatcher$Template") (hr : meth.sig.returnType = (some .boolean)) {ρ : Int32 × gk_M}   {a0 : Option Nat} {a1 : Option Nat} {x2 : Int32} {M : gk_M} (h : fn_Template_isSameAs_15  a0 a1 x2 M = some ρ) : Gk p l e rm_Template_isSameAs s m args below meth c gk_Y Γ 3 (MQ below (gk_Q gk_Y Γ (some (.int ρ.1)) ρ.2) args s rm_Template_isSameAs.cells rm_Template_isSameAs.slots (fun q => Γ.2.2 ≤ q)) 0 0 M 15 [some (va_rf a0), some (va_rf a1), some (.int x2)] [] := by
  unfold fn_Template_isSameAs_15 at h
  exact gk_loop_sound (α := Option Nat × Option Nat × Int32 × gk_M) (P := fun a => Gk p l e rm_Template_isSameAs s m args below meth c gk_Y Γ 3 (MQ below (gk_Q gk_Y Γ (some (.int ρ.1)) ρ.2) args s rm_Template_isSameAs.cells rm_Template_isSameAs.slots (fun q => Γ.2.2 ≤ q)) 0 0 a.2.2.2 15 [some (va_rf a.1), some (va_rf a.2.1), some (.int a.2.2.1)] []) (fun kk a Hk hb => sn_Template_isSameAs_15_bd B hr (fun a0 a1 x2 M hh => Hk (a0, a1, x2, M) hh) hb) _ _ h
set_option maxHeartbeats 4000000 in
set_option maxRecDepth 100000 in
theorem sn_Template_isSameAs_0 {l : Launch} {Γ : gk_G} {p : Program} {e : Env} {s : State} {m : MethodId} {args : Array Value} {below : List Frame} {meth : Method} {c : Code} (B : gk_B p s m args meth c gk_Y Γ c_Template_isSameAs 3 "StageDispatcher$Template") (hr : meth.sig.returnType = (some .boolean)) {ρ : Int32 × gk_M}   {a0 : Option Nat} {a1 : Option Nat} {M : gk_M} (h : fn_Template_isSameAs  a0 a1 M = some ρ) : Gk p l e rm_Template_isSameAs s m args below meth c gk_Y Γ 3 (MQ below (gk_Q gk_Y Γ (some (.int ρ.1)) ρ.2) args s rm_Template_isSameAs.cells rm_Template_isSameAs.slots (fun q => Γ.2.2 ≤ q)) 0 0 M 0 [some (va_rf a0), some (va_rf a1), none] [] := by
  unfold fn_Template_isSameAs at h
  refine Gk_aload_n (i := 0) (r := a0) B d_Template_isSameAs_0 rfl rfl ?_
  obtain ⟨v1, h1, h⟩ := gk_bind h
  refine Gk_getI (j := 1) B d_Template_isSameAs_1 in_Template cl_Template (by decide) tw_339 rfl h1 ?_
  refine Gk_aload_n (i := 1) (r := a1) B d_Template_isSameAs_4 rfl rfl ?_
  obtain ⟨v5, h5, h⟩ := gk_bind h
  refine Gk_getI (j := 1) B d_Template_isSameAs_5 in_Template cl_Template (by decide) tw_339 rfl h5 ?_
  refine Gk_icmp_eq (tgt := 13) B d_Template_isSameAs_8 rfl (fun c8 => ?_) (fun c8 => ?_)
  · rw [if_pos c8] at h
    refine Gk_iconst (v := 0) B d_Template_isSameAs_13 (by decide) ?_
    refine Gk_istore_n (i := 2) (L' := [some (va_rf a0), some (va_rf a1), some (.int 0)]) B d_Template_isSameAs_14 rfl (by decide) (gk_c1_r rfl) rfl ?_
    exact sn_Template_isSameAs_15 B hr h
  rw [if_neg c8] at h
  refine Gk_iconst (v := 0) B d_Template_isSameAs_11 (by decide) ?_
  obtain ⟨z, hz, h⟩ := gk_bind h
  obtain ⟨hz1, hz2⟩ := gk_z_eq hz
  cases h
  subst hz1
  exact Gk_iret B hr d_Template_isSameAs_12 (gk_nz hz2) (by decide) (by decide) rfl
theorem sn_Template_isSameAs {l : Launch} {Γ : gk_G} {a0 : Option Nat} {a1 : Option Nat} {M : gk_M} {ρ : Int32 × gk_M} (h : fn_Template_isSameAs a0 a1 M = some ρ) : gk_Met l gk_Y Γ y_Template_isSameAs (.code y_Template_isSameAs c_Template_isSameAs 3 (some .boolean) :: gk_Y.2.2.2) rm_Template_isSameAs [va_rf a0, va_rf a1] M (some (.int ρ.1)) ρ.2 :=
  gk_start (by decide) (by simp [lg_sl, gk_rc, gk_ic, gk_jc]) [some (va_rf a0), some (va_rf a1), none] (by simp [gk_as, lv_args, gk_rc, gk_ic, gk_jc]) (fun p e s m args below meth c B hr hin => sn_Template_isSameAs_0 B hr h)
theorem d_Catalog_rootsWith_0 : decode c_Catalog_rootsWith 0 = .ok (.iconst 0, 1) := by decide +kernel
theorem d_Catalog_rootsWith_1 : decode c_Catalog_rootsWith 1 = .ok (.istore_n 2, 1) := by decide +kernel
theorem d_Catalog_rootsWith_2 : decode c_Catalog_rootsWith 2 = .ok (.iconst 0, 1) := by decide +kernel
theorem d_Catalog_rootsWith_3 : decode c_Catalog_rootsWith 3 = .ok (.istore_n 3, 1) := by decide +kernel
theorem d_Catalog_rootsWith_4 : decode c_Catalog_rootsWith 4 = .ok (.iload_n 3, 1) := by decide +kernel
theorem d_Catalog_rootsWith_5 : decode c_Catalog_rootsWith 5 = .ok (.aload_n 0, 1) := by decide +kernel
theorem d_Catalog_rootsWith_6 : decode c_Catalog_rootsWith 6 = .ok (.getfield 29, 3) := by decide +kernel
theorem d_Catalog_rootsWith_9 : decode c_Catalog_rootsWith 9 = .ok (.if_icmp .ge 37, 3) := by decide +kernel
theorem d_Catalog_rootsWith_12 : decode c_Catalog_rootsWith 12 = .ok (.aload_n 0, 1) := by decide +kernel
theorem d_Catalog_rootsWith_13 : decode c_Catalog_rootsWith 13 = .ok (.getfield 11, 3) := by decide +kernel
theorem d_Catalog_rootsWith_16 : decode c_Catalog_rootsWith 16 = .ok (.iload_n 3, 1) := by decide +kernel
theorem d_Catalog_rootsWith_17 : decode c_Catalog_rootsWith 17 = .ok (.aaload, 1) := by decide +kernel
theorem d_Catalog_rootsWith_18 : decode c_Catalog_rootsWith 18 = .ok (.ifnull 22, 3) := by decide +kernel
theorem d_Catalog_rootsWith_21 : decode c_Catalog_rootsWith 21 = .ok (.aload_n 0, 1) := by decide +kernel
theorem d_Catalog_rootsWith_22 : decode c_Catalog_rootsWith 22 = .ok (.getfield 11, 3) := by decide +kernel
theorem d_Catalog_rootsWith_25 : decode c_Catalog_rootsWith 25 = .ok (.iload_n 3, 1) := by decide +kernel
theorem d_Catalog_rootsWith_26 : decode c_Catalog_rootsWith 26 = .ok (.aaload, 1) := by decide +kernel
theorem d_Catalog_rootsWith_27 : decode c_Catalog_rootsWith 27 = .ok (.aload_n 1, 1) := by decide +kernel
theorem d_Catalog_rootsWith_28 : decode c_Catalog_rootsWith 28 = .ok (.invokevirtual 51, 3) := by decide +kernel
theorem d_Catalog_rootsWith_31 : decode c_Catalog_rootsWith 31 = .ok (.ifCond .eq 9, 3) := by decide +kernel
theorem d_Catalog_rootsWith_34 : decode c_Catalog_rootsWith 34 = .ok (.iload_n 2, 1) := by decide +kernel
theorem d_Catalog_rootsWith_35 : decode c_Catalog_rootsWith 35 = .ok (.iconst 1, 1) := by decide +kernel
theorem d_Catalog_rootsWith_36 : decode c_Catalog_rootsWith 36 = .ok (.iload_n 3, 1) := by decide +kernel
theorem d_Catalog_rootsWith_37 : decode c_Catalog_rootsWith 37 = .ok (.ishl, 1) := by decide +kernel
theorem d_Catalog_rootsWith_38 : decode c_Catalog_rootsWith 38 = .ok (.ior, 1) := by decide +kernel
theorem d_Catalog_rootsWith_39 : decode c_Catalog_rootsWith 39 = .ok (.istore_n 2, 1) := by decide +kernel
theorem d_Catalog_rootsWith_40 : decode c_Catalog_rootsWith 40 = .ok (.iinc 3 1, 3) := by decide +kernel
theorem d_Catalog_rootsWith_43 : decode c_Catalog_rootsWith 43 = .ok (.goto (-39), 3) := by decide +kernel
theorem d_Catalog_rootsWith_46 : decode c_Catalog_rootsWith 46 = .ok (.iload_n 2, 1) := by decide +kernel
theorem d_Catalog_rootsWith_47 : decode c_Catalog_rootsWith 47 = .ok (.ireturn, 1) := by decide +kernel
set_option maxHeartbeats 4000000 in
set_option maxRecDepth 100000 in
theorem sn_Catalog_rootsWith_40 {l : Launch} {Γ : gk_G} {p : Program} {e : Env} {s : State} {m : MethodId} {args : Array Value} {below : List Frame} {meth : Method} {c : Code} (B : gk_B p s m args meth c gk_Y Γ c_Catalog_rootsWith 4 "StageDispatcher$Catalog") (hr : meth.sig.returnType = (some .int)) {ρ : Int32 × gk_M} {k4 : Option Nat → Option Nat → Int32 → Int32 → gk_M → Option (Int32 × gk_M)} (H4 : ∀ (a0 : Option Nat) (a1 : Option Nat) (x2 : Int32) (x3 : Int32) (M : gk_M), k4 a0 a1 x2 x3 M = some ρ → Gk p l e rm_Catalog_rootsWith s m args below meth c gk_Y Γ 4 (MQ below (gk_Q gk_Y Γ (some (.int ρ.1)) ρ.2) args s rm_Catalog_rootsWith.cells rm_Catalog_rootsWith.slots (fun q => Γ.2.2 ≤ q)) 0 0 M 4 [some (va_rf a0), some (va_rf a1), some (.int x2), some (.int x3)] []) {a0 : Option Nat} {a1 : Option Nat} {x2 : Int32} {x3 : Int32} {M : gk_M} (h : fn_Catalog_rootsWith_40 k4 a0 a1 x2 x3 M = some ρ) : Gk p l e rm_Catalog_rootsWith s m args below meth c gk_Y Γ 4 (MQ below (gk_Q gk_Y Γ (some (.int ρ.1)) ρ.2) args s rm_Catalog_rootsWith.cells rm_Catalog_rootsWith.slots (fun q => Γ.2.2 ≤ q)) 0 0 M 40 [some (va_rf a0), some (va_rf a1), some (.int x2), some (.int x3)] [] := by
  unfold fn_Catalog_rootsWith_40 at h
  refine Gk_iinc (x := x3) (v := (x3 + 1)) (L' := [some (va_rf a0), some (va_rf a1), some (.int x2), some (.int (x3 + 1))]) B d_Catalog_rootsWith_40 rfl (congrArg (fun z => x3 + z) (by decide : Int32.ofInt 1 = 1)) (by decide) (gk_c1_i rfl) rfl ?_
  refine Gk_goto (tgt := 4) B d_Catalog_rootsWith_43 rfl ?_
  exact H4 a0 a1 x2 (x3 + 1) M h
set_option maxHeartbeats 4000000 in
set_option maxRecDepth 100000 in
theorem sn_Catalog_rootsWith_4_bd {l : Launch} {Γ : gk_G} {p : Program} {e : Env} {s : State} {m : MethodId} {args : Array Value} {below : List Frame} {meth : Method} {c : Code} (B : gk_B p s m args meth c gk_Y Γ c_Catalog_rootsWith 4 "StageDispatcher$Catalog") (hr : meth.sig.returnType = (some .int)) {ρ : Int32 × gk_M} {k4 : Option Nat → Option Nat → Int32 → Int32 → gk_M → Option (Int32 × gk_M)} (H4 : ∀ (a0 : Option Nat) (a1 : Option Nat) (x2 : Int32) (x3 : Int32) (M : gk_M), k4 a0 a1 x2 x3 M = some ρ → Gk p l e rm_Catalog_rootsWith s m args below meth c gk_Y Γ 4 (MQ below (gk_Q gk_Y Γ (some (.int ρ.1)) ρ.2) args s rm_Catalog_rootsWith.cells rm_Catalog_rootsWith.slots (fun q => Γ.2.2 ≤ q)) 0 0 M 4 [some (va_rf a0), some (va_rf a1), some (.int x2), some (.int x3)] []) {a0 : Option Nat} {a1 : Option Nat} {x2 : Int32} {x3 : Int32} {M : gk_M} (h : fn_Catalog_rootsWith_4_bd k4 a0 a1 x2 x3 M = some ρ) : Gk p l e rm_Catalog_rootsWith s m args below meth c gk_Y Γ 4 (MQ below (gk_Q gk_Y Γ (some (.int ρ.1)) ρ.2) args s rm_Catalog_rootsWith.cells rm_Catalog_rootsWith.slots (fun q => Γ.2.2 ≤ q)) 0 0 M 4 [some (va_rf a0), some (va_rf a1), some (.int x2), some (.int x3)] [] := by
  unfold fn_Catalog_rootsWith_4_bd at h
  refine Gk_iload_n (i := 3) (x := x3) B d_Catalog_rootsWith_4 rfl rfl ?_
  refine Gk_aload_n (i := 0) (r := a0) B d_Catalog_rootsWith_5 rfl rfl ?_
  obtain ⟨v6, h6, h⟩ := gk_bind h
  refine Gk_getI (j := 3) B d_Catalog_rootsWith_6 in_Catalog cl_Catalog (by decide) tw_104 rfl h6 ?_
  refine Gk_icmp_ge (tgt := 46) B d_Catalog_rootsWith_9 rfl (fun c9 => ?_) (fun c9 => ?_)
  · rw [if_pos c9] at h
    refine Gk_iload_n (i := 2) (x := x2) B d_Catalog_rootsWith_46 rfl rfl ?_
    cases h
    exact Gk_iret B hr d_Catalog_rootsWith_47 rfl (by decide) (by decide) rfl
  rw [if_neg c9] at h
  refine Gk_aload_n (i := 0) (r := a0) B d_Catalog_rootsWith_12 rfl rfl ?_
  obtain ⟨v13, h13, h⟩ := gk_bind h
  refine Gk_getR (j := 0) B d_Catalog_rootsWith_13 in_Catalog cl_Catalog (by decide) tw_97 rfl h13 ?_
  refine Gk_iload_n (i := 3) (x := x3) B d_Catalog_rootsWith_16 rfl rfl ?_
  obtain ⟨v17, h17, h⟩ := gk_bind h
  refine Gk_aaload B d_Catalog_rootsWith_17 ty_3 h17 ?_
  refine Gk_ifnull (tgt := 40) B d_Catalog_rootsWith_18 rfl (fun c18 => ?_) (fun c18 => ?_)
  · rw [if_pos c18] at h
    exact sn_Catalog_rootsWith_40 B hr H4 h
  rw [if_neg c18] at h
  refine Gk_aload_n (i := 0) (r := a0) B d_Catalog_rootsWith_21 rfl rfl ?_
  obtain ⟨v22, h22, h⟩ := gk_bind h
  refine Gk_getR (j := 0) B d_Catalog_rootsWith_22 in_Catalog cl_Catalog (by decide) tw_97 rfl h22 ?_
  refine Gk_iload_n (i := 3) (x := x3) B d_Catalog_rootsWith_25 rfl rfl ?_
  obtain ⟨v26, h26, h⟩ := gk_bind h
  refine Gk_aaload B d_Catalog_rootsWith_26 ty_3 h26 ?_
  refine Gk_aload_n (i := 1) (r := a1) B d_Catalog_rootsWith_27 rfl rfl ?_
  obtain ⟨o28, g28, h⟩ := gk_bind h
  obtain ⟨w28, h28, h⟩ := gk_bind h
  refine Gk_callV (As := [va_rf a1]) (rest := []) (st1 := [.int w28.1]) (k1 := 0) (n1 := 0) B gk_hG d_Catalog_rootsWith_28 (sn_Template_isSameAs h28) g28 cl_Template tw_617 tw_614 tw_615 tw_616 tw_49 nm_Template_isSameAs rfl (by decide) ⟨by decide, by decide⟩ ⟨by decide, by decide⟩ rfl rfl rfl rfl ?_
  refine Gk_if_eq (tgt := 40) B d_Catalog_rootsWith_31 rfl (fun c31 => ?_) (fun c31 => ?_)
  · rw [if_pos c31] at h
    exact sn_Catalog_rootsWith_40 B hr H4 h
  rw [if_neg c31] at h
  refine Gk_iload_n (i := 2) (x := x2) B d_Catalog_rootsWith_34 rfl rfl ?_
  refine Gk_iconst (v := 1) B d_Catalog_rootsWith_35 (by decide) ?_
  refine Gk_iload_n (i := 3) (x := x3) B d_Catalog_rootsWith_36 rfl rfl ?_
  refine Gk_ishl B d_Catalog_rootsWith_37 ?_
  refine Gk_ior B d_Catalog_rootsWith_38 ?_
  refine Gk_istore_n (i := 2) (L' := [some (va_rf a0), some (va_rf a1), some (.int (x2 ||| ((1 : Int32) <<< (x3 &&& 31)))), some (.int x3)]) B d_Catalog_rootsWith_39 rfl (by decide) (gk_c1_r rfl) rfl ?_
  exact sn_Catalog_rootsWith_40 B hr H4 h
set_option maxHeartbeats 4000000 in
set_option maxRecDepth 100000 in
theorem sn_Catalog_rootsWith_4 {l : Launch} {Γ : gk_G} {p : Program} {e : Env} {s : State} {m : MethodId} {args : Array Value} {below : List Frame} {meth : Method} {c : Code} (B : gk_B p s m args meth c gk_Y Γ c_Catalog_rootsWith 4 "StageDispatcher$Catalog") (hr : meth.sig.returnType = (some .int)) {ρ : Int32 × gk_M}   {a0 : Option Nat} {a1 : Option Nat} {x2 : Int32} {x3 : Int32} {M : gk_M} (h : fn_Catalog_rootsWith_4  a0 a1 x2 x3 M = some ρ) : Gk p l e rm_Catalog_rootsWith s m args below meth c gk_Y Γ 4 (MQ below (gk_Q gk_Y Γ (some (.int ρ.1)) ρ.2) args s rm_Catalog_rootsWith.cells rm_Catalog_rootsWith.slots (fun q => Γ.2.2 ≤ q)) 0 0 M 4 [some (va_rf a0), some (va_rf a1), some (.int x2), some (.int x3)] [] := by
  unfold fn_Catalog_rootsWith_4 at h
  exact gk_loop_sound (α := Option Nat × Option Nat × Int32 × Int32 × gk_M) (P := fun a => Gk p l e rm_Catalog_rootsWith s m args below meth c gk_Y Γ 4 (MQ below (gk_Q gk_Y Γ (some (.int ρ.1)) ρ.2) args s rm_Catalog_rootsWith.cells rm_Catalog_rootsWith.slots (fun q => Γ.2.2 ≤ q)) 0 0 a.2.2.2.2 4 [some (va_rf a.1), some (va_rf a.2.1), some (.int a.2.2.1), some (.int a.2.2.2.1)] []) (fun kk a Hk hb => sn_Catalog_rootsWith_4_bd B hr (fun a0 a1 x2 x3 M hh => Hk (a0, a1, x2, x3, M) hh) hb) _ _ h
set_option maxHeartbeats 4000000 in
set_option maxRecDepth 100000 in
theorem sn_Catalog_rootsWith_0 {l : Launch} {Γ : gk_G} {p : Program} {e : Env} {s : State} {m : MethodId} {args : Array Value} {below : List Frame} {meth : Method} {c : Code} (B : gk_B p s m args meth c gk_Y Γ c_Catalog_rootsWith 4 "StageDispatcher$Catalog") (hr : meth.sig.returnType = (some .int)) {ρ : Int32 × gk_M}   {a0 : Option Nat} {a1 : Option Nat} {M : gk_M} (h : fn_Catalog_rootsWith  a0 a1 M = some ρ) : Gk p l e rm_Catalog_rootsWith s m args below meth c gk_Y Γ 4 (MQ below (gk_Q gk_Y Γ (some (.int ρ.1)) ρ.2) args s rm_Catalog_rootsWith.cells rm_Catalog_rootsWith.slots (fun q => Γ.2.2 ≤ q)) 0 0 M 0 [some (va_rf a0), some (va_rf a1), none, none] [] := by
  unfold fn_Catalog_rootsWith at h
  refine Gk_iconst (v := 0) B d_Catalog_rootsWith_0 (by decide) ?_
  refine Gk_istore_n (i := 2) (L' := [some (va_rf a0), some (va_rf a1), some (.int 0), none]) B d_Catalog_rootsWith_1 rfl (by decide) (gk_c1_r rfl) rfl ?_
  refine Gk_iconst (v := 0) B d_Catalog_rootsWith_2 (by decide) ?_
  refine Gk_istore_n (i := 3) (L' := [some (va_rf a0), some (va_rf a1), some (.int 0), some (.int 0)]) B d_Catalog_rootsWith_3 rfl (by decide) (gk_c1_i rfl) rfl ?_
  exact sn_Catalog_rootsWith_4 B hr h
theorem sn_Catalog_rootsWith {l : Launch} {Γ : gk_G} {a0 : Option Nat} {a1 : Option Nat} {M : gk_M} {ρ : Int32 × gk_M} (h : fn_Catalog_rootsWith a0 a1 M = some ρ) : gk_Met l gk_Y Γ y_Catalog_rootsWith (.code y_Catalog_rootsWith c_Catalog_rootsWith 4 (some .int) :: gk_Y.2.2.2) rm_Catalog_rootsWith [va_rf a0, va_rf a1] M (some (.int ρ.1)) ρ.2 :=
  gk_start (by decide) (by simp [lg_sl, gk_rc, gk_ic, gk_jc]) [some (va_rf a0), some (va_rf a1), none, none] (by simp [gk_as, lv_args, gk_rc, gk_ic, gk_jc]) (fun p e s m args below meth c B hr hin => sn_Catalog_rootsWith_0 B hr h)
theorem d_Route_findClasses_0 : decode c_Route_findClasses 0 = .ok (.aload_n 0, 1) := by decide +kernel
theorem d_Route_findClasses_1 : decode c_Route_findClasses 1 = .ok (.iconst 0, 1) := by decide +kernel
theorem d_Route_findClasses_2 : decode c_Route_findClasses 2 = .ok (.putfield 18, 3) := by decide +kernel
theorem d_Route_findClasses_5 : decode c_Route_findClasses 5 = .ok (.aconst_null, 1) := by decide +kernel
theorem d_Route_findClasses_6 : decode c_Route_findClasses 6 = .ok (.astore_n 3, 1) := by decide +kernel
theorem d_Route_findClasses_7 : decode c_Route_findClasses 7 = .ok (.iconst 0, 1) := by decide +kernel
theorem d_Route_findClasses_8 : decode c_Route_findClasses 8 = .ok (.istore 4, 2) := by decide +kernel
theorem d_Route_findClasses_10 : decode c_Route_findClasses 10 = .ok (.iload 4, 2) := by decide +kernel
theorem d_Route_findClasses_12 : decode c_Route_findClasses 12 = .ok (.aload_n 1, 1) := by decide +kernel
theorem d_Route_findClasses_13 : decode c_Route_findClasses 13 = .ok (.getfield 28, 3) := by decide +kernel
theorem d_Route_findClasses_16 : decode c_Route_findClasses 16 = .ok (.if_icmp .ge 85, 3) := by decide +kernel
theorem d_Route_findClasses_19 : decode c_Route_findClasses 19 = .ok (.aload_n 1, 1) := by decide +kernel
theorem d_Route_findClasses_20 : decode c_Route_findClasses 20 = .ok (.getfield 33, 3) := by decide +kernel
theorem d_Route_findClasses_23 : decode c_Route_findClasses 23 = .ok (.iload 4, 2) := by decide +kernel
theorem d_Route_findClasses_25 : decode c_Route_findClasses 25 = .ok (.aaload, 1) := by decide +kernel
theorem d_Route_findClasses_26 : decode c_Route_findClasses 26 = .ok (.astore 5, 2) := by decide +kernel
theorem d_Route_findClasses_28 : decode c_Route_findClasses 28 = .ok (.aload 5, 2) := by decide +kernel
theorem d_Route_findClasses_30 : decode c_Route_findClasses 30 = .ok (.ifnull 65, 3) := by decide +kernel
theorem d_Route_findClasses_33 : decode c_Route_findClasses 33 = .ok (.aload_n 3, 1) := by decide +kernel
theorem d_Route_findClasses_34 : decode c_Route_findClasses 34 = .ok (.ifnull 12, 3) := by decide +kernel
theorem d_Route_findClasses_37 : decode c_Route_findClasses 37 = .ok (.aload 5, 2) := by decide +kernel
theorem d_Route_findClasses_39 : decode c_Route_findClasses 39 = .ok (.aload_n 3, 1) := by decide +kernel
theorem d_Route_findClasses_40 : decode c_Route_findClasses 40 = .ok (.invokevirtual 37, 3) := by decide +kernel
theorem d_Route_findClasses_43 : decode c_Route_findClasses 43 = .ok (.ifCond .eq 52, 3) := by decide +kernel
theorem d_Route_findClasses_46 : decode c_Route_findClasses 46 = .ok (.aload_n 0, 1) := by decide +kernel
theorem d_Route_findClasses_47 : decode c_Route_findClasses 47 = .ok (.getfield 12, 3) := by decide +kernel
theorem d_Route_findClasses_50 : decode c_Route_findClasses 50 = .ok (.aload 5, 2) := by decide +kernel
theorem d_Route_findClasses_52 : decode c_Route_findClasses 52 = .ok (.aload_n 2, 1) := by decide +kernel
theorem d_Route_findClasses_53 : decode c_Route_findClasses 53 = .ok (.getfield 43, 3) := by decide +kernel
theorem d_Route_findClasses_56 : decode c_Route_findClasses 56 = .ok (.aload_n 0, 1) := by decide +kernel
theorem d_Route_findClasses_57 : decode c_Route_findClasses 57 = .ok (.getfield 18, 3) := by decide +kernel
theorem d_Route_findClasses_60 : decode c_Route_findClasses 60 = .ok (.invokevirtual 49, 3) := by decide +kernel
theorem d_Route_findClasses_63 : decode c_Route_findClasses 63 = .ok (.ifCond .eq 32, 3) := by decide +kernel
theorem d_Route_findClasses_66 : decode c_Route_findClasses 66 = .ok (.aload_n 2, 1) := by decide +kernel
theorem d_Route_findClasses_67 : decode c_Route_findClasses 67 = .ok (.getfield 43, 3) := by decide +kernel
theorem d_Route_findClasses_70 : decode c_Route_findClasses 70 = .ok (.aload_n 0, 1) := by decide +kernel
theorem d_Route_findClasses_71 : decode c_Route_findClasses 71 = .ok (.getfield 12, 3) := by decide +kernel
theorem d_Route_findClasses_74 : decode c_Route_findClasses 74 = .ok (.getfield 53, 3) := by decide +kernel
theorem d_Route_findClasses_77 : decode c_Route_findClasses 77 = .ok (.invokevirtual 56, 3) := by decide +kernel
theorem d_Route_findClasses_80 : decode c_Route_findClasses 80 = .ok (.ifCond .ne 12, 3) := by decide +kernel
theorem d_Route_findClasses_83 : decode c_Route_findClasses 83 = .ok (.aload_n 1, 1) := by decide +kernel
theorem d_Route_findClasses_84 : decode c_Route_findClasses 84 = .ok (.iload 4, 2) := by decide +kernel
theorem d_Route_findClasses_86 : decode c_Route_findClasses 86 = .ok (.invokevirtual 62, 3) := by decide +kernel
theorem d_Route_findClasses_89 : decode c_Route_findClasses 89 = .ok (.ifCond .eq 6, 3) := by decide +kernel
theorem d_Route_findClasses_92 : decode c_Route_findClasses 92 = .ok (.aload 5, 2) := by decide +kernel
theorem d_Route_findClasses_94 : decode c_Route_findClasses 94 = .ok (.astore_n 3, 1) := by decide +kernel
theorem d_Route_findClasses_95 : decode c_Route_findClasses 95 = .ok (.iinc 4 1, 3) := by decide +kernel
theorem d_Route_findClasses_98 : decode c_Route_findClasses 98 = .ok (.goto (-88), 3) := by decide +kernel
theorem d_Route_findClasses_101 : decode c_Route_findClasses 101 = .ok (.aload_n 3, 1) := by decide +kernel
theorem d_Route_findClasses_102 : decode c_Route_findClasses 102 = .ok (.ifnonnull 5, 3) := by decide +kernel
theorem d_Route_findClasses_105 : decode c_Route_findClasses 105 = .ok (.iconst 0, 1) := by decide +kernel
theorem d_Route_findClasses_106 : decode c_Route_findClasses 106 = .ok (.ireturn, 1) := by decide +kernel
theorem d_Route_findClasses_107 : decode c_Route_findClasses 107 = .ok (.aload_n 0, 1) := by decide +kernel
theorem d_Route_findClasses_108 : decode c_Route_findClasses 108 = .ok (.aload_n 3, 1) := by decide +kernel
theorem d_Route_findClasses_109 : decode c_Route_findClasses 109 = .ok (.aload_n 2, 1) := by decide +kernel
theorem d_Route_findClasses_110 : decode c_Route_findClasses 110 = .ok (.invokevirtual 65, 3) := by decide +kernel
theorem d_Route_findClasses_113 : decode c_Route_findClasses 113 = .ok (.aload_n 0, 1) := by decide +kernel
theorem d_Route_findClasses_114 : decode c_Route_findClasses 114 = .ok (.aload_n 1, 1) := by decide +kernel
theorem d_Route_findClasses_115 : decode c_Route_findClasses 115 = .ok (.aload_n 3, 1) := by decide +kernel
theorem d_Route_findClasses_116 : decode c_Route_findClasses 116 = .ok (.invokevirtual 69, 3) := by decide +kernel
theorem d_Route_findClasses_119 : decode c_Route_findClasses 119 = .ok (.putfield 22, 3) := by decide +kernel
theorem d_Route_findClasses_122 : decode c_Route_findClasses 122 = .ok (.iconst 1, 1) := by decide +kernel
theorem d_Route_findClasses_123 : decode c_Route_findClasses 123 = .ok (.ireturn, 1) := by decide +kernel
set_option maxHeartbeats 4000000 in
set_option maxRecDepth 100000 in
theorem sn_Route_findClasses_95 {l : Launch} {Γ : gk_G} {p : Program} {e : Env} {s : State} {m : MethodId} {args : Array Value} {below : List Frame} {meth : Method} {c : Code} (B : gk_B p s m args meth c gk_Y Γ c_Route_findClasses 6 "StageDispatcher$Route") (hr : meth.sig.returnType = (some .boolean)) {ρ : Int32 × gk_M} {k10 : Option Nat → Option Nat → Option Nat → Option Nat → Int32 → gk_M → Option (Int32 × gk_M)} (H10 : ∀ (a0 : Option Nat) (a1 : Option Nat) (a2 : Option Nat) (a3 : Option Nat) (x4 : Int32) (M : gk_M), k10 a0 a1 a2 a3 x4 M = some ρ → Gk p l e rm_Route_findClasses s m args below meth c gk_Y Γ 6 (MQ below (gk_Q gk_Y Γ (some (.int ρ.1)) ρ.2) args s rm_Route_findClasses.cells rm_Route_findClasses.slots (fun q => Γ.2.2 ≤ q)) 0 0 M 10 [some (va_rf a0), some (va_rf a1), some (va_rf a2), some (va_rf a3), some (.int x4), none] []) {a0 : Option Nat} {a1 : Option Nat} {a2 : Option Nat} {a3 : Option Nat} {x4 : Int32} {M : gk_M} (h : fn_Route_findClasses_95 k10 a0 a1 a2 a3 x4 M = some ρ) : Gk p l e rm_Route_findClasses s m args below meth c gk_Y Γ 6 (MQ below (gk_Q gk_Y Γ (some (.int ρ.1)) ρ.2) args s rm_Route_findClasses.cells rm_Route_findClasses.slots (fun q => Γ.2.2 ≤ q)) 0 0 M 95 [some (va_rf a0), some (va_rf a1), some (va_rf a2), some (va_rf a3), some (.int x4), none] [] := by
  unfold fn_Route_findClasses_95 at h
  refine Gk_iinc (x := x4) (v := (x4 + 1)) (L' := [some (va_rf a0), some (va_rf a1), some (va_rf a2), some (va_rf a3), some (.int (x4 + 1)), none]) B d_Route_findClasses_95 rfl (congrArg (fun z => x4 + z) (by decide : Int32.ofInt 1 = 1)) (by decide) (gk_c1_r rfl) rfl ?_
  refine Gk_goto (tgt := 10) B d_Route_findClasses_98 rfl ?_
  exact H10 a0 a1 a2 a3 (x4 + 1) M h
set_option maxHeartbeats 4000000 in
set_option maxRecDepth 100000 in
theorem sn_Route_findClasses_92 {l : Launch} {Γ : gk_G} {p : Program} {e : Env} {s : State} {m : MethodId} {args : Array Value} {below : List Frame} {meth : Method} {c : Code} (B : gk_B p s m args meth c gk_Y Γ c_Route_findClasses 6 "StageDispatcher$Route") (hr : meth.sig.returnType = (some .boolean)) {ρ : Int32 × gk_M} {k10 : Option Nat → Option Nat → Option Nat → Option Nat → Int32 → gk_M → Option (Int32 × gk_M)} (H10 : ∀ (a0 : Option Nat) (a1 : Option Nat) (a2 : Option Nat) (a3 : Option Nat) (x4 : Int32) (M : gk_M), k10 a0 a1 a2 a3 x4 M = some ρ → Gk p l e rm_Route_findClasses s m args below meth c gk_Y Γ 6 (MQ below (gk_Q gk_Y Γ (some (.int ρ.1)) ρ.2) args s rm_Route_findClasses.cells rm_Route_findClasses.slots (fun q => Γ.2.2 ≤ q)) 0 0 M 10 [some (va_rf a0), some (va_rf a1), some (va_rf a2), some (va_rf a3), some (.int x4), none] []) {a0 : Option Nat} {a1 : Option Nat} {a2 : Option Nat} {x4 : Int32} {a5 : Option Nat} {M : gk_M} (h : fn_Route_findClasses_92 k10 a0 a1 a2 x4 a5 M = some ρ) : Gk p l e rm_Route_findClasses s m args below meth c gk_Y Γ 6 (MQ below (gk_Q gk_Y Γ (some (.int ρ.1)) ρ.2) args s rm_Route_findClasses.cells rm_Route_findClasses.slots (fun q => Γ.2.2 ≤ q)) 0 0 M 92 [some (va_rf a0), some (va_rf a1), some (va_rf a2), none, some (.int x4), some (va_rf a5)] [] := by
  unfold fn_Route_findClasses_92 at h
  refine Gk_aload (r := a5) B d_Route_findClasses_92 rfl ?_
  refine Gk_astore_n (i := 3) (L' := [some (va_rf a0), some (va_rf a1), some (va_rf a2), some (va_rf a5), some (.int x4), some (va_rf a5)]) B d_Route_findClasses_94 rfl (by decide) (gk_c1_r rfl) rfl ?_
  refine Gk_weak [true, true, true, true, true, false] (L' := [some (va_rf a0), some (va_rf a1), some (va_rf a2), some (va_rf a5), some (.int x4), none]) rfl ?_
  exact sn_Route_findClasses_95 B hr H10 h
set_option maxHeartbeats 4000000 in
set_option maxRecDepth 100000 in
theorem sn_Route_findClasses_46 {l : Launch} {Γ : gk_G} {p : Program} {e : Env} {s : State} {m : MethodId} {args : Array Value} {below : List Frame} {meth : Method} {c : Code} (B : gk_B p s m args meth c gk_Y Γ c_Route_findClasses 6 "StageDispatcher$Route") (hr : meth.sig.returnType = (some .boolean)) {ρ : Int32 × gk_M} {k10 : Option Nat → Option Nat → Option Nat → Option Nat → Int32 → gk_M → Option (Int32 × gk_M)} (H10 : ∀ (a0 : Option Nat) (a1 : Option Nat) (a2 : Option Nat) (a3 : Option Nat) (x4 : Int32) (M : gk_M), k10 a0 a1 a2 a3 x4 M = some ρ → Gk p l e rm_Route_findClasses s m args below meth c gk_Y Γ 6 (MQ below (gk_Q gk_Y Γ (some (.int ρ.1)) ρ.2) args s rm_Route_findClasses.cells rm_Route_findClasses.slots (fun q => Γ.2.2 ≤ q)) 0 0 M 10 [some (va_rf a0), some (va_rf a1), some (va_rf a2), some (va_rf a3), some (.int x4), none] []) {a0 : Option Nat} {a1 : Option Nat} {a2 : Option Nat} {a3 : Option Nat} {x4 : Int32} {a5 : Option Nat} {M : gk_M} (h : fn_Route_findClasses_46 k10 a0 a1 a2 a3 x4 a5 M = some ρ) : Gk p l e rm_Route_findClasses s m args below meth c gk_Y Γ 6 (MQ below (gk_Q gk_Y Γ (some (.int ρ.1)) ρ.2) args s rm_Route_findClasses.cells rm_Route_findClasses.slots (fun q => Γ.2.2 ≤ q)) 0 0 M 46 [some (va_rf a0), some (va_rf a1), some (va_rf a2), some (va_rf a3), some (.int x4), some (va_rf a5)] [] := by
  unfold fn_Route_findClasses_46 at h
  refine Gk_aload_n (i := 0) (r := a0) B d_Route_findClasses_46 rfl rfl ?_
  obtain ⟨v47, h47, h⟩ := gk_bind h
  refine Gk_getR (j := 0) B d_Route_findClasses_47 in_Route cl_Route (by decide) tw_202 rfl h47 ?_
  refine Gk_aload (r := a5) B d_Route_findClasses_50 rfl ?_
  refine Gk_aload_n (i := 2) (r := a2) B d_Route_findClasses_52 rfl rfl ?_
  obtain ⟨v53, h53, h⟩ := gk_bind h
  refine Gk_getR (j := 0) B d_Route_findClasses_53 in_Outcome cl_Outcome (by decide) tw_225 rfl h53 ?_
  refine Gk_aload_n (i := 0) (r := a0) B d_Route_findClasses_56 rfl rfl ?_
  obtain ⟨v57, h57, h⟩ := gk_bind h
  refine Gk_getI (j := 1) B d_Route_findClasses_57 in_Route cl_Route (by decide) tw_203 rfl h57 ?_
  obtain ⟨o60, g60, h⟩ := gk_bind h
  obtain ⟨w60, h60, h⟩ := gk_bind h
  refine Gk_callV (As := [va_rf a5, va_rf v53, .int v57]) (rest := []) (st1 := [.int w60.1]) (k1 := 0) (n1 := 0) B gk_hG d_Route_findClasses_60 (sn_Fit_find h60) g60 cl_Fit tw_575 tw_572 tw_573 tw_574 tw_46 nm_Fit_find rfl (by decide) ⟨by decide, by decide⟩ ⟨by decide, by decide⟩ rfl rfl rfl rfl ?_
  refine Gk_if_eq (tgt := 95) B d_Route_findClasses_63 rfl (fun c63 => ?_) (fun c63 => ?_)
  · rw [if_pos c63] at h
    refine Gk_weak [true, true, true, true, true, false] (L' := [some (va_rf a0), some (va_rf a1), some (va_rf a2), some (va_rf a3), some (.int x4), none]) rfl ?_
    exact sn_Route_findClasses_95 B hr H10 h
  rw [if_neg c63] at h
  refine Gk_aload_n (i := 2) (r := a2) B d_Route_findClasses_66 rfl rfl ?_
  obtain ⟨v67, h67, h⟩ := gk_bind h
  refine Gk_getR (j := 0) B d_Route_findClasses_67 in_Outcome cl_Outcome (by decide) tw_225 rfl h67 ?_
  refine Gk_aload_n (i := 0) (r := a0) B d_Route_findClasses_70 rfl rfl ?_
  obtain ⟨v71, h71, h⟩ := gk_bind h
  refine Gk_getR (j := 0) B d_Route_findClasses_71 in_Route cl_Route (by decide) tw_202 rfl h71 ?_
  obtain ⟨v74, h74, h⟩ := gk_bind h
  refine Gk_getI (j := 4) B d_Route_findClasses_74 in_Fit cl_Fit (by decide) tw_190 rfl h74 ?_
  obtain ⟨o77, g77, h⟩ := gk_bind h
  obtain ⟨w77, h77, h⟩ := gk_bind h
  refine Gk_callV (As := [.int v74]) (rest := []) (st1 := [.int w77.1]) (k1 := 0) (n1 := 0) B gk_hG d_Route_findClasses_77 (sn_Text_endsAt h77) g77 cl_Text tw_597 tw_594 tw_595 tw_596 tw_41 nm_Text_endsAt rfl (by decide) ⟨by decide, by decide⟩ ⟨by decide, by decide⟩ rfl rfl rfl rfl ?_
  refine Gk_if_ne (tgt := 92) B d_Route_findClasses_80 rfl (fun c80 => ?_) (fun c80 => ?_)
  · rw [if_neg c80] at h
    refine Gk_weak [true, true, true, false, true, true] (L' := [some (va_rf a0), some (va_rf a1), some (va_rf a2), none, some (.int x4), some (va_rf a5)]) rfl ?_
    exact sn_Route_findClasses_92 B hr H10 h
  rw [if_pos c80] at h
  refine Gk_aload_n (i := 1) (r := a1) B d_Route_findClasses_83 rfl rfl ?_
  refine Gk_iload (x := x4) B d_Route_findClasses_84 rfl ?_
  obtain ⟨o86, g86, h⟩ := gk_bind h
  obtain ⟨w86, h86, h⟩ := gk_bind h
  refine Gk_callV (As := [.int x4]) (rest := []) (st1 := [.int w86.1]) (k1 := 0) (n1 := 0) B gk_hG d_Route_findClasses_86 (sn_Catalog_leadsDeeper h86) g86 cl_Catalog tw_601 tw_598 tw_599 tw_600 tw_42 nm_Catalog_leadsDeeper rfl (by decide) ⟨by decide, by decide⟩ ⟨by decide, by decide⟩ rfl rfl rfl rfl ?_
  refine Gk_if_eq (tgt := 95) B d_Route_findClasses_89 rfl (fun c89 => ?_) (fun c89 => ?_)
  · rw [if_pos c89] at h
    refine Gk_weak [true, true, true, true, true, false] (L' := [some (va_rf a0), some (va_rf a1), some (va_rf a2), some (va_rf a3), some (.int x4), none]) rfl ?_
    exact sn_Route_findClasses_95 B hr H10 h
  rw [if_neg c89] at h
  refine Gk_weak [true, true, true, false, true, true] (L' := [some (va_rf a0), some (va_rf a1), some (va_rf a2), none, some (.int x4), some (va_rf a5)]) rfl ?_
  exact sn_Route_findClasses_92 B hr H10 h
set_option maxHeartbeats 4000000 in
set_option maxRecDepth 100000 in
theorem sn_Route_findClasses_10_bd {l : Launch} {Γ : gk_G} {p : Program} {e : Env} {s : State} {m : MethodId} {args : Array Value} {below : List Frame} {meth : Method} {c : Code} (B : gk_B p s m args meth c gk_Y Γ c_Route_findClasses 6 "StageDispatcher$Route") (hr : meth.sig.returnType = (some .boolean)) {ρ : Int32 × gk_M} {k10 : Option Nat → Option Nat → Option Nat → Option Nat → Int32 → gk_M → Option (Int32 × gk_M)} (H10 : ∀ (a0 : Option Nat) (a1 : Option Nat) (a2 : Option Nat) (a3 : Option Nat) (x4 : Int32) (M : gk_M), k10 a0 a1 a2 a3 x4 M = some ρ → Gk p l e rm_Route_findClasses s m args below meth c gk_Y Γ 6 (MQ below (gk_Q gk_Y Γ (some (.int ρ.1)) ρ.2) args s rm_Route_findClasses.cells rm_Route_findClasses.slots (fun q => Γ.2.2 ≤ q)) 0 0 M 10 [some (va_rf a0), some (va_rf a1), some (va_rf a2), some (va_rf a3), some (.int x4), none] []) {a0 : Option Nat} {a1 : Option Nat} {a2 : Option Nat} {a3 : Option Nat} {x4 : Int32} {M : gk_M} (h : fn_Route_findClasses_10_bd k10 a0 a1 a2 a3 x4 M = some ρ) : Gk p l e rm_Route_findClasses s m args below meth c gk_Y Γ 6 (MQ below (gk_Q gk_Y Γ (some (.int ρ.1)) ρ.2) args s rm_Route_findClasses.cells rm_Route_findClasses.slots (fun q => Γ.2.2 ≤ q)) 0 0 M 10 [some (va_rf a0), some (va_rf a1), some (va_rf a2), some (va_rf a3), some (.int x4), none] [] := by
  unfold fn_Route_findClasses_10_bd at h
  refine Gk_iload (x := x4) B d_Route_findClasses_10 rfl ?_
  refine Gk_aload_n (i := 1) (r := a1) B d_Route_findClasses_12 rfl rfl ?_
  obtain ⟨v13, h13, h⟩ := gk_bind h
  refine Gk_getI (j := 3) B d_Route_findClasses_13 in_Catalog cl_Catalog (by decide) tw_105 rfl h13 ?_
  refine Gk_icmp_ge (tgt := 101) B d_Route_findClasses_16 rfl (fun c16 => ?_) (fun c16 => ?_)
  · rw [if_pos c16] at h
    refine Gk_aload_n (i := 3) (r := a3) B d_Route_findClasses_101 rfl rfl ?_
    refine Gk_ifnonnull (tgt := 107) B d_Route_findClasses_102 rfl (fun c102 => ?_) (fun c102 => ?_)
    · rw [if_neg c102] at h
      refine Gk_aload_n (i := 0) (r := a0) B d_Route_findClasses_107 rfl rfl ?_
      refine Gk_aload_n (i := 3) (r := a3) B d_Route_findClasses_108 rfl rfl ?_
      refine Gk_aload_n (i := 2) (r := a2) B d_Route_findClasses_109 rfl rfl ?_
      obtain ⟨o110, g110, h⟩ := gk_bind h
      obtain ⟨w110, h110, h⟩ := gk_bind h
      refine Gk_callV (As := [va_rf a3, va_rf a2]) (rest := []) (st1 := []) (k1 := 0) (n1 := 0) B gk_hG d_Route_findClasses_110 (sn_Route_follow h110) g110 cl_Route tw_605 tw_602 tw_604 tw_4 tw_45 nm_Route_follow rfl (by decide) ⟨by decide, by decide⟩ ⟨by decide, by decide⟩ rfl rfl rfl rfl ?_
      refine Gk_aload_n (i := 0) (r := a0) B d_Route_findClasses_113 rfl rfl ?_
      refine Gk_aload_n (i := 1) (r := a1) B d_Route_findClasses_114 rfl rfl ?_
      refine Gk_aload_n (i := 3) (r := a3) B d_Route_findClasses_115 rfl rfl ?_
      obtain ⟨o116, g116, h⟩ := gk_bind h
      obtain ⟨w116, h116, h⟩ := gk_bind h
      refine Gk_callV (As := [va_rf a3]) (rest := [va_rf a0]) (st1 := [.int w116.1, va_rf a0]) (k1 := 0) (n1 := 0) B gk_hG d_Route_findClasses_116 (sn_Catalog_rootsWith h116) g116 cl_Catalog tw_613 tw_610 tw_611 tw_612 tw_42 nm_Catalog_rootsWith rfl (by simp [gk_rc, gk_ic, gk_jc, rm_Route_findClasses]) ⟨by decide, by decide⟩ ⟨by decide, by decide⟩ rfl rfl rfl rfl ?_
      obtain ⟨M119, h119, h⟩ := gk_bind h
      refine Gk_put (j := 2) (ty := .int) B d_Route_findClasses_119 in_Route t_Route t_Route_ok n_Route cl_Route (by decide) tw_204 rfl rfl rfl rfl rfl h119 ?_
      refine Gk_iconst (v := 1) B d_Route_findClasses_122 (by decide) ?_
      obtain ⟨z, hz, h⟩ := gk_bind h
      obtain ⟨hz1, hz2⟩ := gk_z_eq hz
      cases h
      subst hz1
      exact Gk_iret B hr d_Route_findClasses_123 (gk_nz hz2) (by decide) (by decide) rfl
    rw [if_pos c102] at h
    refine Gk_iconst (v := 0) B d_Route_findClasses_105 (by decide) ?_
    obtain ⟨z, hz, h⟩ := gk_bind h
    obtain ⟨hz1, hz2⟩ := gk_z_eq hz
    cases h
    subst hz1
    exact Gk_iret B hr d_Route_findClasses_106 (gk_nz hz2) (by decide) (by decide) rfl
  rw [if_neg c16] at h
  refine Gk_aload_n (i := 1) (r := a1) B d_Route_findClasses_19 rfl rfl ?_
  obtain ⟨v20, h20, h⟩ := gk_bind h
  refine Gk_getR (j := 0) B d_Route_findClasses_20 in_Catalog cl_Catalog (by decide) tw_98 rfl h20 ?_
  refine Gk_iload (x := x4) B d_Route_findClasses_23 rfl ?_
  obtain ⟨v25, h25, h⟩ := gk_bind h
  refine Gk_aaload B d_Route_findClasses_25 ty_3 h25 ?_
  refine Gk_astore (L' := [some (va_rf a0), some (va_rf a1), some (va_rf a2), some (va_rf a3), some (.int x4), some (va_rf v25)]) B d_Route_findClasses_26 (by decide) (gk_c1_i rfl) rfl ?_
  refine Gk_aload (r := v25) B d_Route_findClasses_28 rfl ?_
  refine Gk_ifnull (tgt := 95) B d_Route_findClasses_30 rfl (fun c30 => ?_) (fun c30 => ?_)
  · rw [if_pos c30] at h
    refine Gk_weak [true, true, true, true, true, false] (L' := [some (va_rf a0), some (va_rf a1), some (va_rf a2), some (va_rf a3), some (.int x4), none]) rfl ?_
    exact sn_Route_findClasses_95 B hr H10 h
  rw [if_neg c30] at h
  refine Gk_aload_n (i := 3) (r := a3) B d_Route_findClasses_33 rfl rfl ?_
  refine Gk_ifnull (tgt := 46) B d_Route_findClasses_34 rfl (fun c34 => ?_) (fun c34 => ?_)
  · rw [if_pos c34] at h
    exact sn_Route_findClasses_46 B hr H10 h
  rw [if_neg c34] at h
  refine Gk_aload (r := v25) B d_Route_findClasses_37 rfl ?_
  refine Gk_aload_n (i := 3) (r := a3) B d_Route_findClasses_39 rfl rfl ?_
  obtain ⟨o40, g40, h⟩ := gk_bind h
  obtain ⟨w40, h40, h⟩ := gk_bind h
  refine Gk_callV (As := [va_rf a3]) (rest := []) (st1 := [.int w40.1]) (k1 := 0) (n1 := 0) B gk_hG d_Route_findClasses_40 (sn_Template_isHeavierThan h40) g40 cl_Template tw_571 tw_568 tw_569 tw_570 tw_49 nm_Template_isHeavierThan rfl (by decide) ⟨by decide, by decide⟩ ⟨by decide, by decide⟩ rfl rfl rfl rfl ?_
  refine Gk_if_eq (tgt := 95) B d_Route_findClasses_43 rfl (fun c43 => ?_) (fun c43 => ?_)
  · rw [if_pos c43] at h
    refine Gk_weak [true, true, true, true, true, false] (L' := [some (va_rf a0), some (va_rf a1), some (va_rf a2), some (va_rf a3), some (.int x4), none]) rfl ?_
    exact sn_Route_findClasses_95 B hr H10 h
  rw [if_neg c43] at h
  exact sn_Route_findClasses_46 B hr H10 h
set_option maxHeartbeats 4000000 in
set_option maxRecDepth 100000 in
theorem sn_Route_findClasses_10 {l : Launch} {Γ : gk_G} {p : Program} {e : Env} {s : State} {m : MethodId} {args : Array Value} {below : List Frame} {meth : Method} {c : Code} (B : gk_B p s m args meth c gk_Y Γ c_Route_findClasses 6 "StageDispatcher$Route") (hr : meth.sig.returnType = (some .boolean)) {ρ : Int32 × gk_M}   {a0 : Option Nat} {a1 : Option Nat} {a2 : Option Nat} {a3 : Option Nat} {x4 : Int32} {M : gk_M} (h : fn_Route_findClasses_10  a0 a1 a2 a3 x4 M = some ρ) : Gk p l e rm_Route_findClasses s m args below meth c gk_Y Γ 6 (MQ below (gk_Q gk_Y Γ (some (.int ρ.1)) ρ.2) args s rm_Route_findClasses.cells rm_Route_findClasses.slots (fun q => Γ.2.2 ≤ q)) 0 0 M 10 [some (va_rf a0), some (va_rf a1), some (va_rf a2), some (va_rf a3), some (.int x4), none] [] := by
  unfold fn_Route_findClasses_10 at h
  exact gk_loop_sound (α := Option Nat × Option Nat × Option Nat × Option Nat × Int32 × gk_M) (P := fun a => Gk p l e rm_Route_findClasses s m args below meth c gk_Y Γ 6 (MQ below (gk_Q gk_Y Γ (some (.int ρ.1)) ρ.2) args s rm_Route_findClasses.cells rm_Route_findClasses.slots (fun q => Γ.2.2 ≤ q)) 0 0 a.2.2.2.2.2 10 [some (va_rf a.1), some (va_rf a.2.1), some (va_rf a.2.2.1), some (va_rf a.2.2.2.1), some (.int a.2.2.2.2.1), none] []) (fun kk a Hk hb => sn_Route_findClasses_10_bd B hr (fun a0 a1 a2 a3 x4 M hh => Hk (a0, a1, a2, a3, x4, M) hh) hb) _ _ h
set_option maxHeartbeats 4000000 in
set_option maxRecDepth 100000 in
theorem sn_Route_findClasses_0 {l : Launch} {Γ : gk_G} {p : Program} {e : Env} {s : State} {m : MethodId} {args : Array Value} {below : List Frame} {meth : Method} {c : Code} (B : gk_B p s m args meth c gk_Y Γ c_Route_findClasses 6 "StageDispatcher$Route") (hr : meth.sig.returnType = (some .boolean)) {ρ : Int32 × gk_M}   {a0 : Option Nat} {a1 : Option Nat} {a2 : Option Nat} {M : gk_M} (h : fn_Route_findClasses  a0 a1 a2 M = some ρ) : Gk p l e rm_Route_findClasses s m args below meth c gk_Y Γ 6 (MQ below (gk_Q gk_Y Γ (some (.int ρ.1)) ρ.2) args s rm_Route_findClasses.cells rm_Route_findClasses.slots (fun q => Γ.2.2 ≤ q)) 0 0 M 0 [some (va_rf a0), some (va_rf a1), some (va_rf a2), none, none, none] [] := by
  unfold fn_Route_findClasses at h
  refine Gk_aload_n (i := 0) (r := a0) B d_Route_findClasses_0 rfl rfl ?_
  refine Gk_iconst (v := 0) B d_Route_findClasses_1 (by decide) ?_
  obtain ⟨M2, h2, h⟩ := gk_bind h
  refine Gk_put (j := 1) (ty := .int) B d_Route_findClasses_2 in_Route t_Route t_Route_ok n_Route cl_Route (by decide) tw_203 rfl rfl rfl rfl rfl h2 ?_
  refine Gk_null B d_Route_findClasses_5 ?_
  refine Gk_astore_n (i := 3) (L' := [some (va_rf a0), some (va_rf a1), some (va_rf a2), some (va_rf none), none, none]) B d_Route_findClasses_6 rfl (by decide) (gk_c1_r rfl) rfl ?_
  refine Gk_iconst (v := 0) B d_Route_findClasses_7 (by decide) ?_
  refine Gk_istore (L' := [some (va_rf a0), some (va_rf a1), some (va_rf a2), some (va_rf none), some (.int 0), none]) B d_Route_findClasses_8 (by decide) (gk_c1_r rfl) rfl ?_
  exact sn_Route_findClasses_10 B hr h
theorem sn_Route_findClasses {l : Launch} {Γ : gk_G} {a0 : Option Nat} {a1 : Option Nat} {a2 : Option Nat} {M : gk_M} {ρ : Int32 × gk_M} (h : fn_Route_findClasses a0 a1 a2 M = some ρ) : gk_Met l gk_Y Γ y_Route_findClasses (.code y_Route_findClasses c_Route_findClasses 6 (some .boolean) :: gk_Y.2.2.2) rm_Route_findClasses [va_rf a0, va_rf a1, va_rf a2] M (some (.int ρ.1)) ρ.2 :=
  gk_start (by decide) (by simp [lg_sl, gk_rc, gk_ic, gk_jc]) [some (va_rf a0), some (va_rf a1), some (va_rf a2), none, none, none] (by simp [gk_as, lv_args, gk_rc, gk_ic, gk_jc]) (fun p e s m args below meth c B hr hin => sn_Route_findClasses_0 B hr h)
theorem d_Catalog_bareMethods_0 : decode c_Catalog_bareMethods 0 = .ok (.iconst 0, 1) := by decide +kernel
theorem d_Catalog_bareMethods_1 : decode c_Catalog_bareMethods 1 = .ok (.istore_n 2, 1) := by decide +kernel
theorem d_Catalog_bareMethods_2 : decode c_Catalog_bareMethods 2 = .ok (.iconst 0, 1) := by decide +kernel
theorem d_Catalog_bareMethods_3 : decode c_Catalog_bareMethods 3 = .ok (.istore_n 3, 1) := by decide +kernel
theorem d_Catalog_bareMethods_4 : decode c_Catalog_bareMethods 4 = .ok (.iload_n 3, 1) := by decide +kernel
theorem d_Catalog_bareMethods_5 : decode c_Catalog_bareMethods 5 = .ok (.aload_n 0, 1) := by decide +kernel
theorem d_Catalog_bareMethods_6 : decode c_Catalog_bareMethods 6 = .ok (.getfield 33, 3) := by decide +kernel
theorem d_Catalog_bareMethods_9 : decode c_Catalog_bareMethods 9 = .ok (.if_icmp .ge 43, 3) := by decide +kernel
theorem d_Catalog_bareMethods_12 : decode c_Catalog_bareMethods 12 = .ok (.iload_n 1, 1) := by decide +kernel
theorem d_Catalog_bareMethods_13 : decode c_Catalog_bareMethods 13 = .ok (.aload_n 0, 1) := by decide +kernel
theorem d_Catalog_bareMethods_14 : decode c_Catalog_bareMethods 14 = .ok (.getfield 19, 3) := by decide +kernel
theorem d_Catalog_bareMethods_17 : decode c_Catalog_bareMethods 17 = .ok (.iload_n 3, 1) := by decide +kernel
theorem d_Catalog_bareMethods_18 : decode c_Catalog_bareMethods 18 = .ok (.aaload, 1) := by decide +kernel
theorem d_Catalog_bareMethods_19 : decode c_Catalog_bareMethods 19 = .ok (.getfield 43, 3) := by decide +kernel
theorem d_Catalog_bareMethods_22 : decode c_Catalog_bareMethods 22 = .ok (.invokestatic 55, 3) := by decide +kernel
theorem d_Catalog_bareMethods_25 : decode c_Catalog_bareMethods 25 = .ok (.ifCond .eq 21, 3) := by decide +kernel
theorem d_Catalog_bareMethods_28 : decode c_Catalog_bareMethods 28 = .ok (.aload_n 0, 1) := by decide +kernel
theorem d_Catalog_bareMethods_29 : decode c_Catalog_bareMethods 29 = .ok (.getfield 19, 3) := by decide +kernel
theorem d_Catalog_bareMethods_32 : decode c_Catalog_bareMethods 32 = .ok (.iload_n 3, 1) := by decide +kernel
theorem d_Catalog_bareMethods_33 : decode c_Catalog_bareMethods 33 = .ok (.aaload, 1) := by decide +kernel
theorem d_Catalog_bareMethods_34 : decode c_Catalog_bareMethods 34 = .ok (.getfield 46, 3) := by decide +kernel
theorem d_Catalog_bareMethods_37 : decode c_Catalog_bareMethods 37 = .ok (.ifnonnull 9, 3) := by decide +kernel
theorem d_Catalog_bareMethods_40 : decode c_Catalog_bareMethods 40 = .ok (.iload_n 2, 1) := by decide +kernel
theorem d_Catalog_bareMethods_41 : decode c_Catalog_bareMethods 41 = .ok (.iconst 1, 1) := by decide +kernel
theorem d_Catalog_bareMethods_42 : decode c_Catalog_bareMethods 42 = .ok (.iload_n 3, 1) := by decide +kernel
theorem d_Catalog_bareMethods_43 : decode c_Catalog_bareMethods 43 = .ok (.ishl, 1) := by decide +kernel
theorem d_Catalog_bareMethods_44 : decode c_Catalog_bareMethods 44 = .ok (.ior, 1) := by decide +kernel
theorem d_Catalog_bareMethods_45 : decode c_Catalog_bareMethods 45 = .ok (.istore_n 2, 1) := by decide +kernel
theorem d_Catalog_bareMethods_46 : decode c_Catalog_bareMethods 46 = .ok (.iinc 3 1, 3) := by decide +kernel
theorem d_Catalog_bareMethods_49 : decode c_Catalog_bareMethods 49 = .ok (.goto (-45), 3) := by decide +kernel
theorem d_Catalog_bareMethods_52 : decode c_Catalog_bareMethods 52 = .ok (.iload_n 2, 1) := by decide +kernel
theorem d_Catalog_bareMethods_53 : decode c_Catalog_bareMethods 53 = .ok (.ireturn, 1) := by decide +kernel
set_option maxHeartbeats 4000000 in
set_option maxRecDepth 100000 in
theorem sn_Catalog_bareMethods_46 {l : Launch} {Γ : gk_G} {p : Program} {e : Env} {s : State} {m : MethodId} {args : Array Value} {below : List Frame} {meth : Method} {c : Code} (B : gk_B p s m args meth c gk_Y Γ c_Catalog_bareMethods 4 "StageDispatcher$Catalog") (hr : meth.sig.returnType = (some .int)) {ρ : Int32 × gk_M} {k4 : Option Nat → Int32 → Int32 → Int32 → gk_M → Option (Int32 × gk_M)} (H4 : ∀ (a0 : Option Nat) (x1 : Int32) (x2 : Int32) (x3 : Int32) (M : gk_M), k4 a0 x1 x2 x3 M = some ρ → Gk p l e rm_Catalog_bareMethods s m args below meth c gk_Y Γ 4 (MQ below (gk_Q gk_Y Γ (some (.int ρ.1)) ρ.2) args s rm_Catalog_bareMethods.cells rm_Catalog_bareMethods.slots (fun q => Γ.2.2 ≤ q)) 0 0 M 4 [some (va_rf a0), some (.int x1), some (.int x2), some (.int x3)] []) {a0 : Option Nat} {x1 : Int32} {x2 : Int32} {x3 : Int32} {M : gk_M} (h : fn_Catalog_bareMethods_46 k4 a0 x1 x2 x3 M = some ρ) : Gk p l e rm_Catalog_bareMethods s m args below meth c gk_Y Γ 4 (MQ below (gk_Q gk_Y Γ (some (.int ρ.1)) ρ.2) args s rm_Catalog_bareMethods.cells rm_Catalog_bareMethods.slots (fun q => Γ.2.2 ≤ q)) 0 0 M 46 [some (va_rf a0), some (.int x1), some (.int x2), some (.int x3)] [] := by
  unfold fn_Catalog_bareMethods_46 at h
  refine Gk_iinc (x := x3) (v := (x3 + 1)) (L' := [some (va_rf a0), some (.int x1), some (.int x2), some (.int (x3 + 1))]) B d_Catalog_bareMethods_46 rfl (congrArg (fun z => x3 + z) (by decide : Int32.ofInt 1 = 1)) (by decide) (gk_c1_i rfl) rfl ?_
  refine Gk_goto (tgt := 4) B d_Catalog_bareMethods_49 rfl ?_
  exact H4 a0 x1 x2 (x3 + 1) M h
set_option maxHeartbeats 4000000 in
set_option maxRecDepth 100000 in
theorem sn_Catalog_bareMethods_4_bd {l : Launch} {Γ : gk_G} {p : Program} {e : Env} {s : State} {m : MethodId} {args : Array Value} {below : List Frame} {meth : Method} {c : Code} (B : gk_B p s m args meth c gk_Y Γ c_Catalog_bareMethods 4 "StageDispatcher$Catalog") (hr : meth.sig.returnType = (some .int)) {ρ : Int32 × gk_M} {k4 : Option Nat → Int32 → Int32 → Int32 → gk_M → Option (Int32 × gk_M)} (H4 : ∀ (a0 : Option Nat) (x1 : Int32) (x2 : Int32) (x3 : Int32) (M : gk_M), k4 a0 x1 x2 x3 M = some ρ → Gk p l e rm_Catalog_bareMethods s m args below meth c gk_Y Γ 4 (MQ below (gk_Q gk_Y Γ (some (.int ρ.1)) ρ.2) args s rm_Catalog_bareMethods.cells rm_Catalog_bareMethods.slots (fun q => Γ.2.2 ≤ q)) 0 0 M 4 [some (va_rf a0), some (.int x1), some (.int x2), some (.int x3)] []) {a0 : Option Nat} {x1 : Int32} {x2 : Int32} {x3 : Int32} {M : gk_M} (h : fn_Catalog_bareMethods_4_bd k4 a0 x1 x2 x3 M = some ρ) : Gk p l e rm_Catalog_bareMethods s m args below meth c gk_Y Γ 4 (MQ below (gk_Q gk_Y Γ (some (.int ρ.1)) ρ.2) args s rm_Catalog_bareMethods.cells rm_Catalog_bareMethods.slots (fun q => Γ.2.2 ≤ q)) 0 0 M 4 [some (va_rf a0), some (.int x1), some (.int x2), some (.int x3)] [] := by
  unfold fn_Catalog_bareMethods_4_bd at h
  refine Gk_iload_n (i := 3) (x := x3) B d_Catalog_bareMethods_4 rfl rfl ?_
  refine Gk_aload_n (i := 0) (r := a0) B d_Catalog_bareMethods_5 rfl rfl ?_
  obtain ⟨v6, h6, h⟩ := gk_bind h
  refine Gk_getI (j := 4) B d_Catalog_bareMethods_6 in_Catalog cl_Catalog (by decide) tw_107 rfl h6 ?_
  refine Gk_icmp_ge (tgt := 52) B d_Catalog_bareMethods_9 rfl (fun c9 => ?_) (fun c9 => ?_)
  · rw [if_pos c9] at h
    refine Gk_iload_n (i := 2) (x := x2) B d_Catalog_bareMethods_52 rfl rfl ?_
    cases h
    exact Gk_iret B hr d_Catalog_bareMethods_53 rfl (by decide) (by decide) rfl
  rw [if_neg c9] at h
  refine Gk_iload_n (i := 1) (x := x1) B d_Catalog_bareMethods_12 rfl rfl ?_
  refine Gk_aload_n (i := 0) (r := a0) B d_Catalog_bareMethods_13 rfl rfl ?_
  obtain ⟨v14, h14, h⟩ := gk_bind h
  refine Gk_getR (j := 1) B d_Catalog_bareMethods_14 in_Catalog cl_Catalog (by decide) tw_99 rfl h14 ?_
  refine Gk_iload_n (i := 3) (x := x3) B d_Catalog_bareMethods_17 rfl rfl ?_
  obtain ⟨v18, h18, h⟩ := gk_bind h
  refine Gk_aaload B d_Catalog_bareMethods_18 ty_4 h18 ?_
  obtain ⟨v19, h19, h⟩ := gk_bind h
  refine Gk_getI (j := 0) B d_Catalog_bareMethods_19 in_Method cl_Method (by decide) tw_389 rfl h19 ?_
  obtain ⟨w22, h22, h⟩ := gk_bind h
  refine Gk_callSN (As := [.int x1, .int v19]) (rest := []) (st1 := [.int w22.1]) (k1 := 0) (n1 := 0) B gk_hG d_Catalog_bareMethods_22 (sn_SD_holds h22) tw_593 nw_626 tw_592 tw_40 nm_SD_holds rfl (by decide) ⟨by decide, by decide⟩ ⟨by decide, by decide⟩ rfl rfl rfl rfl ?_
  refine Gk_if_eq (tgt := 46) B d_Catalog_bareMethods_25 rfl (fun c25 => ?_) (fun c25 => ?_)
  · rw [if_pos c25] at h
    exact sn_Catalog_bareMethods_46 B hr H4 h
  rw [if_neg c25] at h
  refine Gk_aload_n (i := 0) (r := a0) B d_Catalog_bareMethods_28 rfl rfl ?_
  obtain ⟨v29, h29, h⟩ := gk_bind h
  refine Gk_getR (j := 1) B d_Catalog_bareMethods_29 in_Catalog cl_Catalog (by decide) tw_99 rfl h29 ?_
  refine Gk_iload_n (i := 3) (x := x3) B d_Catalog_bareMethods_32 rfl rfl ?_
  obtain ⟨v33, h33, h⟩ := gk_bind h
  refine Gk_aaload B d_Catalog_bareMethods_33 ty_4 h33 ?_
  obtain ⟨v34, h34, h⟩ := gk_bind h
  refine Gk_getR (j := 1) B d_Catalog_bareMethods_34 in_Method cl_Method (by decide) tw_392 rfl h34 ?_
  refine Gk_ifnonnull (tgt := 46) B d_Catalog_bareMethods_37 rfl (fun c37 => ?_) (fun c37 => ?_)
  · rw [if_neg c37] at h
    exact sn_Catalog_bareMethods_46 B hr H4 h
  rw [if_pos c37] at h
  refine Gk_iload_n (i := 2) (x := x2) B d_Catalog_bareMethods_40 rfl rfl ?_
  refine Gk_iconst (v := 1) B d_Catalog_bareMethods_41 (by decide) ?_
  refine Gk_iload_n (i := 3) (x := x3) B d_Catalog_bareMethods_42 rfl rfl ?_
  refine Gk_ishl B d_Catalog_bareMethods_43 ?_
  refine Gk_ior B d_Catalog_bareMethods_44 ?_
  refine Gk_istore_n (i := 2) (L' := [some (va_rf a0), some (.int x1), some (.int (x2 ||| ((1 : Int32) <<< (x3 &&& 31)))), some (.int x3)]) B d_Catalog_bareMethods_45 rfl (by decide) (gk_c1_i rfl) rfl ?_
  exact sn_Catalog_bareMethods_46 B hr H4 h
set_option maxHeartbeats 4000000 in
set_option maxRecDepth 100000 in
theorem sn_Catalog_bareMethods_4 {l : Launch} {Γ : gk_G} {p : Program} {e : Env} {s : State} {m : MethodId} {args : Array Value} {below : List Frame} {meth : Method} {c : Code} (B : gk_B p s m args meth c gk_Y Γ c_Catalog_bareMethods 4 "StageDispatcher$Catalog") (hr : meth.sig.returnType = (some .int)) {ρ : Int32 × gk_M}   {a0 : Option Nat} {x1 : Int32} {x2 : Int32} {x3 : Int32} {M : gk_M} (h : fn_Catalog_bareMethods_4  a0 x1 x2 x3 M = some ρ) : Gk p l e rm_Catalog_bareMethods s m args below meth c gk_Y Γ 4 (MQ below (gk_Q gk_Y Γ (some (.int ρ.1)) ρ.2) args s rm_Catalog_bareMethods.cells rm_Catalog_bareMethods.slots (fun q => Γ.2.2 ≤ q)) 0 0 M 4 [some (va_rf a0), some (.int x1), some (.int x2), some (.int x3)] [] := by
  unfold fn_Catalog_bareMethods_4 at h
  exact gk_loop_sound (α := Option Nat × Int32 × Int32 × Int32 × gk_M) (P := fun a => Gk p l e rm_Catalog_bareMethods s m args below meth c gk_Y Γ 4 (MQ below (gk_Q gk_Y Γ (some (.int ρ.1)) ρ.2) args s rm_Catalog_bareMethods.cells rm_Catalog_bareMethods.slots (fun q => Γ.2.2 ≤ q)) 0 0 a.2.2.2.2 4 [some (va_rf a.1), some (.int a.2.1), some (.int a.2.2.1), some (.int a.2.2.2.1)] []) (fun kk a Hk hb => sn_Catalog_bareMethods_4_bd B hr (fun a0 x1 x2 x3 M hh => Hk (a0, x1, x2, x3, M) hh) hb) _ _ h
set_option maxHeartbeats 4000000 in
set_option maxRecDepth 100000 in
theorem sn_Catalog_bareMethods_0 {l : Launch} {Γ : gk_G} {p : Program} {e : Env} {s : State} {m : MethodId} {args : Array Value} {below : List Frame} {meth : Method} {c : Code} (B : gk_B p s m args meth c gk_Y Γ c_Catalog_bareMethods 4 "StageDispatcher$Catalog") (hr : meth.sig.returnType = (some .int)) {ρ : Int32 × gk_M}   {a0 : Option Nat} {x1 : Int32} {M : gk_M} (h : fn_Catalog_bareMethods  a0 x1 M = some ρ) : Gk p l e rm_Catalog_bareMethods s m args below meth c gk_Y Γ 4 (MQ below (gk_Q gk_Y Γ (some (.int ρ.1)) ρ.2) args s rm_Catalog_bareMethods.cells rm_Catalog_bareMethods.slots (fun q => Γ.2.2 ≤ q)) 0 0 M 0 [some (va_rf a0), some (.int x1), none, none] [] := by
  unfold fn_Catalog_bareMethods at h
  refine Gk_iconst (v := 0) B d_Catalog_bareMethods_0 (by decide) ?_
  refine Gk_istore_n (i := 2) (L' := [some (va_rf a0), some (.int x1), some (.int 0), none]) B d_Catalog_bareMethods_1 rfl (by decide) (gk_c1_i rfl) rfl ?_
  refine Gk_iconst (v := 0) B d_Catalog_bareMethods_2 (by decide) ?_
  refine Gk_istore_n (i := 3) (L' := [some (va_rf a0), some (.int x1), some (.int 0), some (.int 0)]) B d_Catalog_bareMethods_3 rfl (by decide) (gk_c1_i rfl) rfl ?_
  exact sn_Catalog_bareMethods_4 B hr h
theorem sn_Catalog_bareMethods {l : Launch} {Γ : gk_G} {a0 : Option Nat} {x1 : Int32} {M : gk_M} {ρ : Int32 × gk_M} (h : fn_Catalog_bareMethods a0 x1 M = some ρ) : gk_Met l gk_Y Γ y_Catalog_bareMethods (.code y_Catalog_bareMethods c_Catalog_bareMethods 4 (some .int) :: gk_Y.2.2.2) rm_Catalog_bareMethods [va_rf a0, .int x1] M (some (.int ρ.1)) ρ.2 :=
  gk_start (by decide) (by simp [lg_sl, gk_rc, gk_ic, gk_jc]) [some (va_rf a0), some (.int x1), none, none] (by simp [gk_as, lv_args, gk_rc, gk_ic, gk_jc]) (fun p e s m args below meth c B hr hin => sn_Catalog_bareMethods_0 B hr h)
