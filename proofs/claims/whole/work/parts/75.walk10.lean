theorem d_Mo_heaviest_0 : decode c_Mo_heaviest 0 = .ok (.iconst (-1), 1) := by decide +kernel
theorem d_Mo_heaviest_1 : decode c_Mo_heaviest 1 = .ok (.istore_n 1, 1) := by decide +kernel
theorem d_Mo_heaviest_2 : decode c_Mo_heaviest 2 = .ok (.iconst 0, 1) := by decide +kernel
theorem d_Mo_heaviest_3 : decode c_Mo_heaviest 3 = .ok (.istore_n 2, 1) := by decide +kernel
theorem d_Mo_heaviest_4 : decode c_Mo_heaviest 4 = .ok (.iload_n 2, 1) := by decide +kernel
theorem d_Mo_heaviest_5 : decode c_Mo_heaviest 5 = .ok (.aload_n 0, 1) := by decide +kernel
theorem d_Mo_heaviest_6 : decode c_Mo_heaviest 6 = .ok (.getfield 175, 3) := by decide +kernel
theorem d_Mo_heaviest_9 : decode c_Mo_heaviest 9 = .ok (.if_icmp .ge 77, 3) := by decide +kernel
theorem d_Mo_heaviest_12 : decode c_Mo_heaviest 12 = .ok (.aload_n 0, 1) := by decide +kernel
theorem d_Mo_heaviest_13 : decode c_Mo_heaviest 13 = .ok (.getfield 105, 3) := by decide +kernel
theorem d_Mo_heaviest_16 : decode c_Mo_heaviest 16 = .ok (.aload_n 0, 1) := by decide +kernel
theorem d_Mo_heaviest_17 : decode c_Mo_heaviest 17 = .ok (.getfield 20, 3) := by decide +kernel
theorem d_Mo_heaviest_20 : decode c_Mo_heaviest 20 = .ok (.iload_n 2, 1) := by decide +kernel
theorem d_Mo_heaviest_21 : decode c_Mo_heaviest 21 = .ok (.iaload, 1) := by decide +kernel
theorem d_Mo_heaviest_22 : decode c_Mo_heaviest 22 = .ok (.baload, 1) := by decide +kernel
theorem d_Mo_heaviest_23 : decode c_Mo_heaviest 23 = .ok (.ifCond .eq 18, 3) := by decide +kernel
theorem d_Mo_heaviest_26 : decode c_Mo_heaviest 26 = .ok (.aload_n 0, 1) := by decide +kernel
theorem d_Mo_heaviest_27 : decode c_Mo_heaviest 27 = .ok (.bipush 6, 2) := by decide +kernel
theorem d_Mo_heaviest_29 : decode c_Mo_heaviest 29 = .ok (.iload_n 2, 1) := by decide +kernel
theorem d_Mo_heaviest_30 : decode c_Mo_heaviest 30 = .ok (.iadd, 1) := by decide +kernel
theorem d_Mo_heaviest_31 : decode c_Mo_heaviest 31 = .ok (.aload_n 0, 1) := by decide +kernel
theorem d_Mo_heaviest_32 : decode c_Mo_heaviest 32 = .ok (.getfield 202, 3) := by decide +kernel
theorem d_Mo_heaviest_35 : decode c_Mo_heaviest 35 = .ok (.invokevirtual 146, 3) := by decide +kernel
theorem d_Mo_heaviest_38 : decode c_Mo_heaviest 38 = .ok (.goto 4, 3) := by decide +kernel
theorem d_Mo_heaviest_41 : decode c_Mo_heaviest 41 = .ok (.iconst (-1), 1) := by decide +kernel
theorem d_Mo_heaviest_42 : decode c_Mo_heaviest 42 = .ok (.istore_n 3, 1) := by decide +kernel
theorem d_Mo_heaviest_43 : decode c_Mo_heaviest 43 = .ok (.iload_n 3, 1) := by decide +kernel
theorem d_Mo_heaviest_44 : decode c_Mo_heaviest 44 = .ok (.ifCond .lt 36, 3) := by decide +kernel
theorem d_Mo_heaviest_47 : decode c_Mo_heaviest 47 = .ok (.aload_n 0, 1) := by decide +kernel
theorem d_Mo_heaviest_48 : decode c_Mo_heaviest 48 = .ok (.iload_n 3, 1) := by decide +kernel
theorem d_Mo_heaviest_49 : decode c_Mo_heaviest 49 = .ok (.invokevirtual 187, 3) := by decide +kernel
theorem d_Mo_heaviest_52 : decode c_Mo_heaviest 52 = .ok (.ifCond .eq 28, 3) := by decide +kernel
theorem d_Mo_heaviest_55 : decode c_Mo_heaviest 55 = .ok (.iload_n 1, 1) := by decide +kernel
theorem d_Mo_heaviest_56 : decode c_Mo_heaviest 56 = .ok (.ifCond .lt 19, 3) := by decide +kernel
theorem d_Mo_heaviest_59 : decode c_Mo_heaviest 59 = .ok (.aload_n 0, 1) := by decide +kernel
theorem d_Mo_heaviest_60 : decode c_Mo_heaviest 60 = .ok (.bipush 6, 2) := by decide +kernel
theorem d_Mo_heaviest_62 : decode c_Mo_heaviest 62 = .ok (.iload_n 2, 1) := by decide +kernel
theorem d_Mo_heaviest_63 : decode c_Mo_heaviest 63 = .ok (.iadd, 1) := by decide +kernel
theorem d_Mo_heaviest_64 : decode c_Mo_heaviest 64 = .ok (.invokevirtual 193, 3) := by decide +kernel
theorem d_Mo_heaviest_67 : decode c_Mo_heaviest 67 = .ok (.aload_n 0, 1) := by decide +kernel
theorem d_Mo_heaviest_68 : decode c_Mo_heaviest 68 = .ok (.iload_n 1, 1) := by decide +kernel
theorem d_Mo_heaviest_69 : decode c_Mo_heaviest 69 = .ok (.invokevirtual 193, 3) := by decide +kernel
theorem d_Mo_heaviest_72 : decode c_Mo_heaviest 72 = .ok (.if_icmp .le 8, 3) := by decide +kernel
theorem d_Mo_heaviest_75 : decode c_Mo_heaviest 75 = .ok (.bipush 6, 2) := by decide +kernel
theorem d_Mo_heaviest_77 : decode c_Mo_heaviest 77 = .ok (.iload_n 2, 1) := by decide +kernel
theorem d_Mo_heaviest_78 : decode c_Mo_heaviest 78 = .ok (.iadd, 1) := by decide +kernel
theorem d_Mo_heaviest_79 : decode c_Mo_heaviest 79 = .ok (.istore_n 1, 1) := by decide +kernel
theorem d_Mo_heaviest_80 : decode c_Mo_heaviest 80 = .ok (.iinc 2 1, 3) := by decide +kernel
theorem d_Mo_heaviest_83 : decode c_Mo_heaviest 83 = .ok (.goto (-79), 3) := by decide +kernel
theorem d_Mo_heaviest_86 : decode c_Mo_heaviest 86 = .ok (.iconst 0, 1) := by decide +kernel
theorem d_Mo_heaviest_87 : decode c_Mo_heaviest 87 = .ok (.istore_n 2, 1) := by decide +kernel
theorem d_Mo_heaviest_88 : decode c_Mo_heaviest 88 = .ok (.iload_n 2, 1) := by decide +kernel
theorem d_Mo_heaviest_89 : decode c_Mo_heaviest 89 = .ok (.aload_n 0, 1) := by decide +kernel
theorem d_Mo_heaviest_90 : decode c_Mo_heaviest 90 = .ok (.getfield 178, 3) := by decide +kernel
theorem d_Mo_heaviest_93 : decode c_Mo_heaviest 93 = .ok (.if_icmp .ge 69, 3) := by decide +kernel
theorem d_Mo_heaviest_96 : decode c_Mo_heaviest 96 = .ok (.aload_n 0, 1) := by decide +kernel
theorem d_Mo_heaviest_97 : decode c_Mo_heaviest 97 = .ok (.getfield 105, 3) := by decide +kernel
theorem d_Mo_heaviest_100 : decode c_Mo_heaviest 100 = .ok (.aload_n 0, 1) := by decide +kernel
theorem d_Mo_heaviest_101 : decode c_Mo_heaviest 101 = .ok (.getfield 44, 3) := by decide +kernel
theorem d_Mo_heaviest_104 : decode c_Mo_heaviest 104 = .ok (.iload_n 2, 1) := by decide +kernel
theorem d_Mo_heaviest_105 : decode c_Mo_heaviest 105 = .ok (.iaload, 1) := by decide +kernel
theorem d_Mo_heaviest_106 : decode c_Mo_heaviest 106 = .ok (.baload, 1) := by decide +kernel
theorem d_Mo_heaviest_107 : decode c_Mo_heaviest 107 = .ok (.ifCond .eq 18, 3) := by decide +kernel
theorem d_Mo_heaviest_110 : decode c_Mo_heaviest 110 = .ok (.aload_n 0, 1) := by decide +kernel
theorem d_Mo_heaviest_111 : decode c_Mo_heaviest 111 = .ok (.bipush 18, 2) := by decide +kernel
theorem d_Mo_heaviest_113 : decode c_Mo_heaviest 113 = .ok (.iload_n 2, 1) := by decide +kernel
theorem d_Mo_heaviest_114 : decode c_Mo_heaviest 114 = .ok (.iadd, 1) := by decide +kernel
theorem d_Mo_heaviest_115 : decode c_Mo_heaviest 115 = .ok (.aload_n 0, 1) := by decide +kernel
theorem d_Mo_heaviest_116 : decode c_Mo_heaviest 116 = .ok (.getfield 202, 3) := by decide +kernel
theorem d_Mo_heaviest_119 : decode c_Mo_heaviest 119 = .ok (.invokevirtual 146, 3) := by decide +kernel
theorem d_Mo_heaviest_122 : decode c_Mo_heaviest 122 = .ok (.goto 4, 3) := by decide +kernel
theorem d_Mo_heaviest_125 : decode c_Mo_heaviest 125 = .ok (.iconst (-1), 1) := by decide +kernel
theorem d_Mo_heaviest_126 : decode c_Mo_heaviest 126 = .ok (.istore_n 3, 1) := by decide +kernel
theorem d_Mo_heaviest_127 : decode c_Mo_heaviest 127 = .ok (.iload_n 3, 1) := by decide +kernel
theorem d_Mo_heaviest_128 : decode c_Mo_heaviest 128 = .ok (.ifCond .lt 28, 3) := by decide +kernel
theorem d_Mo_heaviest_131 : decode c_Mo_heaviest 131 = .ok (.iload_n 1, 1) := by decide +kernel
theorem d_Mo_heaviest_132 : decode c_Mo_heaviest 132 = .ok (.ifCond .lt 19, 3) := by decide +kernel
theorem d_Mo_heaviest_135 : decode c_Mo_heaviest 135 = .ok (.aload_n 0, 1) := by decide +kernel
theorem d_Mo_heaviest_136 : decode c_Mo_heaviest 136 = .ok (.bipush 18, 2) := by decide +kernel
theorem d_Mo_heaviest_138 : decode c_Mo_heaviest 138 = .ok (.iload_n 2, 1) := by decide +kernel
theorem d_Mo_heaviest_139 : decode c_Mo_heaviest 139 = .ok (.iadd, 1) := by decide +kernel
theorem d_Mo_heaviest_140 : decode c_Mo_heaviest 140 = .ok (.invokevirtual 193, 3) := by decide +kernel
theorem d_Mo_heaviest_143 : decode c_Mo_heaviest 143 = .ok (.aload_n 0, 1) := by decide +kernel
theorem d_Mo_heaviest_144 : decode c_Mo_heaviest 144 = .ok (.iload_n 1, 1) := by decide +kernel
theorem d_Mo_heaviest_145 : decode c_Mo_heaviest 145 = .ok (.invokevirtual 193, 3) := by decide +kernel
theorem d_Mo_heaviest_148 : decode c_Mo_heaviest 148 = .ok (.if_icmp .le 8, 3) := by decide +kernel
theorem d_Mo_heaviest_151 : decode c_Mo_heaviest 151 = .ok (.bipush 18, 2) := by decide +kernel
theorem d_Mo_heaviest_153 : decode c_Mo_heaviest 153 = .ok (.iload_n 2, 1) := by decide +kernel
theorem d_Mo_heaviest_154 : decode c_Mo_heaviest 154 = .ok (.iadd, 1) := by decide +kernel
theorem d_Mo_heaviest_155 : decode c_Mo_heaviest 155 = .ok (.istore_n 1, 1) := by decide +kernel
theorem d_Mo_heaviest_156 : decode c_Mo_heaviest 156 = .ok (.iinc 2 1, 3) := by decide +kernel
theorem d_Mo_heaviest_159 : decode c_Mo_heaviest 159 = .ok (.goto (-71), 3) := by decide +kernel
theorem d_Mo_heaviest_162 : decode c_Mo_heaviest 162 = .ok (.iload_n 1, 1) := by decide +kernel
theorem d_Mo_heaviest_163 : decode c_Mo_heaviest 163 = .ok (.ireturn, 1) := by decide +kernel
set_option maxHeartbeats 4000000 in
set_option maxRecDepth 100000 in
theorem sn_Mo_heaviest_80 {l : Launch} {Γ : gk_G} {p : Program} {e : Env} {s : State} {m : MethodId} {args : Array Value} {below : List Frame} {meth : Method} {c : Code} (B : gk_B p s m args meth c gk_Y Γ c_Mo_heaviest 4 "StageDispatcherModel") (hr : meth.sig.returnType = (some .int)) {ρ : Int32 × gk_M} {k4 : Option Nat → Int32 → Int32 → gk_M → Option (Int32 × gk_M)} (H4 : ∀ (a0 : Option Nat) (x1 : Int32) (x2 : Int32) (M : gk_M), k4 a0 x1 x2 M = some ρ → Gk p l e rm_Mo_heaviest s m args below meth c gk_Y Γ 4 (MQ below (gk_Q gk_Y Γ (some (.int ρ.1)) ρ.2) args s rm_Mo_heaviest.cells rm_Mo_heaviest.slots (fun q => Γ.2.2 ≤ q)) 0 0 M 4 [some (va_rf a0), some (.int x1), some (.int x2), none] []) {a0 : Option Nat} {x1 : Int32} {x2 : Int32} {M : gk_M} (h : fn_Mo_heaviest_80 k4 a0 x1 x2 M = some ρ) : Gk p l e rm_Mo_heaviest s m args below meth c gk_Y Γ 4 (MQ below (gk_Q gk_Y Γ (some (.int ρ.1)) ρ.2) args s rm_Mo_heaviest.cells rm_Mo_heaviest.slots (fun q => Γ.2.2 ≤ q)) 0 0 M 80 [some (va_rf a0), some (.int x1), some (.int x2), none] [] := by
  unfold fn_Mo_heaviest_80 at h
  refine Gk_iinc (x := x2) (v := (x2 + 1)) (L' := [some (va_rf a0), some (.int x1), some (.int (x2 + 1)), none]) B d_Mo_heaviest_80 rfl (congrArg (fun z => x2 + z) (by decide : Int32.ofInt 1 = 1)) (by decide) (gk_c1_i rfl) rfl ?_
  refine Gk_goto (tgt := 4) B d_Mo_heaviest_83 rfl ?_
  exact H4 a0 x1 (x2 + 1) M h
set_option maxHeartbeats 4000000 in
set_option maxRecDepth 100000 in
theorem sn_Mo_heaviest_75 {l : Launch} {Γ : gk_G} {p : Program} {e : Env} {s : State} {m : MethodId} {args : Array Value} {below : List Frame} {meth : Method} {c : Code} (B : gk_B p s m args meth c gk_Y Γ c_Mo_heaviest 4 "StageDispatcherModel") (hr : meth.sig.returnType = (some .int)) {ρ : Int32 × gk_M} {k4 : Option Nat → Int32 → Int32 → gk_M → Option (Int32 × gk_M)} (H4 : ∀ (a0 : Option Nat) (x1 : Int32) (x2 : Int32) (M : gk_M), k4 a0 x1 x2 M = some ρ → Gk p l e rm_Mo_heaviest s m args below meth c gk_Y Γ 4 (MQ below (gk_Q gk_Y Γ (some (.int ρ.1)) ρ.2) args s rm_Mo_heaviest.cells rm_Mo_heaviest.slots (fun q => Γ.2.2 ≤ q)) 0 0 M 4 [some (va_rf a0), some (.int x1), some (.int x2), none] []) {a0 : Option Nat} {x2 : Int32} {M : gk_M} (h : fn_Mo_heaviest_75 k4 a0 x2 M = some ρ) : Gk p l e rm_Mo_heaviest s m args below meth c gk_Y Γ 4 (MQ below (gk_Q gk_Y Γ (some (.int ρ.1)) ρ.2) args s rm_Mo_heaviest.cells rm_Mo_heaviest.slots (fun q => Γ.2.2 ≤ q)) 0 0 M 75 [some (va_rf a0), none, some (.int x2), none] [] := by
  unfold fn_Mo_heaviest_75 at h
  refine Gk_bipush (v := 6) B d_Mo_heaviest_75 (by decide) ?_
  refine Gk_iload_n (i := 2) (x := x2) B d_Mo_heaviest_77 rfl rfl ?_
  refine Gk_iadd B d_Mo_heaviest_78 ?_
  refine Gk_istore_n (i := 1) (L' := [some (va_rf a0), some (.int ((6 : Int32) + x2)), some (.int x2), none]) B d_Mo_heaviest_79 rfl (by decide) (gk_c1_r rfl) rfl ?_
  exact sn_Mo_heaviest_80 B hr H4 h
set_option maxHeartbeats 4000000 in
set_option maxRecDepth 100000 in
theorem sn_Mo_heaviest_42 {l : Launch} {Γ : gk_G} {p : Program} {e : Env} {s : State} {m : MethodId} {args : Array Value} {below : List Frame} {meth : Method} {c : Code} (B : gk_B p s m args meth c gk_Y Γ c_Mo_heaviest 4 "StageDispatcherModel") (hr : meth.sig.returnType = (some .int)) {ρ : Int32 × gk_M} {k4 : Option Nat → Int32 → Int32 → gk_M → Option (Int32 × gk_M)} (H4 : ∀ (a0 : Option Nat) (x1 : Int32) (x2 : Int32) (M : gk_M), k4 a0 x1 x2 M = some ρ → Gk p l e rm_Mo_heaviest s m args below meth c gk_Y Γ 4 (MQ below (gk_Q gk_Y Γ (some (.int ρ.1)) ρ.2) args s rm_Mo_heaviest.cells rm_Mo_heaviest.slots (fun q => Γ.2.2 ≤ q)) 0 0 M 4 [some (va_rf a0), some (.int x1), some (.int x2), none] []) {a0 : Option Nat} {x1 : Int32} {x2 : Int32} {s0 : Int32} {M : gk_M} (h : fn_Mo_heaviest_42 k4 a0 x1 x2 s0 M = some ρ) : Gk p l e rm_Mo_heaviest s m args below meth c gk_Y Γ 4 (MQ below (gk_Q gk_Y Γ (some (.int ρ.1)) ρ.2) args s rm_Mo_heaviest.cells rm_Mo_heaviest.slots (fun q => Γ.2.2 ≤ q)) 0 0 M 42 [some (va_rf a0), some (.int x1), some (.int x2), none] [.int s0] := by
  unfold fn_Mo_heaviest_42 at h
  refine Gk_istore_n (i := 3) (L' := [some (va_rf a0), some (.int x1), some (.int x2), some (.int s0)]) B d_Mo_heaviest_42 rfl (by decide) (gk_c1_i rfl) rfl ?_
  refine Gk_iload_n (i := 3) (x := s0) B d_Mo_heaviest_43 rfl rfl ?_
  refine Gk_if_lt (tgt := 80) B d_Mo_heaviest_44 rfl (fun c44 => ?_) (fun c44 => ?_)
  · rw [if_pos c44] at h
    refine Gk_weak [true, true, true, false] (L' := [some (va_rf a0), some (.int x1), some (.int x2), none]) rfl ?_
    exact sn_Mo_heaviest_80 B hr H4 h
  rw [if_neg c44] at h
  refine Gk_aload_n (i := 0) (r := a0) B d_Mo_heaviest_47 rfl rfl ?_
  refine Gk_iload_n (i := 3) (x := s0) B d_Mo_heaviest_48 rfl rfl ?_
  obtain ⟨o49, g49, h⟩ := gk_bind h
  obtain ⟨w49, h49, h⟩ := gk_bind h
  refine Gk_callV (As := [.int s0]) (rest := []) (st1 := [.int w49.1]) (k1 := 0) (n1 := 0) B gk_hG d_Mo_heaviest_49 (sn_Mo_ends h49) g49 cl_Mo tw_1020 tw_1017 tw_1019 tw_24 tw_48 nm_Mo_ends rfl (by decide) ⟨by decide, by decide⟩ ⟨by decide, by decide⟩ rfl rfl rfl rfl ?_
  refine Gk_if_eq (tgt := 80) B d_Mo_heaviest_52 rfl (fun c52 => ?_) (fun c52 => ?_)
  · rw [if_pos c52] at h
    refine Gk_weak [true, true, true, false] (L' := [some (va_rf a0), some (.int x1), some (.int x2), none]) rfl ?_
    exact sn_Mo_heaviest_80 B hr H4 h
  rw [if_neg c52] at h
  refine Gk_iload_n (i := 1) (x := x1) B d_Mo_heaviest_55 rfl rfl ?_
  refine Gk_if_lt (tgt := 75) B d_Mo_heaviest_56 rfl (fun c56 => ?_) (fun c56 => ?_)
  · rw [if_pos c56] at h
    refine Gk_weak [true, false, true, false] (L' := [some (va_rf a0), none, some (.int x2), none]) rfl ?_
    exact sn_Mo_heaviest_75 B hr H4 h
  rw [if_neg c56] at h
  refine Gk_aload_n (i := 0) (r := a0) B d_Mo_heaviest_59 rfl rfl ?_
  refine Gk_bipush (v := 6) B d_Mo_heaviest_60 (by decide) ?_
  refine Gk_iload_n (i := 2) (x := x2) B d_Mo_heaviest_62 rfl rfl ?_
  refine Gk_iadd B d_Mo_heaviest_63 ?_
  obtain ⟨o64, g64, h⟩ := gk_bind h
  obtain ⟨w64, h64, h⟩ := gk_bind h
  refine Gk_callV (As := [.int ((6 : Int32) + x2)]) (rest := []) (st1 := [.int w64.1]) (k1 := 0) (n1 := 0) B gk_hG d_Mo_heaviest_64 (sn_Mo_weight h64) g64 cl_Mo tw_1028 tw_1025 tw_1027 tw_26 tw_48 nm_Mo_weight rfl (by decide) ⟨by decide, by decide⟩ ⟨by decide, by decide⟩ rfl rfl rfl rfl ?_
  refine Gk_aload_n (i := 0) (r := a0) B d_Mo_heaviest_67 rfl rfl ?_
  refine Gk_iload_n (i := 1) (x := x1) B d_Mo_heaviest_68 rfl rfl ?_
  obtain ⟨o69, g69, h⟩ := gk_bind h
  obtain ⟨w69, h69, h⟩ := gk_bind h
  refine Gk_callV (As := [.int x1]) (rest := [.int w64.1]) (st1 := [.int w69.1, .int w64.1]) (k1 := 0) (n1 := 0) B gk_hG d_Mo_heaviest_69 (sn_Mo_weight h69) g69 cl_Mo tw_1028 tw_1025 tw_1027 tw_26 tw_48 nm_Mo_weight rfl (by simp [gk_rc, gk_ic, gk_jc, rm_Mo_heaviest]) ⟨by decide, by decide⟩ ⟨by decide, by decide⟩ rfl rfl rfl rfl ?_
  refine Gk_icmp_le (tgt := 80) B d_Mo_heaviest_72 rfl (fun c72 => ?_) (fun c72 => ?_)
  · rw [if_pos c72] at h
    refine Gk_weak [true, true, true, false] (L' := [some (va_rf a0), some (.int x1), some (.int x2), none]) rfl ?_
    exact sn_Mo_heaviest_80 B hr H4 h
  rw [if_neg c72] at h
  refine Gk_weak [true, false, true, false] (L' := [some (va_rf a0), none, some (.int x2), none]) rfl ?_
  exact sn_Mo_heaviest_75 B hr H4 h
set_option maxHeartbeats 4000000 in
set_option maxRecDepth 100000 in
theorem sn_Mo_heaviest_156 {l : Launch} {Γ : gk_G} {p : Program} {e : Env} {s : State} {m : MethodId} {args : Array Value} {below : List Frame} {meth : Method} {c : Code} (B : gk_B p s m args meth c gk_Y Γ c_Mo_heaviest 4 "StageDispatcherModel") (hr : meth.sig.returnType = (some .int)) {ρ : Int32 × gk_M} {k88 : Option Nat → Int32 → Int32 → gk_M → Option (Int32 × gk_M)} (H88 : ∀ (a0 : Option Nat) (x1 : Int32) (x2 : Int32) (M : gk_M), k88 a0 x1 x2 M = some ρ → Gk p l e rm_Mo_heaviest s m args below meth c gk_Y Γ 4 (MQ below (gk_Q gk_Y Γ (some (.int ρ.1)) ρ.2) args s rm_Mo_heaviest.cells rm_Mo_heaviest.slots (fun q => Γ.2.2 ≤ q)) 0 0 M 88 [some (va_rf a0), some (.int x1), some (.int x2), none] []) {a0 : Option Nat} {x1 : Int32} {x2 : Int32} {M : gk_M} (h : fn_Mo_heaviest_156 k88 a0 x1 x2 M = some ρ) : Gk p l e rm_Mo_heaviest s m args below meth c gk_Y Γ 4 (MQ below (gk_Q gk_Y Γ (some (.int ρ.1)) ρ.2) args s rm_Mo_heaviest.cells rm_Mo_heaviest.slots (fun q => Γ.2.2 ≤ q)) 0 0 M 156 [some (va_rf a0), some (.int x1), some (.int x2), none] [] := by
  unfold fn_Mo_heaviest_156 at h
  refine Gk_iinc (x := x2) (v := (x2 + 1)) (L' := [some (va_rf a0), some (.int x1), some (.int (x2 + 1)), none]) B d_Mo_heaviest_156 rfl (congrArg (fun z => x2 + z) (by decide : Int32.ofInt 1 = 1)) (by decide) (gk_c1_i rfl) rfl ?_
  refine Gk_goto (tgt := 88) B d_Mo_heaviest_159 rfl ?_
  exact H88 a0 x1 (x2 + 1) M h
set_option maxHeartbeats 4000000 in
set_option maxRecDepth 100000 in
theorem sn_Mo_heaviest_151 {l : Launch} {Γ : gk_G} {p : Program} {e : Env} {s : State} {m : MethodId} {args : Array Value} {below : List Frame} {meth : Method} {c : Code} (B : gk_B p s m args meth c gk_Y Γ c_Mo_heaviest 4 "StageDispatcherModel") (hr : meth.sig.returnType = (some .int)) {ρ : Int32 × gk_M} {k88 : Option Nat → Int32 → Int32 → gk_M → Option (Int32 × gk_M)} (H88 : ∀ (a0 : Option Nat) (x1 : Int32) (x2 : Int32) (M : gk_M), k88 a0 x1 x2 M = some ρ → Gk p l e rm_Mo_heaviest s m args below meth c gk_Y Γ 4 (MQ below (gk_Q gk_Y Γ (some (.int ρ.1)) ρ.2) args s rm_Mo_heaviest.cells rm_Mo_heaviest.slots (fun q => Γ.2.2 ≤ q)) 0 0 M 88 [some (va_rf a0), some (.int x1), some (.int x2), none] []) {a0 : Option Nat} {x2 : Int32} {M : gk_M} (h : fn_Mo_heaviest_151 k88 a0 x2 M = some ρ) : Gk p l e rm_Mo_heaviest s m args below meth c gk_Y Γ 4 (MQ below (gk_Q gk_Y Γ (some (.int ρ.1)) ρ.2) args s rm_Mo_heaviest.cells rm_Mo_heaviest.slots (fun q => Γ.2.2 ≤ q)) 0 0 M 151 [some (va_rf a0), none, some (.int x2), none] [] := by
  unfold fn_Mo_heaviest_151 at h
  refine Gk_bipush (v := 18) B d_Mo_heaviest_151 (by decide) ?_
  refine Gk_iload_n (i := 2) (x := x2) B d_Mo_heaviest_153 rfl rfl ?_
  refine Gk_iadd B d_Mo_heaviest_154 ?_
  refine Gk_istore_n (i := 1) (L' := [some (va_rf a0), some (.int ((18 : Int32) + x2)), some (.int x2), none]) B d_Mo_heaviest_155 rfl (by decide) (gk_c1_r rfl) rfl ?_
  exact sn_Mo_heaviest_156 B hr H88 h
set_option maxHeartbeats 4000000 in
set_option maxRecDepth 100000 in
theorem sn_Mo_heaviest_126 {l : Launch} {Γ : gk_G} {p : Program} {e : Env} {s : State} {m : MethodId} {args : Array Value} {below : List Frame} {meth : Method} {c : Code} (B : gk_B p s m args meth c gk_Y Γ c_Mo_heaviest 4 "StageDispatcherModel") (hr : meth.sig.returnType = (some .int)) {ρ : Int32 × gk_M} {k88 : Option Nat → Int32 → Int32 → gk_M → Option (Int32 × gk_M)} (H88 : ∀ (a0 : Option Nat) (x1 : Int32) (x2 : Int32) (M : gk_M), k88 a0 x1 x2 M = some ρ → Gk p l e rm_Mo_heaviest s m args below meth c gk_Y Γ 4 (MQ below (gk_Q gk_Y Γ (some (.int ρ.1)) ρ.2) args s rm_Mo_heaviest.cells rm_Mo_heaviest.slots (fun q => Γ.2.2 ≤ q)) 0 0 M 88 [some (va_rf a0), some (.int x1), some (.int x2), none] []) {a0 : Option Nat} {x1 : Int32} {x2 : Int32} {s0 : Int32} {M : gk_M} (h : fn_Mo_heaviest_126 k88 a0 x1 x2 s0 M = some ρ) : Gk p l e rm_Mo_heaviest s m args below meth c gk_Y Γ 4 (MQ below (gk_Q gk_Y Γ (some (.int ρ.1)) ρ.2) args s rm_Mo_heaviest.cells rm_Mo_heaviest.slots (fun q => Γ.2.2 ≤ q)) 0 0 M 126 [some (va_rf a0), some (.int x1), some (.int x2), none] [.int s0] := by
  unfold fn_Mo_heaviest_126 at h
  refine Gk_istore_n (i := 3) (L' := [some (va_rf a0), some (.int x1), some (.int x2), some (.int s0)]) B d_Mo_heaviest_126 rfl (by decide) (gk_c1_i rfl) rfl ?_
  refine Gk_iload_n (i := 3) (x := s0) B d_Mo_heaviest_127 rfl rfl ?_
  refine Gk_if_lt (tgt := 156) B d_Mo_heaviest_128 rfl (fun c128 => ?_) (fun c128 => ?_)
  · rw [if_pos c128] at h
    refine Gk_weak [true, true, true, false] (L' := [some (va_rf a0), some (.int x1), some (.int x2), none]) rfl ?_
    exact sn_Mo_heaviest_156 B hr H88 h
  rw [if_neg c128] at h
  refine Gk_iload_n (i := 1) (x := x1) B d_Mo_heaviest_131 rfl rfl ?_
  refine Gk_if_lt (tgt := 151) B d_Mo_heaviest_132 rfl (fun c132 => ?_) (fun c132 => ?_)
  · rw [if_pos c132] at h
    refine Gk_weak [true, false, true, false] (L' := [some (va_rf a0), none, some (.int x2), none]) rfl ?_
    exact sn_Mo_heaviest_151 B hr H88 h
  rw [if_neg c132] at h
  refine Gk_aload_n (i := 0) (r := a0) B d_Mo_heaviest_135 rfl rfl ?_
  refine Gk_bipush (v := 18) B d_Mo_heaviest_136 (by decide) ?_
  refine Gk_iload_n (i := 2) (x := x2) B d_Mo_heaviest_138 rfl rfl ?_
  refine Gk_iadd B d_Mo_heaviest_139 ?_
  obtain ⟨o140, g140, h⟩ := gk_bind h
  obtain ⟨w140, h140, h⟩ := gk_bind h
  refine Gk_callV (As := [.int ((18 : Int32) + x2)]) (rest := []) (st1 := [.int w140.1]) (k1 := 0) (n1 := 0) B gk_hG d_Mo_heaviest_140 (sn_Mo_weight h140) g140 cl_Mo tw_1028 tw_1025 tw_1027 tw_26 tw_48 nm_Mo_weight rfl (by decide) ⟨by decide, by decide⟩ ⟨by decide, by decide⟩ rfl rfl rfl rfl ?_
  refine Gk_aload_n (i := 0) (r := a0) B d_Mo_heaviest_143 rfl rfl ?_
  refine Gk_iload_n (i := 1) (x := x1) B d_Mo_heaviest_144 rfl rfl ?_
  obtain ⟨o145, g145, h⟩ := gk_bind h
  obtain ⟨w145, h145, h⟩ := gk_bind h
  refine Gk_callV (As := [.int x1]) (rest := [.int w140.1]) (st1 := [.int w145.1, .int w140.1]) (k1 := 0) (n1 := 0) B gk_hG d_Mo_heaviest_145 (sn_Mo_weight h145) g145 cl_Mo tw_1028 tw_1025 tw_1027 tw_26 tw_48 nm_Mo_weight rfl (by simp [gk_rc, gk_ic, gk_jc, rm_Mo_heaviest]) ⟨by decide, by decide⟩ ⟨by decide, by decide⟩ rfl rfl rfl rfl ?_
  refine Gk_icmp_le (tgt := 156) B d_Mo_heaviest_148 rfl (fun c148 => ?_) (fun c148 => ?_)
  · rw [if_pos c148] at h
    refine Gk_weak [true, true, true, false] (L' := [some (va_rf a0), some (.int x1), some (.int x2), none]) rfl ?_
    exact sn_Mo_heaviest_156 B hr H88 h
  rw [if_neg c148] at h
  refine Gk_weak [true, false, true, false] (L' := [some (va_rf a0), none, some (.int x2), none]) rfl ?_
  exact sn_Mo_heaviest_151 B hr H88 h
set_option maxHeartbeats 4000000 in
set_option maxRecDepth 100000 in
theorem sn_Mo_heaviest_88_bd {l : Launch} {Γ : gk_G} {p : Program} {e : Env} {s : State} {m : MethodId} {args : Array Value} {below : List Frame} {meth : Method} {c : Code} (B : gk_B p s m args meth c gk_Y Γ c_Mo_heaviest 4 "StageDispatcherModel") (hr : meth.sig.returnType = (some .int)) {ρ : Int32 × gk_M} {k88 : Option Nat → Int32 → Int32 → gk_M → Option (Int32 × gk_M)} (H88 : ∀ (a0 : Option Nat) (x1 : Int32) (x2 : Int32) (M : gk_M), k88 a0 x1 x2 M = some ρ → Gk p l e rm_Mo_heaviest s m args below meth c gk_Y Γ 4 (MQ below (gk_Q gk_Y Γ (some (.int ρ.1)) ρ.2) args s rm_Mo_heaviest.cells rm_Mo_heaviest.slots (fun q => Γ.2.2 ≤ q)) 0 0 M 88 [some (va_rf a0), some (.int x1), some (.int x2), none] []) {a0 : Option Nat} {x1 : Int32} {x2 : Int32} {M : gk_M} (h : fn_Mo_heaviest_88_bd k88 a0 x1 x2 M = some ρ) : Gk p l e rm_Mo_heaviest s m args below meth c gk_Y Γ 4 (MQ below (gk_Q gk_Y Γ (some (.int ρ.1)) ρ.2) args s rm_Mo_heaviest.cells rm_Mo_heaviest.slots (fun q => Γ.2.2 ≤ q)) 0 0 M 88 [some (va_rf a0), some (.int x1), some (.int x2), none] [] := by
  unfold fn_Mo_heaviest_88_bd at h
  refine Gk_iload_n (i := 2) (x := x2) B d_Mo_heaviest_88 rfl rfl ?_
  refine Gk_aload_n (i := 0) (r := a0) B d_Mo_heaviest_89 rfl rfl ?_
  obtain ⟨v90, h90, h⟩ := gk_bind h
  refine Gk_getI (j := 14) B d_Mo_heaviest_90 in_Mo cl_Mo (by decide) tw_769 rfl h90 ?_
  refine Gk_icmp_ge (tgt := 162) B d_Mo_heaviest_93 rfl (fun c93 => ?_) (fun c93 => ?_)
  · rw [if_pos c93] at h
    refine Gk_iload_n (i := 1) (x := x1) B d_Mo_heaviest_162 rfl rfl ?_
    cases h
    exact Gk_iret B hr d_Mo_heaviest_163 rfl (by decide) (by decide) rfl
  rw [if_neg c93] at h
  refine Gk_aload_n (i := 0) (r := a0) B d_Mo_heaviest_96 rfl rfl ?_
  obtain ⟨v97, h97, h⟩ := gk_bind h
  refine Gk_getR (j := 53) B d_Mo_heaviest_97 in_Mo cl_Mo (by decide) tw_808 rfl h97 ?_
  refine Gk_aload_n (i := 0) (r := a0) B d_Mo_heaviest_100 rfl rfl ?_
  obtain ⟨v101, h101, h⟩ := gk_bind h
  refine Gk_getR (j := 15) B d_Mo_heaviest_101 in_Mo cl_Mo (by decide) tw_770 rfl h101 ?_
  refine Gk_iload_n (i := 2) (x := x2) B d_Mo_heaviest_104 rfl rfl ?_
  obtain ⟨v105, h105, h⟩ := gk_bind h
  refine Gk_iaload B d_Mo_heaviest_105 ty_0 h105 ?_
  obtain ⟨v106, h106, h⟩ := gk_bind h
  refine Gk_zaload B d_Mo_heaviest_106 ty_2 h106 ?_
  refine Gk_if_eq (tgt := 125) B d_Mo_heaviest_107 rfl (fun c107 => ?_) (fun c107 => ?_)
  · rw [if_pos c107] at h
    refine Gk_iconst (v := (-1)) B d_Mo_heaviest_125 (by decide) ?_
    exact sn_Mo_heaviest_126 B hr H88 h
  rw [if_neg c107] at h
  refine Gk_aload_n (i := 0) (r := a0) B d_Mo_heaviest_110 rfl rfl ?_
  refine Gk_bipush (v := 18) B d_Mo_heaviest_111 (by decide) ?_
  refine Gk_iload_n (i := 2) (x := x2) B d_Mo_heaviest_113 rfl rfl ?_
  refine Gk_iadd B d_Mo_heaviest_114 ?_
  refine Gk_aload_n (i := 0) (r := a0) B d_Mo_heaviest_115 rfl rfl ?_
  obtain ⟨v116, h116, h⟩ := gk_bind h
  refine Gk_getI (j := 34) B d_Mo_heaviest_116 in_Mo cl_Mo (by decide) tw_789 rfl h116 ?_
  obtain ⟨o119, g119, h⟩ := gk_bind h
  obtain ⟨w119, h119, h⟩ := gk_bind h
  refine Gk_callV (As := [.int ((18 : Int32) + x2), .int v116]) (rest := []) (st1 := [.int w119.1]) (k1 := 0) (n1 := 0) B gk_hG d_Mo_heaviest_119 (sn_Mo_match h119) g119 cl_Mo tw_1005 tw_1002 tw_1004 tw_21 tw_48 nm_Mo_match rfl (by decide) ⟨by decide, by decide⟩ ⟨by decide, by decide⟩ rfl rfl rfl rfl ?_
  refine Gk_goto (tgt := 126) B d_Mo_heaviest_122 rfl ?_
  exact sn_Mo_heaviest_126 B hr H88 h
set_option maxHeartbeats 4000000 in
set_option maxRecDepth 100000 in
theorem sn_Mo_heaviest_88 {l : Launch} {Γ : gk_G} {p : Program} {e : Env} {s : State} {m : MethodId} {args : Array Value} {below : List Frame} {meth : Method} {c : Code} (B : gk_B p s m args meth c gk_Y Γ c_Mo_heaviest 4 "StageDispatcherModel") (hr : meth.sig.returnType = (some .int)) {ρ : Int32 × gk_M}   {a0 : Option Nat} {x1 : Int32} {x2 : Int32} {M : gk_M} (h : fn_Mo_heaviest_88  a0 x1 x2 M = some ρ) : Gk p l e rm_Mo_heaviest s m args below meth c gk_Y Γ 4 (MQ below (gk_Q gk_Y Γ (some (.int ρ.1)) ρ.2) args s rm_Mo_heaviest.cells rm_Mo_heaviest.slots (fun q => Γ.2.2 ≤ q)) 0 0 M 88 [some (va_rf a0), some (.int x1), some (.int x2), none] [] := by
  unfold fn_Mo_heaviest_88 at h
  exact gk_loop_sound (α := Option Nat × Int32 × Int32 × gk_M) (P := fun a => Gk p l e rm_Mo_heaviest s m args below meth c gk_Y Γ 4 (MQ below (gk_Q gk_Y Γ (some (.int ρ.1)) ρ.2) args s rm_Mo_heaviest.cells rm_Mo_heaviest.slots (fun q => Γ.2.2 ≤ q)) 0 0 a.2.2.2 88 [some (va_rf a.1), some (.int a.2.1), some (.int a.2.2.1), none] []) (fun kk a Hk hb => sn_Mo_heaviest_88_bd B hr (fun a0 x1 x2 M hh => Hk (a0, x1, x2, M) hh) hb) _ _ h
set_option maxHeartbeats 4000000 in
set_option maxRecDepth 100000 in
theorem sn_Mo_heaviest_4_bd {l : Launch} {Γ : gk_G} {p : Program} {e : Env} {s : State} {m : MethodId} {args : Array Value} {below : List Frame} {meth : Method} {c : Code} (B : gk_B p s m args meth c gk_Y Γ c_Mo_heaviest 4 "StageDispatcherModel") (hr : meth.sig.returnType = (some .int)) {ρ : Int32 × gk_M} {k4 : Option Nat → Int32 → Int32 → gk_M → Option (Int32 × gk_M)} (H4 : ∀ (a0 : Option Nat) (x1 : Int32) (x2 : Int32) (M : gk_M), k4 a0 x1 x2 M = some ρ → Gk p l e rm_Mo_heaviest s m args below meth c gk_Y Γ 4 (MQ below (gk_Q gk_Y Γ (some (.int ρ.1)) ρ.2) args s rm_Mo_heaviest.cells rm_Mo_heaviest.slots (fun q => Γ.2.2 ≤ q)) 0 0 M 4 [some (va_rf a0), some (.int x1), some (.int x2), none] []) {a0 : Option Nat} {x1 : Int32} {x2 : Int32} {M : gk_M} (h : fn_Mo_heaviest_4_bd k4 a0 x1 x2 M = some ρ) : Gk p l e rm_Mo_heaviest s m args below meth c gk_Y Γ 4 (MQ below (gk_Q gk_Y Γ (some (.int ρ.1)) ρ.2) args s rm_Mo_heaviest.cells rm_Mo_heaviest.slots (fun q => Γ.2.2 ≤ q)) 0 0 M 4 [some (va_rf a0), some (.int x1), some (.int x2), none] [] := by
  unfold fn_Mo_heaviest_4_bd at h
  refine Gk_iload_n (i := 2) (x := x2) B d_Mo_heaviest_4 rfl rfl ?_
  refine Gk_aload_n (i := 0) (r := a0) B d_Mo_heaviest_5 rfl rfl ?_
  obtain ⟨v6, h6, h⟩ := gk_bind h
  refine Gk_getI (j := 5) B d_Mo_heaviest_6 in_Mo cl_Mo (by decide) tw_760 rfl h6 ?_
  refine Gk_icmp_ge (tgt := 86) B d_Mo_heaviest_9 rfl (fun c9 => ?_) (fun c9 => ?_)
  · rw [if_pos c9] at h
    refine Gk_iconst (v := 0) B d_Mo_heaviest_86 (by decide) ?_
    refine Gk_istore_n (i := 2) (L' := [some (va_rf a0), some (.int x1), some (.int 0), none]) B d_Mo_heaviest_87 rfl (by decide) (gk_c1_i rfl) rfl ?_
    exact sn_Mo_heaviest_88 B hr h
  rw [if_neg c9] at h
  refine Gk_aload_n (i := 0) (r := a0) B d_Mo_heaviest_12 rfl rfl ?_
  obtain ⟨v13, h13, h⟩ := gk_bind h
  refine Gk_getR (j := 53) B d_Mo_heaviest_13 in_Mo cl_Mo (by decide) tw_808 rfl h13 ?_
  refine Gk_aload_n (i := 0) (r := a0) B d_Mo_heaviest_16 rfl rfl ?_
  obtain ⟨v17, h17, h⟩ := gk_bind h
  refine Gk_getR (j := 6) B d_Mo_heaviest_17 in_Mo cl_Mo (by decide) tw_761 rfl h17 ?_
  refine Gk_iload_n (i := 2) (x := x2) B d_Mo_heaviest_20 rfl rfl ?_
  obtain ⟨v21, h21, h⟩ := gk_bind h
  refine Gk_iaload B d_Mo_heaviest_21 ty_0 h21 ?_
  obtain ⟨v22, h22, h⟩ := gk_bind h
  refine Gk_zaload B d_Mo_heaviest_22 ty_2 h22 ?_
  refine Gk_if_eq (tgt := 41) B d_Mo_heaviest_23 rfl (fun c23 => ?_) (fun c23 => ?_)
  · rw [if_pos c23] at h
    refine Gk_iconst (v := (-1)) B d_Mo_heaviest_41 (by decide) ?_
    exact sn_Mo_heaviest_42 B hr H4 h
  rw [if_neg c23] at h
  refine Gk_aload_n (i := 0) (r := a0) B d_Mo_heaviest_26 rfl rfl ?_
  refine Gk_bipush (v := 6) B d_Mo_heaviest_27 (by decide) ?_
  refine Gk_iload_n (i := 2) (x := x2) B d_Mo_heaviest_29 rfl rfl ?_
  refine Gk_iadd B d_Mo_heaviest_30 ?_
  refine Gk_aload_n (i := 0) (r := a0) B d_Mo_heaviest_31 rfl rfl ?_
  obtain ⟨v32, h32, h⟩ := gk_bind h
  refine Gk_getI (j := 34) B d_Mo_heaviest_32 in_Mo cl_Mo (by decide) tw_789 rfl h32 ?_
  obtain ⟨o35, g35, h⟩ := gk_bind h
  obtain ⟨w35, h35, h⟩ := gk_bind h
  refine Gk_callV (As := [.int ((6 : Int32) + x2), .int v32]) (rest := []) (st1 := [.int w35.1]) (k1 := 0) (n1 := 0) B gk_hG d_Mo_heaviest_35 (sn_Mo_match h35) g35 cl_Mo tw_1005 tw_1002 tw_1004 tw_21 tw_48 nm_Mo_match rfl (by decide) ⟨by decide, by decide⟩ ⟨by decide, by decide⟩ rfl rfl rfl rfl ?_
  refine Gk_goto (tgt := 42) B d_Mo_heaviest_38 rfl ?_
  exact sn_Mo_heaviest_42 B hr H4 h
set_option maxHeartbeats 4000000 in
set_option maxRecDepth 100000 in
theorem sn_Mo_heaviest_4 {l : Launch} {Γ : gk_G} {p : Program} {e : Env} {s : State} {m : MethodId} {args : Array Value} {below : List Frame} {meth : Method} {c : Code} (B : gk_B p s m args meth c gk_Y Γ c_Mo_heaviest 4 "StageDispatcherModel") (hr : meth.sig.returnType = (some .int)) {ρ : Int32 × gk_M}   {a0 : Option Nat} {x1 : Int32} {x2 : Int32} {M : gk_M} (h : fn_Mo_heaviest_4  a0 x1 x2 M = some ρ) : Gk p l e rm_Mo_heaviest s m args below meth c gk_Y Γ 4 (MQ below (gk_Q gk_Y Γ (some (.int ρ.1)) ρ.2) args s rm_Mo_heaviest.cells rm_Mo_heaviest.slots (fun q => Γ.2.2 ≤ q)) 0 0 M 4 [some (va_rf a0), some (.int x1), some (.int x2), none] [] := by
  unfold fn_Mo_heaviest_4 at h
  exact gk_loop_sound (α := Option Nat × Int32 × Int32 × gk_M) (P := fun a => Gk p l e rm_Mo_heaviest s m args below meth c gk_Y Γ 4 (MQ below (gk_Q gk_Y Γ (some (.int ρ.1)) ρ.2) args s rm_Mo_heaviest.cells rm_Mo_heaviest.slots (fun q => Γ.2.2 ≤ q)) 0 0 a.2.2.2 4 [some (va_rf a.1), some (.int a.2.1), some (.int a.2.2.1), none] []) (fun kk a Hk hb => sn_Mo_heaviest_4_bd B hr (fun a0 x1 x2 M hh => Hk (a0, x1, x2, M) hh) hb) _ _ h
set_option maxHeartbeats 4000000 in
set_option maxRecDepth 100000 in
theorem sn_Mo_heaviest_0 {l : Launch} {Γ : gk_G} {p : Program} {e : Env} {s : State} {m : MethodId} {args : Array Value} {below : List Frame} {meth : Method} {c : Code} (B : gk_B p s m args meth c gk_Y Γ c_Mo_heaviest 4 "StageDispatcherModel") (hr : meth.sig.returnType = (some .int)) {ρ : Int32 × gk_M}   {a0 : Option Nat} {M : gk_M} (h : fn_Mo_heaviest  a0 M = some ρ) : Gk p l e rm_Mo_heaviest s m args below meth c gk_Y Γ 4 (MQ below (gk_Q gk_Y Γ (some (.int ρ.1)) ρ.2) args s rm_Mo_heaviest.cells rm_Mo_heaviest.slots (fun q => Γ.2.2 ≤ q)) 0 0 M 0 [some (va_rf a0), none, none, none] [] := by
  unfold fn_Mo_heaviest at h
  refine Gk_iconst (v := (-1)) B d_Mo_heaviest_0 (by decide) ?_
  refine Gk_istore_n (i := 1) (L' := [some (va_rf a0), some (.int (-1)), none, none]) B d_Mo_heaviest_1 rfl (by decide) (gk_c1_r rfl) rfl ?_
  refine Gk_iconst (v := 0) B d_Mo_heaviest_2 (by decide) ?_
  refine Gk_istore_n (i := 2) (L' := [some (va_rf a0), some (.int (-1)), some (.int 0), none]) B d_Mo_heaviest_3 rfl (by decide) (gk_c1_i rfl) rfl ?_
  exact sn_Mo_heaviest_4 B hr h
theorem sn_Mo_heaviest {l : Launch} {Γ : gk_G} {a0 : Option Nat} {M : gk_M} {ρ : Int32 × gk_M} (h : fn_Mo_heaviest a0 M = some ρ) : gk_Met l gk_Y Γ y_Mo_heaviest (.code y_Mo_heaviest c_Mo_heaviest 4 (some .int) :: gk_Y.2.2.2) rm_Mo_heaviest [va_rf a0] M (some (.int ρ.1)) ρ.2 :=
  gk_start (by decide) (by simp [lg_sl, gk_rc, gk_ic, gk_jc]) [some (va_rf a0), none, none, none] (by simp [gk_as, lv_args, gk_rc, gk_ic, gk_jc]) (fun p e s m args below meth c B hr hin => sn_Mo_heaviest_0 B hr h)
theorem d_Mo_stageTwo_0 : decode c_Mo_stageTwo 0 = .ok (.iconst 0, 1) := by decide +kernel
theorem d_Mo_stageTwo_1 : decode c_Mo_stageTwo 1 = .ok (.istore_n 1, 1) := by decide +kernel
theorem d_Mo_stageTwo_2 : decode c_Mo_stageTwo 2 = .ok (.iload_n 1, 1) := by decide +kernel
theorem d_Mo_stageTwo_3 : decode c_Mo_stageTwo 3 = .ok (.bipush 30, 2) := by decide +kernel
theorem d_Mo_stageTwo_5 : decode c_Mo_stageTwo 5 = .ok (.if_icmp .ge 277, 3) := by decide +kernel
theorem d_Mo_stageTwo_8 : decode c_Mo_stageTwo 8 = .ok (.iconst 0, 1) := by decide +kernel
theorem d_Mo_stageTwo_9 : decode c_Mo_stageTwo 9 = .ok (.istore_n 2, 1) := by decide +kernel
theorem d_Mo_stageTwo_10 : decode c_Mo_stageTwo 10 = .ok (.iconst 0, 1) := by decide +kernel
theorem d_Mo_stageTwo_11 : decode c_Mo_stageTwo 11 = .ok (.istore_n 3, 1) := by decide +kernel
theorem d_Mo_stageTwo_12 : decode c_Mo_stageTwo 12 = .ok (.iload_n 3, 1) := by decide +kernel
theorem d_Mo_stageTwo_13 : decode c_Mo_stageTwo 13 = .ok (.bipush 12, 2) := by decide +kernel
theorem d_Mo_stageTwo_15 : decode c_Mo_stageTwo 15 = .ok (.if_icmp .ge 84, 3) := by decide +kernel
theorem d_Mo_stageTwo_18 : decode c_Mo_stageTwo 18 = .ok (.aload_n 0, 1) := by decide +kernel
theorem d_Mo_stageTwo_19 : decode c_Mo_stageTwo 19 = .ok (.getfield 108, 3) := by decide +kernel
theorem d_Mo_stageTwo_22 : decode c_Mo_stageTwo 22 = .ok (.iload_n 3, 1) := by decide +kernel
theorem d_Mo_stageTwo_23 : decode c_Mo_stageTwo 23 = .ok (.iload_n 3, 1) := by decide +kernel
theorem d_Mo_stageTwo_24 : decode c_Mo_stageTwo 24 = .ok (.aload_n 0, 1) := by decide +kernel
theorem d_Mo_stageTwo_25 : decode c_Mo_stageTwo 25 = .ok (.getfield 175, 3) := by decide +kernel
theorem d_Mo_stageTwo_28 : decode c_Mo_stageTwo 28 = .ok (.if_icmp .ge 44, 3) := by decide +kernel
theorem d_Mo_stageTwo_31 : decode c_Mo_stageTwo 31 = .ok (.aload_n 0, 1) := by decide +kernel
theorem d_Mo_stageTwo_32 : decode c_Mo_stageTwo 32 = .ok (.getfield 105, 3) := by decide +kernel
theorem d_Mo_stageTwo_35 : decode c_Mo_stageTwo 35 = .ok (.aload_n 0, 1) := by decide +kernel
theorem d_Mo_stageTwo_36 : decode c_Mo_stageTwo 36 = .ok (.getfield 20, 3) := by decide +kernel
theorem d_Mo_stageTwo_39 : decode c_Mo_stageTwo 39 = .ok (.iload_n 3, 1) := by decide +kernel
theorem d_Mo_stageTwo_40 : decode c_Mo_stageTwo 40 = .ok (.iaload, 1) := by decide +kernel
theorem d_Mo_stageTwo_41 : decode c_Mo_stageTwo 41 = .ok (.baload, 1) := by decide +kernel
theorem d_Mo_stageTwo_42 : decode c_Mo_stageTwo 42 = .ok (.ifCond .eq 30, 3) := by decide +kernel
theorem d_Mo_stageTwo_45 : decode c_Mo_stageTwo 45 = .ok (.aload_n 0, 1) := by decide +kernel
theorem d_Mo_stageTwo_46 : decode c_Mo_stageTwo 46 = .ok (.getfield 16, 3) := by decide +kernel
theorem d_Mo_stageTwo_49 : decode c_Mo_stageTwo 49 = .ok (.bipush 6, 2) := by decide +kernel
theorem d_Mo_stageTwo_51 : decode c_Mo_stageTwo 51 = .ok (.iload_n 3, 1) := by decide +kernel
theorem d_Mo_stageTwo_52 : decode c_Mo_stageTwo 52 = .ok (.iadd, 1) := by decide +kernel
theorem d_Mo_stageTwo_53 : decode c_Mo_stageTwo 53 = .ok (.iaload, 1) := by decide +kernel
theorem d_Mo_stageTwo_54 : decode c_Mo_stageTwo 54 = .ok (.ifCond .ne 18, 3) := by decide +kernel
theorem d_Mo_stageTwo_57 : decode c_Mo_stageTwo 57 = .ok (.aload_n 0, 1) := by decide +kernel
theorem d_Mo_stageTwo_58 : decode c_Mo_stageTwo 58 = .ok (.aload_n 0, 1) := by decide +kernel
theorem d_Mo_stageTwo_59 : decode c_Mo_stageTwo 59 = .ok (.getfield 202, 3) := by decide +kernel
theorem d_Mo_stageTwo_62 : decode c_Mo_stageTwo 62 = .ok (.invokevirtual 187, 3) := by decide +kernel
theorem d_Mo_stageTwo_65 : decode c_Mo_stageTwo 65 = .ok (.ifCond .eq 7, 3) := by decide +kernel
theorem d_Mo_stageTwo_68 : decode c_Mo_stageTwo 68 = .ok (.iconst 1, 1) := by decide +kernel
theorem d_Mo_stageTwo_69 : decode c_Mo_stageTwo 69 = .ok (.goto 4, 3) := by decide +kernel
theorem d_Mo_stageTwo_72 : decode c_Mo_stageTwo 72 = .ok (.iconst 0, 1) := by decide +kernel
theorem d_Mo_stageTwo_73 : decode c_Mo_stageTwo 73 = .ok (.bastore, 1) := by decide +kernel
theorem d_Mo_stageTwo_74 : decode c_Mo_stageTwo 74 = .ok (.iload_n 2, 1) := by decide +kernel
theorem d_Mo_stageTwo_75 : decode c_Mo_stageTwo 75 = .ok (.ifCond .ne 12, 3) := by decide +kernel
theorem d_Mo_stageTwo_78 : decode c_Mo_stageTwo 78 = .ok (.aload_n 0, 1) := by decide +kernel
theorem d_Mo_stageTwo_79 : decode c_Mo_stageTwo 79 = .ok (.getfield 108, 3) := by decide +kernel
theorem d_Mo_stageTwo_82 : decode c_Mo_stageTwo 82 = .ok (.iload_n 3, 1) := by decide +kernel
theorem d_Mo_stageTwo_83 : decode c_Mo_stageTwo 83 = .ok (.baload, 1) := by decide +kernel
theorem d_Mo_stageTwo_84 : decode c_Mo_stageTwo 84 = .ok (.ifCond .eq 7, 3) := by decide +kernel
theorem d_Mo_stageTwo_87 : decode c_Mo_stageTwo 87 = .ok (.iconst 1, 1) := by decide +kernel
theorem d_Mo_stageTwo_88 : decode c_Mo_stageTwo 88 = .ok (.goto 4, 3) := by decide +kernel
theorem d_Mo_stageTwo_91 : decode c_Mo_stageTwo 91 = .ok (.iconst 0, 1) := by decide +kernel
theorem d_Mo_stageTwo_92 : decode c_Mo_stageTwo 92 = .ok (.istore_n 2, 1) := by decide +kernel
theorem d_Mo_stageTwo_93 : decode c_Mo_stageTwo 93 = .ok (.iinc 3 1, 3) := by decide +kernel
theorem d_Mo_stageTwo_96 : decode c_Mo_stageTwo 96 = .ok (.goto (-84), 3) := by decide +kernel
theorem d_Mo_stageTwo_99 : decode c_Mo_stageTwo 99 = .ok (.iload_n 2, 1) := by decide +kernel
theorem d_Mo_stageTwo_100 : decode c_Mo_stageTwo 100 = .ok (.ifCond .eq 5, 3) := by decide +kernel
theorem d_Mo_stageTwo_103 : decode c_Mo_stageTwo 103 = .ok (.iconst 0, 1) := by decide +kernel
theorem d_Mo_stageTwo_104 : decode c_Mo_stageTwo 104 = .ok (.ireturn, 1) := by decide +kernel
theorem d_Mo_stageTwo_105 : decode c_Mo_stageTwo 105 = .ok (.aload_n 0, 1) := by decide +kernel
theorem d_Mo_stageTwo_106 : decode c_Mo_stageTwo 106 = .ok (.invokevirtual 205, 3) := by decide +kernel
theorem d_Mo_stageTwo_109 : decode c_Mo_stageTwo 109 = .ok (.istore_n 3, 1) := by decide +kernel
theorem d_Mo_stageTwo_110 : decode c_Mo_stageTwo 110 = .ok (.iload_n 3, 1) := by decide +kernel
theorem d_Mo_stageTwo_111 : decode c_Mo_stageTwo 111 = .ok (.ifCond .ge 6, 3) := by decide +kernel
theorem d_Mo_stageTwo_114 : decode c_Mo_stageTwo 114 = .ok (.bipush 8, 2) := by decide +kernel
theorem d_Mo_stageTwo_116 : decode c_Mo_stageTwo 116 = .ok (.ireturn, 1) := by decide +kernel
theorem d_Mo_stageTwo_117 : decode c_Mo_stageTwo 117 = .ok (.iload_n 3, 1) := by decide +kernel
theorem d_Mo_stageTwo_118 : decode c_Mo_stageTwo 118 = .ok (.bipush 18, 2) := by decide +kernel
theorem d_Mo_stageTwo_120 : decode c_Mo_stageTwo 120 = .ok (.if_icmp .ge 76, 3) := by decide +kernel
theorem d_Mo_stageTwo_123 : decode c_Mo_stageTwo 123 = .ok (.iconst 0, 1) := by decide +kernel
theorem d_Mo_stageTwo_124 : decode c_Mo_stageTwo 124 = .ok (.istore 4, 2) := by decide +kernel
theorem d_Mo_stageTwo_126 : decode c_Mo_stageTwo 126 = .ok (.iload 4, 2) := by decide +kernel
theorem d_Mo_stageTwo_128 : decode c_Mo_stageTwo 128 = .ok (.aload_n 0, 1) := by decide +kernel
theorem d_Mo_stageTwo_129 : decode c_Mo_stageTwo 129 = .ok (.getfield 175, 3) := by decide +kernel
theorem d_Mo_stageTwo_132 : decode c_Mo_stageTwo 132 = .ok (.if_icmp .ge 49, 3) := by decide +kernel
theorem d_Mo_stageTwo_135 : decode c_Mo_stageTwo 135 = .ok (.aload_n 0, 1) := by decide +kernel
theorem d_Mo_stageTwo_136 : decode c_Mo_stageTwo 136 = .ok (.getfield 108, 3) := by decide +kernel
theorem d_Mo_stageTwo_139 : decode c_Mo_stageTwo 139 = .ok (.iload 4, 2) := by decide +kernel
theorem d_Mo_stageTwo_141 : decode c_Mo_stageTwo 141 = .ok (.aload_n 0, 1) := by decide +kernel
theorem d_Mo_stageTwo_142 : decode c_Mo_stageTwo 142 = .ok (.getfield 105, 3) := by decide +kernel
theorem d_Mo_stageTwo_145 : decode c_Mo_stageTwo 145 = .ok (.aload_n 0, 1) := by decide +kernel
theorem d_Mo_stageTwo_146 : decode c_Mo_stageTwo 146 = .ok (.getfield 20, 3) := by decide +kernel
theorem d_Mo_stageTwo_149 : decode c_Mo_stageTwo 149 = .ok (.iload 4, 2) := by decide +kernel
theorem d_Mo_stageTwo_151 : decode c_Mo_stageTwo 151 = .ok (.iaload, 1) := by decide +kernel
theorem d_Mo_stageTwo_152 : decode c_Mo_stageTwo 152 = .ok (.baload, 1) := by decide +kernel
theorem d_Mo_stageTwo_153 : decode c_Mo_stageTwo 153 = .ok (.ifCond .eq 20, 3) := by decide +kernel
theorem d_Mo_stageTwo_156 : decode c_Mo_stageTwo 156 = .ok (.aload_n 0, 1) := by decide +kernel
theorem d_Mo_stageTwo_157 : decode c_Mo_stageTwo 157 = .ok (.bipush 6, 2) := by decide +kernel
theorem d_Mo_stageTwo_159 : decode c_Mo_stageTwo 159 = .ok (.iload 4, 2) := by decide +kernel
theorem d_Mo_stageTwo_161 : decode c_Mo_stageTwo 161 = .ok (.iadd, 1) := by decide +kernel
theorem d_Mo_stageTwo_162 : decode c_Mo_stageTwo 162 = .ok (.iload_n 3, 1) := by decide +kernel
theorem d_Mo_stageTwo_163 : decode c_Mo_stageTwo 163 = .ok (.invokevirtual 196, 3) := by decide +kernel
theorem d_Mo_stageTwo_166 : decode c_Mo_stageTwo 166 = .ok (.ifCond .eq 7, 3) := by decide +kernel
theorem d_Mo_stageTwo_169 : decode c_Mo_stageTwo 169 = .ok (.iconst 1, 1) := by decide +kernel
theorem d_Mo_stageTwo_170 : decode c_Mo_stageTwo 170 = .ok (.goto 4, 3) := by decide +kernel
theorem d_Mo_stageTwo_173 : decode c_Mo_stageTwo 173 = .ok (.iconst 0, 1) := by decide +kernel
theorem d_Mo_stageTwo_174 : decode c_Mo_stageTwo 174 = .ok (.bastore, 1) := by decide +kernel
theorem d_Mo_stageTwo_175 : decode c_Mo_stageTwo 175 = .ok (.iinc 4 1, 3) := by decide +kernel
theorem d_Mo_stageTwo_178 : decode c_Mo_stageTwo 178 = .ok (.goto (-52), 3) := by decide +kernel
theorem d_Mo_stageTwo_181 : decode c_Mo_stageTwo 181 = .ok (.aload_n 0, 1) := by decide +kernel
theorem d_Mo_stageTwo_182 : decode c_Mo_stageTwo 182 = .ok (.aload_n 0, 1) := by decide +kernel
theorem d_Mo_stageTwo_183 : decode c_Mo_stageTwo 183 = .ok (.iload_n 3, 1) := by decide +kernel
theorem d_Mo_stageTwo_184 : decode c_Mo_stageTwo 184 = .ok (.aload_n 0, 1) := by decide +kernel
theorem d_Mo_stageTwo_185 : decode c_Mo_stageTwo 185 = .ok (.getfield 202, 3) := by decide +kernel
theorem d_Mo_stageTwo_188 : decode c_Mo_stageTwo 188 = .ok (.invokevirtual 199, 3) := by decide +kernel
theorem d_Mo_stageTwo_191 : decode c_Mo_stageTwo 191 = .ok (.putfield 202, 3) := by decide +kernel
theorem d_Mo_stageTwo_194 : decode c_Mo_stageTwo 194 = .ok (.iconst 0, 1) := by decide +kernel
theorem d_Mo_stageTwo_195 : decode c_Mo_stageTwo 195 = .ok (.ireturn, 1) := by decide +kernel
theorem d_Mo_stageTwo_196 : decode c_Mo_stageTwo 196 = .ok (.aload_n 0, 1) := by decide +kernel
theorem d_Mo_stageTwo_197 : decode c_Mo_stageTwo 197 = .ok (.aload_n 0, 1) := by decide +kernel
theorem d_Mo_stageTwo_198 : decode c_Mo_stageTwo 198 = .ok (.iload_n 3, 1) := by decide +kernel
theorem d_Mo_stageTwo_199 : decode c_Mo_stageTwo 199 = .ok (.aload_n 0, 1) := by decide +kernel
theorem d_Mo_stageTwo_200 : decode c_Mo_stageTwo 200 = .ok (.getfield 202, 3) := by decide +kernel
theorem d_Mo_stageTwo_203 : decode c_Mo_stageTwo 203 = .ok (.invokevirtual 199, 3) := by decide +kernel
theorem d_Mo_stageTwo_206 : decode c_Mo_stageTwo 206 = .ok (.putfield 202, 3) := by decide +kernel
theorem d_Mo_stageTwo_209 : decode c_Mo_stageTwo 209 = .ok (.aload_n 0, 1) := by decide +kernel
theorem d_Mo_stageTwo_210 : decode c_Mo_stageTwo 210 = .ok (.getfield 47, 3) := by decide +kernel
theorem d_Mo_stageTwo_213 : decode c_Mo_stageTwo 213 = .ok (.iload_n 3, 1) := by decide +kernel
theorem d_Mo_stageTwo_214 : decode c_Mo_stageTwo 214 = .ok (.bipush 18, 2) := by decide +kernel
theorem d_Mo_stageTwo_216 : decode c_Mo_stageTwo 216 = .ok (.isub, 1) := by decide +kernel
theorem d_Mo_stageTwo_217 : decode c_Mo_stageTwo 217 = .ok (.iaload, 1) := by decide +kernel
theorem d_Mo_stageTwo_218 : decode c_Mo_stageTwo 218 = .ok (.istore 4, 2) := by decide +kernel
theorem d_Mo_stageTwo_220 : decode c_Mo_stageTwo 220 = .ok (.aload_n 0, 1) := by decide +kernel
theorem d_Mo_stageTwo_221 : decode c_Mo_stageTwo 221 = .ok (.getfield 81, 3) := by decide +kernel
theorem d_Mo_stageTwo_224 : decode c_Mo_stageTwo 224 = .ok (.aload_n 0, 1) := by decide +kernel
theorem d_Mo_stageTwo_225 : decode c_Mo_stageTwo 225 = .ok (.getfield 209, 3) := by decide +kernel
theorem d_Mo_stageTwo_228 : decode c_Mo_stageTwo 228 = .ok (.iload 4, 2) := by decide +kernel
theorem d_Mo_stageTwo_230 : decode c_Mo_stageTwo 230 = .ok (.iastore, 1) := by decide +kernel
theorem d_Mo_stageTwo_231 : decode c_Mo_stageTwo 231 = .ok (.aload_n 0, 1) := by decide +kernel
theorem d_Mo_stageTwo_232 : decode c_Mo_stageTwo 232 = .ok (.dup, 1) := by decide +kernel
theorem d_Mo_stageTwo_233 : decode c_Mo_stageTwo 233 = .ok (.getfield 209, 3) := by decide +kernel
theorem d_Mo_stageTwo_236 : decode c_Mo_stageTwo 236 = .ok (.iconst 1, 1) := by decide +kernel
theorem d_Mo_stageTwo_237 : decode c_Mo_stageTwo 237 = .ok (.iadd, 1) := by decide +kernel
theorem d_Mo_stageTwo_238 : decode c_Mo_stageTwo 238 = .ok (.putfield 209, 3) := by decide +kernel
theorem d_Mo_stageTwo_241 : decode c_Mo_stageTwo 241 = .ok (.iconst 0, 1) := by decide +kernel
theorem d_Mo_stageTwo_242 : decode c_Mo_stageTwo 242 = .ok (.istore 5, 2) := by decide +kernel
theorem d_Mo_stageTwo_244 : decode c_Mo_stageTwo 244 = .ok (.iload 5, 2) := by decide +kernel
theorem d_Mo_stageTwo_246 : decode c_Mo_stageTwo 246 = .ok (.bipush 6, 2) := by decide +kernel
theorem d_Mo_stageTwo_248 : decode c_Mo_stageTwo 248 = .ok (.if_icmp .ge 28, 3) := by decide +kernel
theorem d_Mo_stageTwo_251 : decode c_Mo_stageTwo 251 = .ok (.aload_n 0, 1) := by decide +kernel
theorem d_Mo_stageTwo_252 : decode c_Mo_stageTwo 252 = .ok (.getfield 105, 3) := by decide +kernel
theorem d_Mo_stageTwo_255 : decode c_Mo_stageTwo 255 = .ok (.iload 5, 2) := by decide +kernel
theorem d_Mo_stageTwo_257 : decode c_Mo_stageTwo 257 = .ok (.iload 5, 2) := by decide +kernel
theorem d_Mo_stageTwo_259 : decode c_Mo_stageTwo 259 = .ok (.iload 4, 2) := by decide +kernel
theorem d_Mo_stageTwo_261 : decode c_Mo_stageTwo 261 = .ok (.if_icmp .ne 7, 3) := by decide +kernel
theorem d_Mo_stageTwo_264 : decode c_Mo_stageTwo 264 = .ok (.iconst 1, 1) := by decide +kernel
theorem d_Mo_stageTwo_265 : decode c_Mo_stageTwo 265 = .ok (.goto 4, 3) := by decide +kernel
theorem d_Mo_stageTwo_268 : decode c_Mo_stageTwo 268 = .ok (.iconst 0, 1) := by decide +kernel
theorem d_Mo_stageTwo_269 : decode c_Mo_stageTwo 269 = .ok (.bastore, 1) := by decide +kernel
theorem d_Mo_stageTwo_270 : decode c_Mo_stageTwo 270 = .ok (.iinc 5 1, 3) := by decide +kernel
theorem d_Mo_stageTwo_273 : decode c_Mo_stageTwo 273 = .ok (.goto (-29), 3) := by decide +kernel
theorem d_Mo_stageTwo_276 : decode c_Mo_stageTwo 276 = .ok (.iinc 1 1, 3) := by decide +kernel
theorem d_Mo_stageTwo_279 : decode c_Mo_stageTwo 279 = .ok (.goto (-277), 3) := by decide +kernel
theorem d_Mo_stageTwo_282 : decode c_Mo_stageTwo 282 = .ok (.bipush 8, 2) := by decide +kernel
theorem d_Mo_stageTwo_284 : decode c_Mo_stageTwo 284 = .ok (.ireturn, 1) := by decide +kernel
set_option maxHeartbeats 4000000 in
set_option maxRecDepth 100000 in
theorem sn_Mo_stageTwo_92 {l : Launch} {Γ : gk_G} {p : Program} {e : Env} {s : State} {m : MethodId} {args : Array Value} {below : List Frame} {meth : Method} {c : Code} (B : gk_B p s m args meth c gk_Y Γ c_Mo_stageTwo 6 "StageDispatcherModel") (hr : meth.sig.returnType = (some .int)) {ρ : Int32 × gk_M} {k2 : Option Nat → Int32 → gk_M → Option (Int32 × gk_M)} {k12 : Option Nat → Int32 → Int32 → Int32 → gk_M → Option (Int32 × gk_M)} (H2 : ∀ (a0 : Option Nat) (x1 : Int32) (M : gk_M), k2 a0 x1 M = some ρ → Gk p l e rm_Mo_stageTwo s m args below meth c gk_Y Γ 6 (MQ below (gk_Q gk_Y Γ (some (.int ρ.1)) ρ.2) args s rm_Mo_stageTwo.cells rm_Mo_stageTwo.slots (fun q => Γ.2.2 ≤ q)) 0 0 M 2 [some (va_rf a0), some (.int x1), none, none, none, none] []) (H12 : ∀ (a0 : Option Nat) (x1 : Int32) (x2 : Int32) (x3 : Int32) (M : gk_M), k12 a0 x1 x2 x3 M = some ρ → Gk p l e rm_Mo_stageTwo s m args below meth c gk_Y Γ 6 (MQ below (gk_Q gk_Y Γ (some (.int ρ.1)) ρ.2) args s rm_Mo_stageTwo.cells rm_Mo_stageTwo.slots (fun q => Γ.2.2 ≤ q)) 0 0 M 12 [some (va_rf a0), some (.int x1), some (.int x2), some (.int x3), none, none] []) {a0 : Option Nat} {x1 : Int32} {x3 : Int32} {s0 : Int32} {M : gk_M} (h : fn_Mo_stageTwo_92 k2 k12 a0 x1 x3 s0 M = some ρ) : Gk p l e rm_Mo_stageTwo s m args below meth c gk_Y Γ 6 (MQ below (gk_Q gk_Y Γ (some (.int ρ.1)) ρ.2) args s rm_Mo_stageTwo.cells rm_Mo_stageTwo.slots (fun q => Γ.2.2 ≤ q)) 0 0 M 92 [some (va_rf a0), some (.int x1), none, some (.int x3), none, none] [.int s0] := by
  unfold fn_Mo_stageTwo_92 at h
  refine Gk_istore_n (i := 2) (L' := [some (va_rf a0), some (.int x1), some (.int s0), some (.int x3), none, none]) B d_Mo_stageTwo_92 rfl (by decide) (gk_c1_i rfl) rfl ?_
  refine Gk_iinc (x := x3) (v := (x3 + 1)) (L' := [some (va_rf a0), some (.int x1), some (.int s0), some (.int (x3 + 1)), none, none]) B d_Mo_stageTwo_93 rfl (congrArg (fun z => x3 + z) (by decide : Int32.ofInt 1 = 1)) (by decide) (gk_c1_i rfl) rfl ?_
  refine Gk_goto (tgt := 12) B d_Mo_stageTwo_96 rfl ?_
  exact H12 a0 x1 s0 (x3 + 1) M h
set_option maxHeartbeats 4000000 in
set_option maxRecDepth 100000 in
theorem sn_Mo_stageTwo_87 {l : Launch} {Γ : gk_G} {p : Program} {e : Env} {s : State} {m : MethodId} {args : Array Value} {below : List Frame} {meth : Method} {c : Code} (B : gk_B p s m args meth c gk_Y Γ c_Mo_stageTwo 6 "StageDispatcherModel") (hr : meth.sig.returnType = (some .int)) {ρ : Int32 × gk_M} {k2 : Option Nat → Int32 → gk_M → Option (Int32 × gk_M)} {k12 : Option Nat → Int32 → Int32 → Int32 → gk_M → Option (Int32 × gk_M)} (H2 : ∀ (a0 : Option Nat) (x1 : Int32) (M : gk_M), k2 a0 x1 M = some ρ → Gk p l e rm_Mo_stageTwo s m args below meth c gk_Y Γ 6 (MQ below (gk_Q gk_Y Γ (some (.int ρ.1)) ρ.2) args s rm_Mo_stageTwo.cells rm_Mo_stageTwo.slots (fun q => Γ.2.2 ≤ q)) 0 0 M 2 [some (va_rf a0), some (.int x1), none, none, none, none] []) (H12 : ∀ (a0 : Option Nat) (x1 : Int32) (x2 : Int32) (x3 : Int32) (M : gk_M), k12 a0 x1 x2 x3 M = some ρ → Gk p l e rm_Mo_stageTwo s m args below meth c gk_Y Γ 6 (MQ below (gk_Q gk_Y Γ (some (.int ρ.1)) ρ.2) args s rm_Mo_stageTwo.cells rm_Mo_stageTwo.slots (fun q => Γ.2.2 ≤ q)) 0 0 M 12 [some (va_rf a0), some (.int x1), some (.int x2), some (.int x3), none, none] []) {a0 : Option Nat} {x1 : Int32} {x3 : Int32} {M : gk_M} (h : fn_Mo_stageTwo_87 k2 k12 a0 x1 x3 M = some ρ) : Gk p l e rm_Mo_stageTwo s m args below meth c gk_Y Γ 6 (MQ below (gk_Q gk_Y Γ (some (.int ρ.1)) ρ.2) args s rm_Mo_stageTwo.cells rm_Mo_stageTwo.slots (fun q => Γ.2.2 ≤ q)) 0 0 M 87 [some (va_rf a0), some (.int x1), none, some (.int x3), none, none] [] := by
  unfold fn_Mo_stageTwo_87 at h
  refine Gk_iconst (v := 1) B d_Mo_stageTwo_87 (by decide) ?_
  refine Gk_goto (tgt := 92) B d_Mo_stageTwo_88 rfl ?_
  exact sn_Mo_stageTwo_92 B hr H2 H12 h
set_option maxHeartbeats 4000000 in
set_option maxRecDepth 100000 in
theorem sn_Mo_stageTwo_73 {l : Launch} {Γ : gk_G} {p : Program} {e : Env} {s : State} {m : MethodId} {args : Array Value} {below : List Frame} {meth : Method} {c : Code} (B : gk_B p s m args meth c gk_Y Γ c_Mo_stageTwo 6 "StageDispatcherModel") (hr : meth.sig.returnType = (some .int)) {ρ : Int32 × gk_M} {k2 : Option Nat → Int32 → gk_M → Option (Int32 × gk_M)} {k12 : Option Nat → Int32 → Int32 → Int32 → gk_M → Option (Int32 × gk_M)} (H2 : ∀ (a0 : Option Nat) (x1 : Int32) (M : gk_M), k2 a0 x1 M = some ρ → Gk p l e rm_Mo_stageTwo s m args below meth c gk_Y Γ 6 (MQ below (gk_Q gk_Y Γ (some (.int ρ.1)) ρ.2) args s rm_Mo_stageTwo.cells rm_Mo_stageTwo.slots (fun q => Γ.2.2 ≤ q)) 0 0 M 2 [some (va_rf a0), some (.int x1), none, none, none, none] []) (H12 : ∀ (a0 : Option Nat) (x1 : Int32) (x2 : Int32) (x3 : Int32) (M : gk_M), k12 a0 x1 x2 x3 M = some ρ → Gk p l e rm_Mo_stageTwo s m args below meth c gk_Y Γ 6 (MQ below (gk_Q gk_Y Γ (some (.int ρ.1)) ρ.2) args s rm_Mo_stageTwo.cells rm_Mo_stageTwo.slots (fun q => Γ.2.2 ≤ q)) 0 0 M 12 [some (va_rf a0), some (.int x1), some (.int x2), some (.int x3), none, none] []) {a0 : Option Nat} {x1 : Int32} {x2 : Int32} {x3 : Int32} {s0 : Option Nat} {s1 : Int32} {s2 : Int32} {M : gk_M} (h : fn_Mo_stageTwo_73 k2 k12 a0 x1 x2 x3 s0 s1 s2 M = some ρ) : Gk p l e rm_Mo_stageTwo s m args below meth c gk_Y Γ 6 (MQ below (gk_Q gk_Y Γ (some (.int ρ.1)) ρ.2) args s rm_Mo_stageTwo.cells rm_Mo_stageTwo.slots (fun q => Γ.2.2 ≤ q)) 0 0 M 73 [some (va_rf a0), some (.int x1), some (.int x2), some (.int x3), none, none] [.int s2, .int s1, va_rf s0] := by
  unfold fn_Mo_stageTwo_73 at h
  obtain ⟨M73, h73, h⟩ := gk_bind h
  refine Gk_zastore B d_Mo_stageTwo_73 ty_2 h73 ?_
  refine Gk_iload_n (i := 2) (x := x2) B d_Mo_stageTwo_74 rfl rfl ?_
  refine Gk_if_ne (tgt := 87) B d_Mo_stageTwo_75 rfl (fun c75 => ?_) (fun c75 => ?_)
  · rw [if_neg c75] at h
    refine Gk_weak [true, true, false, true, false, false] (L' := [some (va_rf a0), some (.int x1), none, some (.int x3), none, none]) rfl ?_
    exact sn_Mo_stageTwo_87 B hr H2 H12 h
  rw [if_pos c75] at h
  refine Gk_aload_n (i := 0) (r := a0) B d_Mo_stageTwo_78 rfl rfl ?_
  obtain ⟨v79, h79, h⟩ := gk_bind h
  refine Gk_getR (j := 54) B d_Mo_stageTwo_79 in_Mo cl_Mo (by decide) tw_809 rfl h79 ?_
  refine Gk_iload_n (i := 3) (x := x3) B d_Mo_stageTwo_82 rfl rfl ?_
  obtain ⟨v83, h83, h⟩ := gk_bind h
  refine Gk_zaload B d_Mo_stageTwo_83 ty_2 h83 ?_
  refine Gk_if_eq (tgt := 91) B d_Mo_stageTwo_84 rfl (fun c84 => ?_) (fun c84 => ?_)
  · rw [if_pos c84] at h
    refine Gk_iconst (v := 0) B d_Mo_stageTwo_91 (by decide) ?_
    refine Gk_weak [true, true, false, true, false, false] (L' := [some (va_rf a0), some (.int x1), none, some (.int x3), none, none]) rfl ?_
    exact sn_Mo_stageTwo_92 B hr H2 H12 h
  rw [if_neg c84] at h
  refine Gk_weak [true, true, false, true, false, false] (L' := [some (va_rf a0), some (.int x1), none, some (.int x3), none, none]) rfl ?_
  exact sn_Mo_stageTwo_87 B hr H2 H12 h
set_option maxHeartbeats 4000000 in
set_option maxRecDepth 100000 in
theorem sn_Mo_stageTwo_72 {l : Launch} {Γ : gk_G} {p : Program} {e : Env} {s : State} {m : MethodId} {args : Array Value} {below : List Frame} {meth : Method} {c : Code} (B : gk_B p s m args meth c gk_Y Γ c_Mo_stageTwo 6 "StageDispatcherModel") (hr : meth.sig.returnType = (some .int)) {ρ : Int32 × gk_M} {k2 : Option Nat → Int32 → gk_M → Option (Int32 × gk_M)} {k12 : Option Nat → Int32 → Int32 → Int32 → gk_M → Option (Int32 × gk_M)} (H2 : ∀ (a0 : Option Nat) (x1 : Int32) (M : gk_M), k2 a0 x1 M = some ρ → Gk p l e rm_Mo_stageTwo s m args below meth c gk_Y Γ 6 (MQ below (gk_Q gk_Y Γ (some (.int ρ.1)) ρ.2) args s rm_Mo_stageTwo.cells rm_Mo_stageTwo.slots (fun q => Γ.2.2 ≤ q)) 0 0 M 2 [some (va_rf a0), some (.int x1), none, none, none, none] []) (H12 : ∀ (a0 : Option Nat) (x1 : Int32) (x2 : Int32) (x3 : Int32) (M : gk_M), k12 a0 x1 x2 x3 M = some ρ → Gk p l e rm_Mo_stageTwo s m args below meth c gk_Y Γ 6 (MQ below (gk_Q gk_Y Γ (some (.int ρ.1)) ρ.2) args s rm_Mo_stageTwo.cells rm_Mo_stageTwo.slots (fun q => Γ.2.2 ≤ q)) 0 0 M 12 [some (va_rf a0), some (.int x1), some (.int x2), some (.int x3), none, none] []) {a0 : Option Nat} {x1 : Int32} {x2 : Int32} {x3 : Int32} {s0 : Option Nat} {s1 : Int32} {M : gk_M} (h : fn_Mo_stageTwo_72 k2 k12 a0 x1 x2 x3 s0 s1 M = some ρ) : Gk p l e rm_Mo_stageTwo s m args below meth c gk_Y Γ 6 (MQ below (gk_Q gk_Y Γ (some (.int ρ.1)) ρ.2) args s rm_Mo_stageTwo.cells rm_Mo_stageTwo.slots (fun q => Γ.2.2 ≤ q)) 0 0 M 72 [some (va_rf a0), some (.int x1), some (.int x2), some (.int x3), none, none] [.int s1, va_rf s0] := by
  unfold fn_Mo_stageTwo_72 at h
  refine Gk_iconst (v := 0) B d_Mo_stageTwo_72 (by decide) ?_
  exact sn_Mo_stageTwo_73 B hr H2 H12 h
set_option maxHeartbeats 4000000 in
set_option maxRecDepth 100000 in
theorem sn_Mo_stageTwo_174 {l : Launch} {Γ : gk_G} {p : Program} {e : Env} {s : State} {m : MethodId} {args : Array Value} {below : List Frame} {meth : Method} {c : Code} (B : gk_B p s m args meth c gk_Y Γ c_Mo_stageTwo 6 "StageDispatcherModel") (hr : meth.sig.returnType = (some .int)) {ρ : Int32 × gk_M} {k126 : Option Nat → Int32 → Int32 → gk_M → Option (Int32 × gk_M)} (H126 : ∀ (a0 : Option Nat) (x3 : Int32) (x4 : Int32) (M : gk_M), k126 a0 x3 x4 M = some ρ → Gk p l e rm_Mo_stageTwo s m args below meth c gk_Y Γ 6 (MQ below (gk_Q gk_Y Γ (some (.int ρ.1)) ρ.2) args s rm_Mo_stageTwo.cells rm_Mo_stageTwo.slots (fun q => Γ.2.2 ≤ q)) 0 0 M 126 [some (va_rf a0), none, none, some (.int x3), some (.int x4), none] []) {a0 : Option Nat} {x3 : Int32} {x4 : Int32} {s0 : Option Nat} {s1 : Int32} {s2 : Int32} {M : gk_M} (h : fn_Mo_stageTwo_174 k126 a0 x3 x4 s0 s1 s2 M = some ρ) : Gk p l e rm_Mo_stageTwo s m args below meth c gk_Y Γ 6 (MQ below (gk_Q gk_Y Γ (some (.int ρ.1)) ρ.2) args s rm_Mo_stageTwo.cells rm_Mo_stageTwo.slots (fun q => Γ.2.2 ≤ q)) 0 0 M 174 [some (va_rf a0), none, none, some (.int x3), some (.int x4), none] [.int s2, .int s1, va_rf s0] := by
  unfold fn_Mo_stageTwo_174 at h
  obtain ⟨M174, h174, h⟩ := gk_bind h
  refine Gk_zastore B d_Mo_stageTwo_174 ty_2 h174 ?_
  refine Gk_iinc (x := x4) (v := (x4 + 1)) (L' := [some (va_rf a0), none, none, some (.int x3), some (.int (x4 + 1)), none]) B d_Mo_stageTwo_175 rfl (congrArg (fun z => x4 + z) (by decide : Int32.ofInt 1 = 1)) (by decide) (gk_c1_i rfl) rfl ?_
  refine Gk_goto (tgt := 126) B d_Mo_stageTwo_178 rfl ?_
  exact H126 a0 x3 (x4 + 1) M174 h
set_option maxHeartbeats 4000000 in
set_option maxRecDepth 100000 in
theorem sn_Mo_stageTwo_173 {l : Launch} {Γ : gk_G} {p : Program} {e : Env} {s : State} {m : MethodId} {args : Array Value} {below : List Frame} {meth : Method} {c : Code} (B : gk_B p s m args meth c gk_Y Γ c_Mo_stageTwo 6 "StageDispatcherModel") (hr : meth.sig.returnType = (some .int)) {ρ : Int32 × gk_M} {k126 : Option Nat → Int32 → Int32 → gk_M → Option (Int32 × gk_M)} (H126 : ∀ (a0 : Option Nat) (x3 : Int32) (x4 : Int32) (M : gk_M), k126 a0 x3 x4 M = some ρ → Gk p l e rm_Mo_stageTwo s m args below meth c gk_Y Γ 6 (MQ below (gk_Q gk_Y Γ (some (.int ρ.1)) ρ.2) args s rm_Mo_stageTwo.cells rm_Mo_stageTwo.slots (fun q => Γ.2.2 ≤ q)) 0 0 M 126 [some (va_rf a0), none, none, some (.int x3), some (.int x4), none] []) {a0 : Option Nat} {x3 : Int32} {x4 : Int32} {s0 : Option Nat} {s1 : Int32} {M : gk_M} (h : fn_Mo_stageTwo_173 k126 a0 x3 x4 s0 s1 M = some ρ) : Gk p l e rm_Mo_stageTwo s m args below meth c gk_Y Γ 6 (MQ below (gk_Q gk_Y Γ (some (.int ρ.1)) ρ.2) args s rm_Mo_stageTwo.cells rm_Mo_stageTwo.slots (fun q => Γ.2.2 ≤ q)) 0 0 M 173 [some (va_rf a0), none, none, some (.int x3), some (.int x4), none] [.int s1, va_rf s0] := by
  unfold fn_Mo_stageTwo_173 at h
  refine Gk_iconst (v := 0) B d_Mo_stageTwo_173 (by decide) ?_
  exact sn_Mo_stageTwo_174 B hr H126 h
set_option maxHeartbeats 4000000 in
set_option maxRecDepth 100000 in
theorem sn_Mo_stageTwo_126_bd {l : Launch} {Γ : gk_G} {p : Program} {e : Env} {s : State} {m : MethodId} {args : Array Value} {below : List Frame} {meth : Method} {c : Code} (B : gk_B p s m args meth c gk_Y Γ c_Mo_stageTwo 6 "StageDispatcherModel") (hr : meth.sig.returnType = (some .int)) {ρ : Int32 × gk_M} {k126 : Option Nat → Int32 → Int32 → gk_M → Option (Int32 × gk_M)} (H126 : ∀ (a0 : Option Nat) (x3 : Int32) (x4 : Int32) (M : gk_M), k126 a0 x3 x4 M = some ρ → Gk p l e rm_Mo_stageTwo s m args below meth c gk_Y Γ 6 (MQ below (gk_Q gk_Y Γ (some (.int ρ.1)) ρ.2) args s rm_Mo_stageTwo.cells rm_Mo_stageTwo.slots (fun q => Γ.2.2 ≤ q)) 0 0 M 126 [some (va_rf a0), none, none, some (.int x3), some (.int x4), none] []) {a0 : Option Nat} {x3 : Int32} {x4 : Int32} {M : gk_M} (h : fn_Mo_stageTwo_126_bd k126 a0 x3 x4 M = some ρ) : Gk p l e rm_Mo_stageTwo s m args below meth c gk_Y Γ 6 (MQ below (gk_Q gk_Y Γ (some (.int ρ.1)) ρ.2) args s rm_Mo_stageTwo.cells rm_Mo_stageTwo.slots (fun q => Γ.2.2 ≤ q)) 0 0 M 126 [some (va_rf a0), none, none, some (.int x3), some (.int x4), none] [] := by
  unfold fn_Mo_stageTwo_126_bd at h
  refine Gk_iload (x := x4) B d_Mo_stageTwo_126 rfl ?_
  refine Gk_aload_n (i := 0) (r := a0) B d_Mo_stageTwo_128 rfl rfl ?_
  obtain ⟨v129, h129, h⟩ := gk_bind h
  refine Gk_getI (j := 5) B d_Mo_stageTwo_129 in_Mo cl_Mo (by decide) tw_760 rfl h129 ?_
  refine Gk_icmp_ge (tgt := 181) B d_Mo_stageTwo_132 rfl (fun c132 => ?_) (fun c132 => ?_)
  · rw [if_pos c132] at h
    refine Gk_aload_n (i := 0) (r := a0) B d_Mo_stageTwo_181 rfl rfl ?_
    refine Gk_aload_n (i := 0) (r := a0) B d_Mo_stageTwo_182 rfl rfl ?_
    refine Gk_iload_n (i := 3) (x := x3) B d_Mo_stageTwo_183 rfl rfl ?_
    refine Gk_aload_n (i := 0) (r := a0) B d_Mo_stageTwo_184 rfl rfl ?_
    obtain ⟨v185, h185, h⟩ := gk_bind h
    refine Gk_getI (j := 34) B d_Mo_stageTwo_185 in_Mo cl_Mo (by decide) tw_789 rfl h185 ?_
    obtain ⟨o188, g188, h⟩ := gk_bind h
    obtain ⟨w188, h188, h⟩ := gk_bind h
    refine Gk_callV (As := [.int x3, .int v185]) (rest := [va_rf a0]) (st1 := [.int w188.1, va_rf a0]) (k1 := 0) (n1 := 0) B gk_hG d_Mo_stageTwo_188 (sn_Mo_count h188) g188 cl_Mo tw_1036 tw_1033 tw_1035 tw_28 tw_48 nm_Mo_count rfl (by simp [gk_rc, gk_ic, gk_jc, rm_Mo_stageTwo]) ⟨by decide, by decide⟩ ⟨by decide, by decide⟩ rfl rfl rfl rfl ?_
    obtain ⟨M191, h191, h⟩ := gk_bind h
    refine Gk_put (j := 34) (ty := .int) B d_Mo_stageTwo_191 in_Mo t_Mo t_Mo_ok n_Mo cl_Mo (by decide) tw_789 rfl rfl rfl rfl rfl h191 ?_
    refine Gk_iconst (v := 0) B d_Mo_stageTwo_194 (by decide) ?_
    cases h
    exact Gk_iret B hr d_Mo_stageTwo_195 rfl (by decide) (by decide) rfl
  rw [if_neg c132] at h
  refine Gk_aload_n (i := 0) (r := a0) B d_Mo_stageTwo_135 rfl rfl ?_
  obtain ⟨v136, h136, h⟩ := gk_bind h
  refine Gk_getR (j := 54) B d_Mo_stageTwo_136 in_Mo cl_Mo (by decide) tw_809 rfl h136 ?_
  refine Gk_iload (x := x4) B d_Mo_stageTwo_139 rfl ?_
  refine Gk_aload_n (i := 0) (r := a0) B d_Mo_stageTwo_141 rfl rfl ?_
  obtain ⟨v142, h142, h⟩ := gk_bind h
  refine Gk_getR (j := 53) B d_Mo_stageTwo_142 in_Mo cl_Mo (by decide) tw_808 rfl h142 ?_
  refine Gk_aload_n (i := 0) (r := a0) B d_Mo_stageTwo_145 rfl rfl ?_
  obtain ⟨v146, h146, h⟩ := gk_bind h
  refine Gk_getR (j := 6) B d_Mo_stageTwo_146 in_Mo cl_Mo (by decide) tw_761 rfl h146 ?_
  refine Gk_iload (x := x4) B d_Mo_stageTwo_149 rfl ?_
  obtain ⟨v151, h151, h⟩ := gk_bind h
  refine Gk_iaload B d_Mo_stageTwo_151 ty_0 h151 ?_
  obtain ⟨v152, h152, h⟩ := gk_bind h
  refine Gk_zaload B d_Mo_stageTwo_152 ty_2 h152 ?_
  refine Gk_if_eq (tgt := 173) B d_Mo_stageTwo_153 rfl (fun c153 => ?_) (fun c153 => ?_)
  · rw [if_pos c153] at h
    exact sn_Mo_stageTwo_173 B hr H126 h
  rw [if_neg c153] at h
  refine Gk_aload_n (i := 0) (r := a0) B d_Mo_stageTwo_156 rfl rfl ?_
  refine Gk_bipush (v := 6) B d_Mo_stageTwo_157 (by decide) ?_
  refine Gk_iload (x := x4) B d_Mo_stageTwo_159 rfl ?_
  refine Gk_iadd B d_Mo_stageTwo_161 ?_
  refine Gk_iload_n (i := 3) (x := x3) B d_Mo_stageTwo_162 rfl rfl ?_
  obtain ⟨o163, g163, h⟩ := gk_bind h
  obtain ⟨w163, h163, h⟩ := gk_bind h
  refine Gk_callV (As := [.int ((6 : Int32) + x4), .int x3]) (rest := [.int x4, va_rf v136]) (st1 := [.int w163.1, .int x4, va_rf v136]) (k1 := 0) (n1 := 0) B gk_hG d_Mo_stageTwo_163 (sn_Mo_same h163) g163 cl_Mo tw_1032 tw_1029 tw_1031 tw_27 tw_48 nm_Mo_same rfl (by simp [gk_rc, gk_ic, gk_jc, rm_Mo_stageTwo]) ⟨by decide, by decide⟩ ⟨by decide, by decide⟩ rfl rfl rfl rfl ?_
  refine Gk_if_eq (tgt := 173) B d_Mo_stageTwo_166 rfl (fun c166 => ?_) (fun c166 => ?_)
  · rw [if_pos c166] at h
    exact sn_Mo_stageTwo_173 B hr H126 h
  rw [if_neg c166] at h
  refine Gk_iconst (v := 1) B d_Mo_stageTwo_169 (by decide) ?_
  refine Gk_goto (tgt := 174) B d_Mo_stageTwo_170 rfl ?_
  exact sn_Mo_stageTwo_174 B hr H126 h
set_option maxHeartbeats 4000000 in
set_option maxRecDepth 100000 in
theorem sn_Mo_stageTwo_126 {l : Launch} {Γ : gk_G} {p : Program} {e : Env} {s : State} {m : MethodId} {args : Array Value} {below : List Frame} {meth : Method} {c : Code} (B : gk_B p s m args meth c gk_Y Γ c_Mo_stageTwo 6 "StageDispatcherModel") (hr : meth.sig.returnType = (some .int)) {ρ : Int32 × gk_M}   {a0 : Option Nat} {x3 : Int32} {x4 : Int32} {M : gk_M} (h : fn_Mo_stageTwo_126  a0 x3 x4 M = some ρ) : Gk p l e rm_Mo_stageTwo s m args below meth c gk_Y Γ 6 (MQ below (gk_Q gk_Y Γ (some (.int ρ.1)) ρ.2) args s rm_Mo_stageTwo.cells rm_Mo_stageTwo.slots (fun q => Γ.2.2 ≤ q)) 0 0 M 126 [some (va_rf a0), none, none, some (.int x3), some (.int x4), none] [] := by
  unfold fn_Mo_stageTwo_126 at h
  exact gk_loop_sound (α := Option Nat × Int32 × Int32 × gk_M) (P := fun a => Gk p l e rm_Mo_stageTwo s m args below meth c gk_Y Γ 6 (MQ below (gk_Q gk_Y Γ (some (.int ρ.1)) ρ.2) args s rm_Mo_stageTwo.cells rm_Mo_stageTwo.slots (fun q => Γ.2.2 ≤ q)) 0 0 a.2.2.2 126 [some (va_rf a.1), none, none, some (.int a.2.1), some (.int a.2.2.1), none] []) (fun kk a Hk hb => sn_Mo_stageTwo_126_bd B hr (fun a0 x3 x4 M hh => Hk (a0, x3, x4, M) hh) hb) _ _ h
set_option maxHeartbeats 4000000 in
set_option maxRecDepth 100000 in
theorem sn_Mo_stageTwo_269 {l : Launch} {Γ : gk_G} {p : Program} {e : Env} {s : State} {m : MethodId} {args : Array Value} {below : List Frame} {meth : Method} {c : Code} (B : gk_B p s m args meth c gk_Y Γ c_Mo_stageTwo 6 "StageDispatcherModel") (hr : meth.sig.returnType = (some .int)) {ρ : Int32 × gk_M} {k2 : Option Nat → Int32 → gk_M → Option (Int32 × gk_M)} {k244 : Option Nat → Int32 → Int32 → Int32 → gk_M → Option (Int32 × gk_M)} (H2 : ∀ (a0 : Option Nat) (x1 : Int32) (M : gk_M), k2 a0 x1 M = some ρ → Gk p l e rm_Mo_stageTwo s m args below meth c gk_Y Γ 6 (MQ below (gk_Q gk_Y Γ (some (.int ρ.1)) ρ.2) args s rm_Mo_stageTwo.cells rm_Mo_stageTwo.slots (fun q => Γ.2.2 ≤ q)) 0 0 M 2 [some (va_rf a0), some (.int x1), none, none, none, none] []) (H244 : ∀ (a0 : Option Nat) (x1 : Int32) (x4 : Int32) (x5 : Int32) (M : gk_M), k244 a0 x1 x4 x5 M = some ρ → Gk p l e rm_Mo_stageTwo s m args below meth c gk_Y Γ 6 (MQ below (gk_Q gk_Y Γ (some (.int ρ.1)) ρ.2) args s rm_Mo_stageTwo.cells rm_Mo_stageTwo.slots (fun q => Γ.2.2 ≤ q)) 0 0 M 244 [some (va_rf a0), some (.int x1), none, none, some (.int x4), some (.int x5)] []) {a0 : Option Nat} {x1 : Int32} {x4 : Int32} {x5 : Int32} {s0 : Option Nat} {s1 : Int32} {s2 : Int32} {M : gk_M} (h : fn_Mo_stageTwo_269 k2 k244 a0 x1 x4 x5 s0 s1 s2 M = some ρ) : Gk p l e rm_Mo_stageTwo s m args below meth c gk_Y Γ 6 (MQ below (gk_Q gk_Y Γ (some (.int ρ.1)) ρ.2) args s rm_Mo_stageTwo.cells rm_Mo_stageTwo.slots (fun q => Γ.2.2 ≤ q)) 0 0 M 269 [some (va_rf a0), some (.int x1), none, none, some (.int x4), some (.int x5)] [.int s2, .int s1, va_rf s0] := by
  unfold fn_Mo_stageTwo_269 at h
  obtain ⟨M269, h269, h⟩ := gk_bind h
  refine Gk_zastore B d_Mo_stageTwo_269 ty_2 h269 ?_
  refine Gk_iinc (x := x5) (v := (x5 + 1)) (L' := [some (va_rf a0), some (.int x1), none, none, some (.int x4), some (.int (x5 + 1))]) B d_Mo_stageTwo_270 rfl (congrArg (fun z => x5 + z) (by decide : Int32.ofInt 1 = 1)) (by decide) (gk_c1_i rfl) rfl ?_
  refine Gk_goto (tgt := 244) B d_Mo_stageTwo_273 rfl ?_
  exact H244 a0 x1 x4 (x5 + 1) M269 h
set_option maxHeartbeats 4000000 in
set_option maxRecDepth 100000 in
theorem sn_Mo_stageTwo_244_bd {l : Launch} {Γ : gk_G} {p : Program} {e : Env} {s : State} {m : MethodId} {args : Array Value} {below : List Frame} {meth : Method} {c : Code} (B : gk_B p s m args meth c gk_Y Γ c_Mo_stageTwo 6 "StageDispatcherModel") (hr : meth.sig.returnType = (some .int)) {ρ : Int32 × gk_M} {k2 : Option Nat → Int32 → gk_M → Option (Int32 × gk_M)} {k244 : Option Nat → Int32 → Int32 → Int32 → gk_M → Option (Int32 × gk_M)} (H2 : ∀ (a0 : Option Nat) (x1 : Int32) (M : gk_M), k2 a0 x1 M = some ρ → Gk p l e rm_Mo_stageTwo s m args below meth c gk_Y Γ 6 (MQ below (gk_Q gk_Y Γ (some (.int ρ.1)) ρ.2) args s rm_Mo_stageTwo.cells rm_Mo_stageTwo.slots (fun q => Γ.2.2 ≤ q)) 0 0 M 2 [some (va_rf a0), some (.int x1), none, none, none, none] []) (H244 : ∀ (a0 : Option Nat) (x1 : Int32) (x4 : Int32) (x5 : Int32) (M : gk_M), k244 a0 x1 x4 x5 M = some ρ → Gk p l e rm_Mo_stageTwo s m args below meth c gk_Y Γ 6 (MQ below (gk_Q gk_Y Γ (some (.int ρ.1)) ρ.2) args s rm_Mo_stageTwo.cells rm_Mo_stageTwo.slots (fun q => Γ.2.2 ≤ q)) 0 0 M 244 [some (va_rf a0), some (.int x1), none, none, some (.int x4), some (.int x5)] []) {a0 : Option Nat} {x1 : Int32} {x4 : Int32} {x5 : Int32} {M : gk_M} (h : fn_Mo_stageTwo_244_bd k2 k244 a0 x1 x4 x5 M = some ρ) : Gk p l e rm_Mo_stageTwo s m args below meth c gk_Y Γ 6 (MQ below (gk_Q gk_Y Γ (some (.int ρ.1)) ρ.2) args s rm_Mo_stageTwo.cells rm_Mo_stageTwo.slots (fun q => Γ.2.2 ≤ q)) 0 0 M 244 [some (va_rf a0), some (.int x1), none, none, some (.int x4), some (.int x5)] [] := by
  unfold fn_Mo_stageTwo_244_bd at h
  refine Gk_iload (x := x5) B d_Mo_stageTwo_244 rfl ?_
  refine Gk_bipush (v := 6) B d_Mo_stageTwo_246 (by decide) ?_
  refine Gk_icmp_ge (tgt := 276) B d_Mo_stageTwo_248 rfl (fun c248 => ?_) (fun c248 => ?_)
  · rw [if_pos c248] at h
    refine Gk_iinc (x := x1) (v := (x1 + 1)) (L' := [some (va_rf a0), some (.int (x1 + 1)), none, none, some (.int x4), some (.int x5)]) B d_Mo_stageTwo_276 rfl (congrArg (fun z => x1 + z) (by decide : Int32.ofInt 1 = 1)) (by decide) (gk_c1_r rfl) rfl ?_
    refine Gk_goto (tgt := 2) B d_Mo_stageTwo_279 rfl ?_
    refine Gk_weak [true, true, false, false, false, false] (L' := [some (va_rf a0), some (.int (x1 + 1)), none, none, none, none]) rfl ?_
    exact H2 a0 (x1 + 1) M h
  rw [if_neg c248] at h
  refine Gk_aload_n (i := 0) (r := a0) B d_Mo_stageTwo_251 rfl rfl ?_
  obtain ⟨v252, h252, h⟩ := gk_bind h
  refine Gk_getR (j := 53) B d_Mo_stageTwo_252 in_Mo cl_Mo (by decide) tw_808 rfl h252 ?_
  refine Gk_iload (x := x5) B d_Mo_stageTwo_255 rfl ?_
  refine Gk_iload (x := x5) B d_Mo_stageTwo_257 rfl ?_
  refine Gk_iload (x := x4) B d_Mo_stageTwo_259 rfl ?_
  refine Gk_icmp_ne (tgt := 268) B d_Mo_stageTwo_261 rfl (fun c261 => ?_) (fun c261 => ?_)
  · rw [if_neg c261] at h
    refine Gk_iconst (v := 0) B d_Mo_stageTwo_268 (by decide) ?_
    exact sn_Mo_stageTwo_269 B hr H2 H244 h
  rw [if_pos c261] at h
  refine Gk_iconst (v := 1) B d_Mo_stageTwo_264 (by decide) ?_
  refine Gk_goto (tgt := 269) B d_Mo_stageTwo_265 rfl ?_
  exact sn_Mo_stageTwo_269 B hr H2 H244 h
set_option maxHeartbeats 4000000 in
set_option maxRecDepth 100000 in
theorem sn_Mo_stageTwo_244 {l : Launch} {Γ : gk_G} {p : Program} {e : Env} {s : State} {m : MethodId} {args : Array Value} {below : List Frame} {meth : Method} {c : Code} (B : gk_B p s m args meth c gk_Y Γ c_Mo_stageTwo 6 "StageDispatcherModel") (hr : meth.sig.returnType = (some .int)) {ρ : Int32 × gk_M} {k2 : Option Nat → Int32 → gk_M → Option (Int32 × gk_M)} (H2 : ∀ (a0 : Option Nat) (x1 : Int32) (M : gk_M), k2 a0 x1 M = some ρ → Gk p l e rm_Mo_stageTwo s m args below meth c gk_Y Γ 6 (MQ below (gk_Q gk_Y Γ (some (.int ρ.1)) ρ.2) args s rm_Mo_stageTwo.cells rm_Mo_stageTwo.slots (fun q => Γ.2.2 ≤ q)) 0 0 M 2 [some (va_rf a0), some (.int x1), none, none, none, none] []) {a0 : Option Nat} {x1 : Int32} {x4 : Int32} {x5 : Int32} {M : gk_M} (h : fn_Mo_stageTwo_244 k2 a0 x1 x4 x5 M = some ρ) : Gk p l e rm_Mo_stageTwo s m args below meth c gk_Y Γ 6 (MQ below (gk_Q gk_Y Γ (some (.int ρ.1)) ρ.2) args s rm_Mo_stageTwo.cells rm_Mo_stageTwo.slots (fun q => Γ.2.2 ≤ q)) 0 0 M 244 [some (va_rf a0), some (.int x1), none, none, some (.int x4), some (.int x5)] [] := by
  unfold fn_Mo_stageTwo_244 at h
  exact gk_loop_sound (α := Option Nat × Int32 × Int32 × Int32 × gk_M) (P := fun a => Gk p l e rm_Mo_stageTwo s m args below meth c gk_Y Γ 6 (MQ below (gk_Q gk_Y Γ (some (.int ρ.1)) ρ.2) args s rm_Mo_stageTwo.cells rm_Mo_stageTwo.slots (fun q => Γ.2.2 ≤ q)) 0 0 a.2.2.2.2 244 [some (va_rf a.1), some (.int a.2.1), none, none, some (.int a.2.2.1), some (.int a.2.2.2.1)] []) (fun kk a Hk hb => sn_Mo_stageTwo_244_bd B hr H2 (fun a0 x1 x4 x5 M hh => Hk (a0, x1, x4, x5, M) hh) hb) _ _ h
set_option maxHeartbeats 4000000 in
set_option maxRecDepth 100000 in
theorem sn_Mo_stageTwo_12_bd {l : Launch} {Γ : gk_G} {p : Program} {e : Env} {s : State} {m : MethodId} {args : Array Value} {below : List Frame} {meth : Method} {c : Code} (B : gk_B p s m args meth c gk_Y Γ c_Mo_stageTwo 6 "StageDispatcherModel") (hr : meth.sig.returnType = (some .int)) {ρ : Int32 × gk_M} {k2 : Option Nat → Int32 → gk_M → Option (Int32 × gk_M)} {k12 : Option Nat → Int32 → Int32 → Int32 → gk_M → Option (Int32 × gk_M)} (H2 : ∀ (a0 : Option Nat) (x1 : Int32) (M : gk_M), k2 a0 x1 M = some ρ → Gk p l e rm_Mo_stageTwo s m args below meth c gk_Y Γ 6 (MQ below (gk_Q gk_Y Γ (some (.int ρ.1)) ρ.2) args s rm_Mo_stageTwo.cells rm_Mo_stageTwo.slots (fun q => Γ.2.2 ≤ q)) 0 0 M 2 [some (va_rf a0), some (.int x1), none, none, none, none] []) (H12 : ∀ (a0 : Option Nat) (x1 : Int32) (x2 : Int32) (x3 : Int32) (M : gk_M), k12 a0 x1 x2 x3 M = some ρ → Gk p l e rm_Mo_stageTwo s m args below meth c gk_Y Γ 6 (MQ below (gk_Q gk_Y Γ (some (.int ρ.1)) ρ.2) args s rm_Mo_stageTwo.cells rm_Mo_stageTwo.slots (fun q => Γ.2.2 ≤ q)) 0 0 M 12 [some (va_rf a0), some (.int x1), some (.int x2), some (.int x3), none, none] []) {a0 : Option Nat} {x1 : Int32} {x2 : Int32} {x3 : Int32} {M : gk_M} (h : fn_Mo_stageTwo_12_bd k2 k12 a0 x1 x2 x3 M = some ρ) : Gk p l e rm_Mo_stageTwo s m args below meth c gk_Y Γ 6 (MQ below (gk_Q gk_Y Γ (some (.int ρ.1)) ρ.2) args s rm_Mo_stageTwo.cells rm_Mo_stageTwo.slots (fun q => Γ.2.2 ≤ q)) 0 0 M 12 [some (va_rf a0), some (.int x1), some (.int x2), some (.int x3), none, none] [] := by
  unfold fn_Mo_stageTwo_12_bd at h
  refine Gk_iload_n (i := 3) (x := x3) B d_Mo_stageTwo_12 rfl rfl ?_
  refine Gk_bipush (v := 12) B d_Mo_stageTwo_13 (by decide) ?_
  refine Gk_icmp_ge (tgt := 99) B d_Mo_stageTwo_15 rfl (fun c15 => ?_) (fun c15 => ?_)
  · rw [if_pos c15] at h
    refine Gk_iload_n (i := 2) (x := x2) B d_Mo_stageTwo_99 rfl rfl ?_
    refine Gk_if_eq (tgt := 105) B d_Mo_stageTwo_100 rfl (fun c100 => ?_) (fun c100 => ?_)
    · rw [if_pos c100] at h
      refine Gk_aload_n (i := 0) (r := a0) B d_Mo_stageTwo_105 rfl rfl ?_
      obtain ⟨o106, g106, h⟩ := gk_bind h
      obtain ⟨w106, h106, h⟩ := gk_bind h
      refine Gk_callV (As := []) (rest := []) (st1 := [.int w106.1]) (k1 := 0) (n1 := 0) B gk_hG d_Mo_stageTwo_106 (sn_Mo_heaviest h106) g106 cl_Mo tw_1044 tw_1041 tw_1043 tw_30 tw_48 nm_Mo_heaviest rfl (by decide) ⟨by decide, by decide⟩ ⟨by decide, by decide⟩ rfl rfl rfl rfl ?_
      refine Gk_istore_n (i := 3) (L' := [some (va_rf a0), some (.int x1), some (.int x2), some (.int w106.1), none, none]) B d_Mo_stageTwo_109 rfl (by decide) (gk_c1_i rfl) rfl ?_
      refine Gk_iload_n (i := 3) (x := w106.1) B d_Mo_stageTwo_110 rfl rfl ?_
      refine Gk_if_ge (tgt := 117) B d_Mo_stageTwo_111 rfl (fun c111 => ?_) (fun c111 => ?_)
      · rw [if_pos c111] at h
        refine Gk_iload_n (i := 3) (x := w106.1) B d_Mo_stageTwo_117 rfl rfl ?_
        refine Gk_bipush (v := 18) B d_Mo_stageTwo_118 (by decide) ?_
        refine Gk_icmp_ge (tgt := 196) B d_Mo_stageTwo_120 rfl (fun c120 => ?_) (fun c120 => ?_)
        · rw [if_pos c120] at h
          refine Gk_aload_n (i := 0) (r := a0) B d_Mo_stageTwo_196 rfl rfl ?_
          refine Gk_aload_n (i := 0) (r := a0) B d_Mo_stageTwo_197 rfl rfl ?_
          refine Gk_iload_n (i := 3) (x := w106.1) B d_Mo_stageTwo_198 rfl rfl ?_
          refine Gk_aload_n (i := 0) (r := a0) B d_Mo_stageTwo_199 rfl rfl ?_
          obtain ⟨v200, h200, h⟩ := gk_bind h
          refine Gk_getI (j := 34) B d_Mo_stageTwo_200 in_Mo cl_Mo (by decide) tw_789 rfl h200 ?_
          obtain ⟨o203, g203, h⟩ := gk_bind h
          obtain ⟨w203, h203, h⟩ := gk_bind h
          refine Gk_callV (As := [.int w106.1, .int v200]) (rest := [va_rf a0]) (st1 := [.int w203.1, va_rf a0]) (k1 := 0) (n1 := 0) B gk_hG d_Mo_stageTwo_203 (sn_Mo_count h203) g203 cl_Mo tw_1036 tw_1033 tw_1035 tw_28 tw_48 nm_Mo_count rfl (by simp [gk_rc, gk_ic, gk_jc, rm_Mo_stageTwo]) ⟨by decide, by decide⟩ ⟨by decide, by decide⟩ rfl rfl rfl rfl ?_
          obtain ⟨M206, h206, h⟩ := gk_bind h
          refine Gk_put (j := 34) (ty := .int) B d_Mo_stageTwo_206 in_Mo t_Mo t_Mo_ok n_Mo cl_Mo (by decide) tw_789 rfl rfl rfl rfl rfl h206 ?_
          refine Gk_aload_n (i := 0) (r := a0) B d_Mo_stageTwo_209 rfl rfl ?_
          obtain ⟨v210, h210, h⟩ := gk_bind h
          refine Gk_getR (j := 16) B d_Mo_stageTwo_210 in_Mo cl_Mo (by decide) tw_771 rfl h210 ?_
          refine Gk_iload_n (i := 3) (x := w106.1) B d_Mo_stageTwo_213 rfl rfl ?_
          refine Gk_bipush (v := 18) B d_Mo_stageTwo_214 (by decide) ?_
          refine Gk_isub B d_Mo_stageTwo_216 ?_
          obtain ⟨v217, h217, h⟩ := gk_bind h
          refine Gk_iaload B d_Mo_stageTwo_217 ty_0 h217 ?_
          refine Gk_istore (L' := [some (va_rf a0), some (.int x1), some (.int x2), some (.int w106.1), some (.int v217), none]) B d_Mo_stageTwo_218 (by decide) (gk_c1_i rfl) rfl ?_
          refine Gk_aload_n (i := 0) (r := a0) B d_Mo_stageTwo_220 rfl rfl ?_
          obtain ⟨v221, h221, h⟩ := gk_bind h
          refine Gk_getR (j := 41) B d_Mo_stageTwo_221 in_Mo cl_Mo (by decide) tw_796 rfl h221 ?_
          refine Gk_aload_n (i := 0) (r := a0) B d_Mo_stageTwo_224 rfl rfl ?_
          obtain ⟨v225, h225, h⟩ := gk_bind h
          refine Gk_getI (j := 40) B d_Mo_stageTwo_225 in_Mo cl_Mo (by decide) tw_795 rfl h225 ?_
          refine Gk_iload (x := v217) B d_Mo_stageTwo_228 rfl ?_
          obtain ⟨M230, h230, h⟩ := gk_bind h
          refine Gk_iastore B d_Mo_stageTwo_230 ty_0 h230 ?_
          refine Gk_aload_n (i := 0) (r := a0) B d_Mo_stageTwo_231 rfl rfl ?_
          refine Gk_dup B d_Mo_stageTwo_232 (gk_rc _) ?_
          obtain ⟨v233, h233, h⟩ := gk_bind h
          refine Gk_getI (j := 40) B d_Mo_stageTwo_233 in_Mo cl_Mo (by decide) tw_795 rfl h233 ?_
          refine Gk_iconst (v := 1) B d_Mo_stageTwo_236 (by decide) ?_
          refine Gk_iadd B d_Mo_stageTwo_237 ?_
          obtain ⟨M238, h238, h⟩ := gk_bind h
          refine Gk_put (j := 40) (ty := .int) B d_Mo_stageTwo_238 in_Mo t_Mo t_Mo_ok n_Mo cl_Mo (by decide) tw_795 rfl rfl rfl rfl rfl h238 ?_
          refine Gk_iconst (v := 0) B d_Mo_stageTwo_241 (by decide) ?_
          refine Gk_istore (L' := [some (va_rf a0), some (.int x1), some (.int x2), some (.int w106.1), some (.int v217), some (.int 0)]) B d_Mo_stageTwo_242 (by decide) (gk_c1_i rfl) rfl ?_
          refine Gk_weak [true, true, false, false, true, true] (L' := [some (va_rf a0), some (.int x1), none, none, some (.int v217), some (.int 0)]) rfl ?_
          exact sn_Mo_stageTwo_244 B hr H2 h
        rw [if_neg c120] at h
        refine Gk_iconst (v := 0) B d_Mo_stageTwo_123 (by decide) ?_
        refine Gk_istore (L' := [some (va_rf a0), some (.int x1), some (.int x2), some (.int w106.1), some (.int 0), none]) B d_Mo_stageTwo_124 (by decide) (gk_c1_i rfl) rfl ?_
        refine Gk_weak [true, false, false, true, true, false] (L' := [some (va_rf a0), none, none, some (.int w106.1), some (.int 0), none]) rfl ?_
        exact sn_Mo_stageTwo_126 B hr h
      rw [if_neg c111] at h
      refine Gk_bipush (v := 8) B d_Mo_stageTwo_114 (by decide) ?_
      cases h
      exact Gk_iret B hr d_Mo_stageTwo_116 rfl (by decide) (by decide) rfl
    rw [if_neg c100] at h
    refine Gk_iconst (v := 0) B d_Mo_stageTwo_103 (by decide) ?_
    cases h
    exact Gk_iret B hr d_Mo_stageTwo_104 rfl (by decide) (by decide) rfl
  rw [if_neg c15] at h
  refine Gk_aload_n (i := 0) (r := a0) B d_Mo_stageTwo_18 rfl rfl ?_
  obtain ⟨v19, h19, h⟩ := gk_bind h
  refine Gk_getR (j := 54) B d_Mo_stageTwo_19 in_Mo cl_Mo (by decide) tw_809 rfl h19 ?_
  refine Gk_iload_n (i := 3) (x := x3) B d_Mo_stageTwo_22 rfl rfl ?_
  refine Gk_iload_n (i := 3) (x := x3) B d_Mo_stageTwo_23 rfl rfl ?_
  refine Gk_aload_n (i := 0) (r := a0) B d_Mo_stageTwo_24 rfl rfl ?_
  obtain ⟨v25, h25, h⟩ := gk_bind h
  refine Gk_getI (j := 5) B d_Mo_stageTwo_25 in_Mo cl_Mo (by decide) tw_760 rfl h25 ?_
  refine Gk_icmp_ge (tgt := 72) B d_Mo_stageTwo_28 rfl (fun c28 => ?_) (fun c28 => ?_)
  · rw [if_pos c28] at h
    exact sn_Mo_stageTwo_72 B hr H2 H12 h
  rw [if_neg c28] at h
  refine Gk_aload_n (i := 0) (r := a0) B d_Mo_stageTwo_31 rfl rfl ?_
  obtain ⟨v32, h32, h⟩ := gk_bind h
  refine Gk_getR (j := 53) B d_Mo_stageTwo_32 in_Mo cl_Mo (by decide) tw_808 rfl h32 ?_
  refine Gk_aload_n (i := 0) (r := a0) B d_Mo_stageTwo_35 rfl rfl ?_
  obtain ⟨v36, h36, h⟩ := gk_bind h
  refine Gk_getR (j := 6) B d_Mo_stageTwo_36 in_Mo cl_Mo (by decide) tw_761 rfl h36 ?_
  refine Gk_iload_n (i := 3) (x := x3) B d_Mo_stageTwo_39 rfl rfl ?_
  obtain ⟨v40, h40, h⟩ := gk_bind h
  refine Gk_iaload B d_Mo_stageTwo_40 ty_0 h40 ?_
  obtain ⟨v41, h41, h⟩ := gk_bind h
  refine Gk_zaload B d_Mo_stageTwo_41 ty_2 h41 ?_
  refine Gk_if_eq (tgt := 72) B d_Mo_stageTwo_42 rfl (fun c42 => ?_) (fun c42 => ?_)
  · rw [if_pos c42] at h
    exact sn_Mo_stageTwo_72 B hr H2 H12 h
  rw [if_neg c42] at h
  refine Gk_aload_n (i := 0) (r := a0) B d_Mo_stageTwo_45 rfl rfl ?_
  obtain ⟨v46, h46, h⟩ := gk_bind h
  refine Gk_getR (j := 3) B d_Mo_stageTwo_46 in_Mo cl_Mo (by decide) tw_758 rfl h46 ?_
  refine Gk_bipush (v := 6) B d_Mo_stageTwo_49 (by decide) ?_
  refine Gk_iload_n (i := 3) (x := x3) B d_Mo_stageTwo_51 rfl rfl ?_
  refine Gk_iadd B d_Mo_stageTwo_52 ?_
  obtain ⟨v53, h53, h⟩ := gk_bind h
  refine Gk_iaload B d_Mo_stageTwo_53 ty_0 h53 ?_
  refine Gk_if_ne (tgt := 72) B d_Mo_stageTwo_54 rfl (fun c54 => ?_) (fun c54 => ?_)
  · rw [if_neg c54] at h
    exact sn_Mo_stageTwo_72 B hr H2 H12 h
  rw [if_pos c54] at h
  refine Gk_aload_n (i := 0) (r := a0) B d_Mo_stageTwo_57 rfl rfl ?_
  refine Gk_aload_n (i := 0) (r := a0) B d_Mo_stageTwo_58 rfl rfl ?_
  obtain ⟨v59, h59, h⟩ := gk_bind h
  refine Gk_getI (j := 34) B d_Mo_stageTwo_59 in_Mo cl_Mo (by decide) tw_789 rfl h59 ?_
  obtain ⟨o62, g62, h⟩ := gk_bind h
  obtain ⟨w62, h62, h⟩ := gk_bind h
  refine Gk_callV (As := [.int v59]) (rest := [.int x3, va_rf v19]) (st1 := [.int w62.1, .int x3, va_rf v19]) (k1 := 0) (n1 := 0) B gk_hG d_Mo_stageTwo_62 (sn_Mo_ends h62) g62 cl_Mo tw_1020 tw_1017 tw_1019 tw_24 tw_48 nm_Mo_ends rfl (by simp [gk_rc, gk_ic, gk_jc, rm_Mo_stageTwo]) ⟨by decide, by decide⟩ ⟨by decide, by decide⟩ rfl rfl rfl rfl ?_
  refine Gk_if_eq (tgt := 72) B d_Mo_stageTwo_65 rfl (fun c65 => ?_) (fun c65 => ?_)
  · rw [if_pos c65] at h
    exact sn_Mo_stageTwo_72 B hr H2 H12 h
  rw [if_neg c65] at h
  refine Gk_iconst (v := 1) B d_Mo_stageTwo_68 (by decide) ?_
  refine Gk_goto (tgt := 73) B d_Mo_stageTwo_69 rfl ?_
  exact sn_Mo_stageTwo_73 B hr H2 H12 h
set_option maxHeartbeats 4000000 in
set_option maxRecDepth 100000 in
theorem sn_Mo_stageTwo_12 {l : Launch} {Γ : gk_G} {p : Program} {e : Env} {s : State} {m : MethodId} {args : Array Value} {below : List Frame} {meth : Method} {c : Code} (B : gk_B p s m args meth c gk_Y Γ c_Mo_stageTwo 6 "StageDispatcherModel") (hr : meth.sig.returnType = (some .int)) {ρ : Int32 × gk_M} {k2 : Option Nat → Int32 → gk_M → Option (Int32 × gk_M)} (H2 : ∀ (a0 : Option Nat) (x1 : Int32) (M : gk_M), k2 a0 x1 M = some ρ → Gk p l e rm_Mo_stageTwo s m args below meth c gk_Y Γ 6 (MQ below (gk_Q gk_Y Γ (some (.int ρ.1)) ρ.2) args s rm_Mo_stageTwo.cells rm_Mo_stageTwo.slots (fun q => Γ.2.2 ≤ q)) 0 0 M 2 [some (va_rf a0), some (.int x1), none, none, none, none] []) {a0 : Option Nat} {x1 : Int32} {x2 : Int32} {x3 : Int32} {M : gk_M} (h : fn_Mo_stageTwo_12 k2 a0 x1 x2 x3 M = some ρ) : Gk p l e rm_Mo_stageTwo s m args below meth c gk_Y Γ 6 (MQ below (gk_Q gk_Y Γ (some (.int ρ.1)) ρ.2) args s rm_Mo_stageTwo.cells rm_Mo_stageTwo.slots (fun q => Γ.2.2 ≤ q)) 0 0 M 12 [some (va_rf a0), some (.int x1), some (.int x2), some (.int x3), none, none] [] := by
  unfold fn_Mo_stageTwo_12 at h
  exact gk_loop_sound (α := Option Nat × Int32 × Int32 × Int32 × gk_M) (P := fun a => Gk p l e rm_Mo_stageTwo s m args below meth c gk_Y Γ 6 (MQ below (gk_Q gk_Y Γ (some (.int ρ.1)) ρ.2) args s rm_Mo_stageTwo.cells rm_Mo_stageTwo.slots (fun q => Γ.2.2 ≤ q)) 0 0 a.2.2.2.2 12 [some (va_rf a.1), some (.int a.2.1), some (.int a.2.2.1), some (.int a.2.2.2.1), none, none] []) (fun kk a Hk hb => sn_Mo_stageTwo_12_bd B hr H2 (fun a0 x1 x2 x3 M hh => Hk (a0, x1, x2, x3, M) hh) hb) _ _ h
set_option maxHeartbeats 4000000 in
set_option maxRecDepth 100000 in
theorem sn_Mo_stageTwo_2_bd {l : Launch} {Γ : gk_G} {p : Program} {e : Env} {s : State} {m : MethodId} {args : Array Value} {below : List Frame} {meth : Method} {c : Code} (B : gk_B p s m args meth c gk_Y Γ c_Mo_stageTwo 6 "StageDispatcherModel") (hr : meth.sig.returnType = (some .int)) {ρ : Int32 × gk_M} {k2 : Option Nat → Int32 → gk_M → Option (Int32 × gk_M)} (H2 : ∀ (a0 : Option Nat) (x1 : Int32) (M : gk_M), k2 a0 x1 M = some ρ → Gk p l e rm_Mo_stageTwo s m args below meth c gk_Y Γ 6 (MQ below (gk_Q gk_Y Γ (some (.int ρ.1)) ρ.2) args s rm_Mo_stageTwo.cells rm_Mo_stageTwo.slots (fun q => Γ.2.2 ≤ q)) 0 0 M 2 [some (va_rf a0), some (.int x1), none, none, none, none] []) {a0 : Option Nat} {x1 : Int32} {M : gk_M} (h : fn_Mo_stageTwo_2_bd k2 a0 x1 M = some ρ) : Gk p l e rm_Mo_stageTwo s m args below meth c gk_Y Γ 6 (MQ below (gk_Q gk_Y Γ (some (.int ρ.1)) ρ.2) args s rm_Mo_stageTwo.cells rm_Mo_stageTwo.slots (fun q => Γ.2.2 ≤ q)) 0 0 M 2 [some (va_rf a0), some (.int x1), none, none, none, none] [] := by
  unfold fn_Mo_stageTwo_2_bd at h
  refine Gk_iload_n (i := 1) (x := x1) B d_Mo_stageTwo_2 rfl rfl ?_
  refine Gk_bipush (v := 30) B d_Mo_stageTwo_3 (by decide) ?_
  refine Gk_icmp_ge (tgt := 282) B d_Mo_stageTwo_5 rfl (fun c5 => ?_) (fun c5 => ?_)
  · rw [if_pos c5] at h
    refine Gk_bipush (v := 8) B d_Mo_stageTwo_282 (by decide) ?_
    cases h
    exact Gk_iret B hr d_Mo_stageTwo_284 rfl (by decide) (by decide) rfl
  rw [if_neg c5] at h
  refine Gk_iconst (v := 0) B d_Mo_stageTwo_8 (by decide) ?_
  refine Gk_istore_n (i := 2) (L' := [some (va_rf a0), some (.int x1), some (.int 0), none, none, none]) B d_Mo_stageTwo_9 rfl (by decide) (gk_c1_i rfl) rfl ?_
  refine Gk_iconst (v := 0) B d_Mo_stageTwo_10 (by decide) ?_
  refine Gk_istore_n (i := 3) (L' := [some (va_rf a0), some (.int x1), some (.int 0), some (.int 0), none, none]) B d_Mo_stageTwo_11 rfl (by decide) (gk_c1_i rfl) rfl ?_
  exact sn_Mo_stageTwo_12 B hr H2 h
set_option maxHeartbeats 4000000 in
set_option maxRecDepth 100000 in
theorem sn_Mo_stageTwo_2 {l : Launch} {Γ : gk_G} {p : Program} {e : Env} {s : State} {m : MethodId} {args : Array Value} {below : List Frame} {meth : Method} {c : Code} (B : gk_B p s m args meth c gk_Y Γ c_Mo_stageTwo 6 "StageDispatcherModel") (hr : meth.sig.returnType = (some .int)) {ρ : Int32 × gk_M}   {a0 : Option Nat} {x1 : Int32} {M : gk_M} (h : fn_Mo_stageTwo_2  a0 x1 M = some ρ) : Gk p l e rm_Mo_stageTwo s m args below meth c gk_Y Γ 6 (MQ below (gk_Q gk_Y Γ (some (.int ρ.1)) ρ.2) args s rm_Mo_stageTwo.cells rm_Mo_stageTwo.slots (fun q => Γ.2.2 ≤ q)) 0 0 M 2 [some (va_rf a0), some (.int x1), none, none, none, none] [] := by
  unfold fn_Mo_stageTwo_2 at h
  exact gk_loop_sound (α := Option Nat × Int32 × gk_M) (P := fun a => Gk p l e rm_Mo_stageTwo s m args below meth c gk_Y Γ 6 (MQ below (gk_Q gk_Y Γ (some (.int ρ.1)) ρ.2) args s rm_Mo_stageTwo.cells rm_Mo_stageTwo.slots (fun q => Γ.2.2 ≤ q)) 0 0 a.2.2 2 [some (va_rf a.1), some (.int a.2.1), none, none, none, none] []) (fun kk a Hk hb => sn_Mo_stageTwo_2_bd B hr (fun a0 x1 M hh => Hk (a0, x1, M) hh) hb) _ _ h
set_option maxHeartbeats 4000000 in
set_option maxRecDepth 100000 in
theorem sn_Mo_stageTwo_0 {l : Launch} {Γ : gk_G} {p : Program} {e : Env} {s : State} {m : MethodId} {args : Array Value} {below : List Frame} {meth : Method} {c : Code} (B : gk_B p s m args meth c gk_Y Γ c_Mo_stageTwo 6 "StageDispatcherModel") (hr : meth.sig.returnType = (some .int)) {ρ : Int32 × gk_M}   {a0 : Option Nat} {M : gk_M} (h : fn_Mo_stageTwo  a0 M = some ρ) : Gk p l e rm_Mo_stageTwo s m args below meth c gk_Y Γ 6 (MQ below (gk_Q gk_Y Γ (some (.int ρ.1)) ρ.2) args s rm_Mo_stageTwo.cells rm_Mo_stageTwo.slots (fun q => Γ.2.2 ≤ q)) 0 0 M 0 [some (va_rf a0), none, none, none, none, none] [] := by
  unfold fn_Mo_stageTwo at h
  refine Gk_iconst (v := 0) B d_Mo_stageTwo_0 (by decide) ?_
  refine Gk_istore_n (i := 1) (L' := [some (va_rf a0), some (.int 0), none, none, none, none]) B d_Mo_stageTwo_1 rfl (by decide) (gk_c1_r rfl) rfl ?_
  exact sn_Mo_stageTwo_2 B hr h
theorem sn_Mo_stageTwo {l : Launch} {Γ : gk_G} {a0 : Option Nat} {M : gk_M} {ρ : Int32 × gk_M} (h : fn_Mo_stageTwo a0 M = some ρ) : gk_Met l gk_Y Γ y_Mo_stageTwo (.code y_Mo_stageTwo c_Mo_stageTwo 6 (some .int) :: gk_Y.2.2.2) rm_Mo_stageTwo [va_rf a0] M (some (.int ρ.1)) ρ.2 :=
  gk_start (by decide) (by simp [lg_sl, gk_rc, gk_ic, gk_jc]) [some (va_rf a0), none, none, none, none, none] (by simp [gk_as, lv_args, gk_rc, gk_ic, gk_jc]) (fun p e s m args below meth c B hr hin => sn_Mo_stageTwo_0 B hr h)
theorem d_Mo_only_0 : decode c_Mo_only 0 = .ok (.iconst 0, 1) := by decide +kernel
theorem d_Mo_only_1 : decode c_Mo_only 1 = .ok (.istore_n 2, 1) := by decide +kernel
theorem d_Mo_only_2 : decode c_Mo_only 2 = .ok (.iconst 0, 1) := by decide +kernel
theorem d_Mo_only_3 : decode c_Mo_only 3 = .ok (.istore_n 3, 1) := by decide +kernel
theorem d_Mo_only_4 : decode c_Mo_only 4 = .ok (.iload_n 3, 1) := by decide +kernel
theorem d_Mo_only_5 : decode c_Mo_only 5 = .ok (.aload_n 0, 1) := by decide +kernel
theorem d_Mo_only_6 : decode c_Mo_only 6 = .ok (.getfield 175, 3) := by decide +kernel
theorem d_Mo_only_9 : decode c_Mo_only 9 = .ok (.if_icmp .ge 38, 3) := by decide +kernel
theorem d_Mo_only_12 : decode c_Mo_only 12 = .ok (.iload_n 2, 1) := by decide +kernel
theorem d_Mo_only_13 : decode c_Mo_only 13 = .ok (.ifCond .ne 22, 3) := by decide +kernel
theorem d_Mo_only_16 : decode c_Mo_only 16 = .ok (.aload_n 0, 1) := by decide +kernel
theorem d_Mo_only_17 : decode c_Mo_only 17 = .ok (.getfield 108, 3) := by decide +kernel
theorem d_Mo_only_20 : decode c_Mo_only 20 = .ok (.iload_n 3, 1) := by decide +kernel
theorem d_Mo_only_21 : decode c_Mo_only 21 = .ok (.baload, 1) := by decide +kernel
theorem d_Mo_only_22 : decode c_Mo_only 22 = .ok (.ifCond .eq 17, 3) := by decide +kernel
theorem d_Mo_only_25 : decode c_Mo_only 25 = .ok (.aload_n 0, 1) := by decide +kernel
theorem d_Mo_only_26 : decode c_Mo_only 26 = .ok (.getfield 23, 3) := by decide +kernel
theorem d_Mo_only_29 : decode c_Mo_only 29 = .ok (.iload_n 3, 1) := by decide +kernel
theorem d_Mo_only_30 : decode c_Mo_only 30 = .ok (.iaload, 1) := by decide +kernel
theorem d_Mo_only_31 : decode c_Mo_only 31 = .ok (.iload_n 1, 1) := by decide +kernel
theorem d_Mo_only_32 : decode c_Mo_only 32 = .ok (.if_icmp .ne 7, 3) := by decide +kernel
theorem d_Mo_only_35 : decode c_Mo_only 35 = .ok (.iconst 1, 1) := by decide +kernel
theorem d_Mo_only_36 : decode c_Mo_only 36 = .ok (.goto 4, 3) := by decide +kernel
theorem d_Mo_only_39 : decode c_Mo_only 39 = .ok (.iconst 0, 1) := by decide +kernel
theorem d_Mo_only_40 : decode c_Mo_only 40 = .ok (.istore_n 2, 1) := by decide +kernel
theorem d_Mo_only_41 : decode c_Mo_only 41 = .ok (.iinc 3 1, 3) := by decide +kernel
theorem d_Mo_only_44 : decode c_Mo_only 44 = .ok (.goto (-40), 3) := by decide +kernel
theorem d_Mo_only_47 : decode c_Mo_only 47 = .ok (.iconst 0, 1) := by decide +kernel
theorem d_Mo_only_48 : decode c_Mo_only 48 = .ok (.istore_n 3, 1) := by decide +kernel
theorem d_Mo_only_49 : decode c_Mo_only 49 = .ok (.iload_n 3, 1) := by decide +kernel
theorem d_Mo_only_50 : decode c_Mo_only 50 = .ok (.aload_n 0, 1) := by decide +kernel
theorem d_Mo_only_51 : decode c_Mo_only 51 = .ok (.getfield 175, 3) := by decide +kernel
theorem d_Mo_only_54 : decode c_Mo_only 54 = .ok (.if_icmp .ge 43, 3) := by decide +kernel
theorem d_Mo_only_57 : decode c_Mo_only 57 = .ok (.aload_n 0, 1) := by decide +kernel
theorem d_Mo_only_58 : decode c_Mo_only 58 = .ok (.getfield 108, 3) := by decide +kernel
theorem d_Mo_only_61 : decode c_Mo_only 61 = .ok (.iload_n 3, 1) := by decide +kernel
theorem d_Mo_only_62 : decode c_Mo_only 62 = .ok (.aload_n 0, 1) := by decide +kernel
theorem d_Mo_only_63 : decode c_Mo_only 63 = .ok (.getfield 108, 3) := by decide +kernel
theorem d_Mo_only_66 : decode c_Mo_only 66 = .ok (.iload_n 3, 1) := by decide +kernel
theorem d_Mo_only_67 : decode c_Mo_only 67 = .ok (.baload, 1) := by decide +kernel
theorem d_Mo_only_68 : decode c_Mo_only 68 = .ok (.ifCond .eq 21, 3) := by decide +kernel
theorem d_Mo_only_71 : decode c_Mo_only 71 = .ok (.iload_n 2, 1) := by decide +kernel
theorem d_Mo_only_72 : decode c_Mo_only 72 = .ok (.ifCond .eq 13, 3) := by decide +kernel
theorem d_Mo_only_75 : decode c_Mo_only 75 = .ok (.aload_n 0, 1) := by decide +kernel
theorem d_Mo_only_76 : decode c_Mo_only 76 = .ok (.getfield 23, 3) := by decide +kernel
theorem d_Mo_only_79 : decode c_Mo_only 79 = .ok (.iload_n 3, 1) := by decide +kernel
theorem d_Mo_only_80 : decode c_Mo_only 80 = .ok (.iaload, 1) := by decide +kernel
theorem d_Mo_only_81 : decode c_Mo_only 81 = .ok (.iload_n 1, 1) := by decide +kernel
theorem d_Mo_only_82 : decode c_Mo_only 82 = .ok (.if_icmp .ne 7, 3) := by decide +kernel
theorem d_Mo_only_85 : decode c_Mo_only 85 = .ok (.iconst 1, 1) := by decide +kernel
theorem d_Mo_only_86 : decode c_Mo_only 86 = .ok (.goto 4, 3) := by decide +kernel
theorem d_Mo_only_89 : decode c_Mo_only 89 = .ok (.iconst 0, 1) := by decide +kernel
theorem d_Mo_only_90 : decode c_Mo_only 90 = .ok (.bastore, 1) := by decide +kernel
theorem d_Mo_only_91 : decode c_Mo_only 91 = .ok (.iinc 3 1, 3) := by decide +kernel
theorem d_Mo_only_94 : decode c_Mo_only 94 = .ok (.goto (-45), 3) := by decide +kernel
theorem d_Mo_only_97 : decode c_Mo_only 97 = .ok (.iload_n 2, 1) := by decide +kernel
theorem d_Mo_only_98 : decode c_Mo_only 98 = .ok (.ireturn, 1) := by decide +kernel
set_option maxHeartbeats 4000000 in
set_option maxRecDepth 100000 in
theorem sn_Mo_only_40 {l : Launch} {Γ : gk_G} {p : Program} {e : Env} {s : State} {m : MethodId} {args : Array Value} {below : List Frame} {meth : Method} {c : Code} (B : gk_B p s m args meth c gk_Y Γ c_Mo_only 4 "StageDispatcherModel") (hr : meth.sig.returnType = (some .boolean)) {ρ : Int32 × gk_M} {k4 : Option Nat → Int32 → Int32 → Int32 → gk_M → Option (Int32 × gk_M)} (H4 : ∀ (a0 : Option Nat) (x1 : Int32) (x2 : Int32) (x3 : Int32) (M : gk_M), k4 a0 x1 x2 x3 M = some ρ → Gk p l e rm_Mo_only s m args below meth c gk_Y Γ 4 (MQ below (gk_Q gk_Y Γ (some (.int ρ.1)) ρ.2) args s rm_Mo_only.cells rm_Mo_only.slots (fun q => Γ.2.2 ≤ q)) 0 0 M 4 [some (va_rf a0), some (.int x1), some (.int x2), some (.int x3)] []) {a0 : Option Nat} {x1 : Int32} {x3 : Int32} {s0 : Int32} {M : gk_M} (h : fn_Mo_only_40 k4 a0 x1 x3 s0 M = some ρ) : Gk p l e rm_Mo_only s m args below meth c gk_Y Γ 4 (MQ below (gk_Q gk_Y Γ (some (.int ρ.1)) ρ.2) args s rm_Mo_only.cells rm_Mo_only.slots (fun q => Γ.2.2 ≤ q)) 0 0 M 40 [some (va_rf a0), some (.int x1), none, some (.int x3)] [.int s0] := by
  unfold fn_Mo_only_40 at h
  refine Gk_istore_n (i := 2) (L' := [some (va_rf a0), some (.int x1), some (.int s0), some (.int x3)]) B d_Mo_only_40 rfl (by decide) (gk_c1_i rfl) rfl ?_
  refine Gk_iinc (x := x3) (v := (x3 + 1)) (L' := [some (va_rf a0), some (.int x1), some (.int s0), some (.int (x3 + 1))]) B d_Mo_only_41 rfl (congrArg (fun z => x3 + z) (by decide : Int32.ofInt 1 = 1)) (by decide) (gk_c1_i rfl) rfl ?_
  refine Gk_goto (tgt := 4) B d_Mo_only_44 rfl ?_
  exact H4 a0 x1 s0 (x3 + 1) M h
set_option maxHeartbeats 4000000 in
set_option maxRecDepth 100000 in
theorem sn_Mo_only_35 {l : Launch} {Γ : gk_G} {p : Program} {e : Env} {s : State} {m : MethodId} {args : Array Value} {below : List Frame} {meth : Method} {c : Code} (B : gk_B p s m args meth c gk_Y Γ c_Mo_only 4 "StageDispatcherModel") (hr : meth.sig.returnType = (some .boolean)) {ρ : Int32 × gk_M} {k4 : Option Nat → Int32 → Int32 → Int32 → gk_M → Option (Int32 × gk_M)} (H4 : ∀ (a0 : Option Nat) (x1 : Int32) (x2 : Int32) (x3 : Int32) (M : gk_M), k4 a0 x1 x2 x3 M = some ρ → Gk p l e rm_Mo_only s m args below meth c gk_Y Γ 4 (MQ below (gk_Q gk_Y Γ (some (.int ρ.1)) ρ.2) args s rm_Mo_only.cells rm_Mo_only.slots (fun q => Γ.2.2 ≤ q)) 0 0 M 4 [some (va_rf a0), some (.int x1), some (.int x2), some (.int x3)] []) {a0 : Option Nat} {x1 : Int32} {x3 : Int32} {M : gk_M} (h : fn_Mo_only_35 k4 a0 x1 x3 M = some ρ) : Gk p l e rm_Mo_only s m args below meth c gk_Y Γ 4 (MQ below (gk_Q gk_Y Γ (some (.int ρ.1)) ρ.2) args s rm_Mo_only.cells rm_Mo_only.slots (fun q => Γ.2.2 ≤ q)) 0 0 M 35 [some (va_rf a0), some (.int x1), none, some (.int x3)] [] := by
  unfold fn_Mo_only_35 at h
  refine Gk_iconst (v := 1) B d_Mo_only_35 (by decide) ?_
  refine Gk_goto (tgt := 40) B d_Mo_only_36 rfl ?_
  exact sn_Mo_only_40 B hr H4 h
set_option maxHeartbeats 4000000 in
set_option maxRecDepth 100000 in
theorem sn_Mo_only_39 {l : Launch} {Γ : gk_G} {p : Program} {e : Env} {s : State} {m : MethodId} {args : Array Value} {below : List Frame} {meth : Method} {c : Code} (B : gk_B p s m args meth c gk_Y Γ c_Mo_only 4 "StageDispatcherModel") (hr : meth.sig.returnType = (some .boolean)) {ρ : Int32 × gk_M} {k4 : Option Nat → Int32 → Int32 → Int32 → gk_M → Option (Int32 × gk_M)} (H4 : ∀ (a0 : Option Nat) (x1 : Int32) (x2 : Int32) (x3 : Int32) (M : gk_M), k4 a0 x1 x2 x3 M = some ρ → Gk p l e rm_Mo_only s m args below meth c gk_Y Γ 4 (MQ below (gk_Q gk_Y Γ (some (.int ρ.1)) ρ.2) args s rm_Mo_only.cells rm_Mo_only.slots (fun q => Γ.2.2 ≤ q)) 0 0 M 4 [some (va_rf a0), some (.int x1), some (.int x2), some (.int x3)] []) {a0 : Option Nat} {x1 : Int32} {x3 : Int32} {M : gk_M} (h : fn_Mo_only_39 k4 a0 x1 x3 M = some ρ) : Gk p l e rm_Mo_only s m args below meth c gk_Y Γ 4 (MQ below (gk_Q gk_Y Γ (some (.int ρ.1)) ρ.2) args s rm_Mo_only.cells rm_Mo_only.slots (fun q => Γ.2.2 ≤ q)) 0 0 M 39 [some (va_rf a0), some (.int x1), none, some (.int x3)] [] := by
  unfold fn_Mo_only_39 at h
  refine Gk_iconst (v := 0) B d_Mo_only_39 (by decide) ?_
  exact sn_Mo_only_40 B hr H4 h
set_option maxHeartbeats 4000000 in
set_option maxRecDepth 100000 in
theorem sn_Mo_only_90 {l : Launch} {Γ : gk_G} {p : Program} {e : Env} {s : State} {m : MethodId} {args : Array Value} {below : List Frame} {meth : Method} {c : Code} (B : gk_B p s m args meth c gk_Y Γ c_Mo_only 4 "StageDispatcherModel") (hr : meth.sig.returnType = (some .boolean)) {ρ : Int32 × gk_M} {k49 : Option Nat → Int32 → Int32 → Int32 → gk_M → Option (Int32 × gk_M)} (H49 : ∀ (a0 : Option Nat) (x1 : Int32) (x2 : Int32) (x3 : Int32) (M : gk_M), k49 a0 x1 x2 x3 M = some ρ → Gk p l e rm_Mo_only s m args below meth c gk_Y Γ 4 (MQ below (gk_Q gk_Y Γ (some (.int ρ.1)) ρ.2) args s rm_Mo_only.cells rm_Mo_only.slots (fun q => Γ.2.2 ≤ q)) 0 0 M 49 [some (va_rf a0), some (.int x1), some (.int x2), some (.int x3)] []) {a0 : Option Nat} {x1 : Int32} {x2 : Int32} {x3 : Int32} {s0 : Option Nat} {s1 : Int32} {s2 : Int32} {M : gk_M} (h : fn_Mo_only_90 k49 a0 x1 x2 x3 s0 s1 s2 M = some ρ) : Gk p l e rm_Mo_only s m args below meth c gk_Y Γ 4 (MQ below (gk_Q gk_Y Γ (some (.int ρ.1)) ρ.2) args s rm_Mo_only.cells rm_Mo_only.slots (fun q => Γ.2.2 ≤ q)) 0 0 M 90 [some (va_rf a0), some (.int x1), some (.int x2), some (.int x3)] [.int s2, .int s1, va_rf s0] := by
  unfold fn_Mo_only_90 at h
  obtain ⟨M90, h90, h⟩ := gk_bind h
  refine Gk_zastore B d_Mo_only_90 ty_2 h90 ?_
  refine Gk_iinc (x := x3) (v := (x3 + 1)) (L' := [some (va_rf a0), some (.int x1), some (.int x2), some (.int (x3 + 1))]) B d_Mo_only_91 rfl (congrArg (fun z => x3 + z) (by decide : Int32.ofInt 1 = 1)) (by decide) (gk_c1_i rfl) rfl ?_
  refine Gk_goto (tgt := 49) B d_Mo_only_94 rfl ?_
  exact H49 a0 x1 x2 (x3 + 1) M90 h
set_option maxHeartbeats 4000000 in
set_option maxRecDepth 100000 in
theorem sn_Mo_only_89 {l : Launch} {Γ : gk_G} {p : Program} {e : Env} {s : State} {m : MethodId} {args : Array Value} {below : List Frame} {meth : Method} {c : Code} (B : gk_B p s m args meth c gk_Y Γ c_Mo_only 4 "StageDispatcherModel") (hr : meth.sig.returnType = (some .boolean)) {ρ : Int32 × gk_M} {k49 : Option Nat → Int32 → Int32 → Int32 → gk_M → Option (Int32 × gk_M)} (H49 : ∀ (a0 : Option Nat) (x1 : Int32) (x2 : Int32) (x3 : Int32) (M : gk_M), k49 a0 x1 x2 x3 M = some ρ → Gk p l e rm_Mo_only s m args below meth c gk_Y Γ 4 (MQ below (gk_Q gk_Y Γ (some (.int ρ.1)) ρ.2) args s rm_Mo_only.cells rm_Mo_only.slots (fun q => Γ.2.2 ≤ q)) 0 0 M 49 [some (va_rf a0), some (.int x1), some (.int x2), some (.int x3)] []) {a0 : Option Nat} {x1 : Int32} {x2 : Int32} {x3 : Int32} {s0 : Option Nat} {s1 : Int32} {M : gk_M} (h : fn_Mo_only_89 k49 a0 x1 x2 x3 s0 s1 M = some ρ) : Gk p l e rm_Mo_only s m args below meth c gk_Y Γ 4 (MQ below (gk_Q gk_Y Γ (some (.int ρ.1)) ρ.2) args s rm_Mo_only.cells rm_Mo_only.slots (fun q => Γ.2.2 ≤ q)) 0 0 M 89 [some (va_rf a0), some (.int x1), some (.int x2), some (.int x3)] [.int s1, va_rf s0] := by
  unfold fn_Mo_only_89 at h
  refine Gk_iconst (v := 0) B d_Mo_only_89 (by decide) ?_
  exact sn_Mo_only_90 B hr H49 h
set_option maxHeartbeats 4000000 in
set_option maxRecDepth 100000 in
theorem sn_Mo_only_85 {l : Launch} {Γ : gk_G} {p : Program} {e : Env} {s : State} {m : MethodId} {args : Array Value} {below : List Frame} {meth : Method} {c : Code} (B : gk_B p s m args meth c gk_Y Γ c_Mo_only 4 "StageDispatcherModel") (hr : meth.sig.returnType = (some .boolean)) {ρ : Int32 × gk_M} {k49 : Option Nat → Int32 → Int32 → Int32 → gk_M → Option (Int32 × gk_M)} (H49 : ∀ (a0 : Option Nat) (x1 : Int32) (x2 : Int32) (x3 : Int32) (M : gk_M), k49 a0 x1 x2 x3 M = some ρ → Gk p l e rm_Mo_only s m args below meth c gk_Y Γ 4 (MQ below (gk_Q gk_Y Γ (some (.int ρ.1)) ρ.2) args s rm_Mo_only.cells rm_Mo_only.slots (fun q => Γ.2.2 ≤ q)) 0 0 M 49 [some (va_rf a0), some (.int x1), some (.int x2), some (.int x3)] []) {a0 : Option Nat} {x1 : Int32} {x2 : Int32} {x3 : Int32} {s0 : Option Nat} {s1 : Int32} {M : gk_M} (h : fn_Mo_only_85 k49 a0 x1 x2 x3 s0 s1 M = some ρ) : Gk p l e rm_Mo_only s m args below meth c gk_Y Γ 4 (MQ below (gk_Q gk_Y Γ (some (.int ρ.1)) ρ.2) args s rm_Mo_only.cells rm_Mo_only.slots (fun q => Γ.2.2 ≤ q)) 0 0 M 85 [some (va_rf a0), some (.int x1), some (.int x2), some (.int x3)] [.int s1, va_rf s0] := by
  unfold fn_Mo_only_85 at h
  refine Gk_iconst (v := 1) B d_Mo_only_85 (by decide) ?_
  refine Gk_goto (tgt := 90) B d_Mo_only_86 rfl ?_
  exact sn_Mo_only_90 B hr H49 h
set_option maxHeartbeats 4000000 in
set_option maxRecDepth 100000 in
theorem sn_Mo_only_49_bd {l : Launch} {Γ : gk_G} {p : Program} {e : Env} {s : State} {m : MethodId} {args : Array Value} {below : List Frame} {meth : Method} {c : Code} (B : gk_B p s m args meth c gk_Y Γ c_Mo_only 4 "StageDispatcherModel") (hr : meth.sig.returnType = (some .boolean)) {ρ : Int32 × gk_M} {k49 : Option Nat → Int32 → Int32 → Int32 → gk_M → Option (Int32 × gk_M)} (H49 : ∀ (a0 : Option Nat) (x1 : Int32) (x2 : Int32) (x3 : Int32) (M : gk_M), k49 a0 x1 x2 x3 M = some ρ → Gk p l e rm_Mo_only s m args below meth c gk_Y Γ 4 (MQ below (gk_Q gk_Y Γ (some (.int ρ.1)) ρ.2) args s rm_Mo_only.cells rm_Mo_only.slots (fun q => Γ.2.2 ≤ q)) 0 0 M 49 [some (va_rf a0), some (.int x1), some (.int x2), some (.int x3)] []) {a0 : Option Nat} {x1 : Int32} {x2 : Int32} {x3 : Int32} {M : gk_M} (h : fn_Mo_only_49_bd k49 a0 x1 x2 x3 M = some ρ) : Gk p l e rm_Mo_only s m args below meth c gk_Y Γ 4 (MQ below (gk_Q gk_Y Γ (some (.int ρ.1)) ρ.2) args s rm_Mo_only.cells rm_Mo_only.slots (fun q => Γ.2.2 ≤ q)) 0 0 M 49 [some (va_rf a0), some (.int x1), some (.int x2), some (.int x3)] [] := by
  unfold fn_Mo_only_49_bd at h
  refine Gk_iload_n (i := 3) (x := x3) B d_Mo_only_49 rfl rfl ?_
  refine Gk_aload_n (i := 0) (r := a0) B d_Mo_only_50 rfl rfl ?_
  obtain ⟨v51, h51, h⟩ := gk_bind h
  refine Gk_getI (j := 5) B d_Mo_only_51 in_Mo cl_Mo (by decide) tw_760 rfl h51 ?_
  refine Gk_icmp_ge (tgt := 97) B d_Mo_only_54 rfl (fun c54 => ?_) (fun c54 => ?_)
  · rw [if_pos c54] at h
    refine Gk_iload_n (i := 2) (x := x2) B d_Mo_only_97 rfl rfl ?_
    obtain ⟨z, hz, h⟩ := gk_bind h
    obtain ⟨hz1, hz2⟩ := gk_z_eq hz
    cases h
    subst hz1
    exact Gk_iret B hr d_Mo_only_98 (gk_nz hz2) (by decide) (by decide) rfl
  rw [if_neg c54] at h
  refine Gk_aload_n (i := 0) (r := a0) B d_Mo_only_57 rfl rfl ?_
  obtain ⟨v58, h58, h⟩ := gk_bind h
  refine Gk_getR (j := 54) B d_Mo_only_58 in_Mo cl_Mo (by decide) tw_809 rfl h58 ?_
  refine Gk_iload_n (i := 3) (x := x3) B d_Mo_only_61 rfl rfl ?_
  refine Gk_aload_n (i := 0) (r := a0) B d_Mo_only_62 rfl rfl ?_
  obtain ⟨v63, h63, h⟩ := gk_bind h
  refine Gk_getR (j := 54) B d_Mo_only_63 in_Mo cl_Mo (by decide) tw_809 rfl h63 ?_
  refine Gk_iload_n (i := 3) (x := x3) B d_Mo_only_66 rfl rfl ?_
  obtain ⟨v67, h67, h⟩ := gk_bind h
  refine Gk_zaload B d_Mo_only_67 ty_2 h67 ?_
  refine Gk_if_eq (tgt := 89) B d_Mo_only_68 rfl (fun c68 => ?_) (fun c68 => ?_)
  · rw [if_pos c68] at h
    exact sn_Mo_only_89 B hr H49 h
  rw [if_neg c68] at h
  refine Gk_iload_n (i := 2) (x := x2) B d_Mo_only_71 rfl rfl ?_
  refine Gk_if_eq (tgt := 85) B d_Mo_only_72 rfl (fun c72 => ?_) (fun c72 => ?_)
  · rw [if_pos c72] at h
    exact sn_Mo_only_85 B hr H49 h
  rw [if_neg c72] at h
  refine Gk_aload_n (i := 0) (r := a0) B d_Mo_only_75 rfl rfl ?_
  obtain ⟨v76, h76, h⟩ := gk_bind h
  refine Gk_getR (j := 7) B d_Mo_only_76 in_Mo cl_Mo (by decide) tw_762 rfl h76 ?_
  refine Gk_iload_n (i := 3) (x := x3) B d_Mo_only_79 rfl rfl ?_
  obtain ⟨v80, h80, h⟩ := gk_bind h
  refine Gk_iaload B d_Mo_only_80 ty_0 h80 ?_
  refine Gk_iload_n (i := 1) (x := x1) B d_Mo_only_81 rfl rfl ?_
  refine Gk_icmp_ne (tgt := 89) B d_Mo_only_82 rfl (fun c82 => ?_) (fun c82 => ?_)
  · rw [if_neg c82] at h
    exact sn_Mo_only_89 B hr H49 h
  rw [if_pos c82] at h
  exact sn_Mo_only_85 B hr H49 h
set_option maxHeartbeats 4000000 in
set_option maxRecDepth 100000 in
theorem sn_Mo_only_49 {l : Launch} {Γ : gk_G} {p : Program} {e : Env} {s : State} {m : MethodId} {args : Array Value} {below : List Frame} {meth : Method} {c : Code} (B : gk_B p s m args meth c gk_Y Γ c_Mo_only 4 "StageDispatcherModel") (hr : meth.sig.returnType = (some .boolean)) {ρ : Int32 × gk_M}   {a0 : Option Nat} {x1 : Int32} {x2 : Int32} {x3 : Int32} {M : gk_M} (h : fn_Mo_only_49  a0 x1 x2 x3 M = some ρ) : Gk p l e rm_Mo_only s m args below meth c gk_Y Γ 4 (MQ below (gk_Q gk_Y Γ (some (.int ρ.1)) ρ.2) args s rm_Mo_only.cells rm_Mo_only.slots (fun q => Γ.2.2 ≤ q)) 0 0 M 49 [some (va_rf a0), some (.int x1), some (.int x2), some (.int x3)] [] := by
  unfold fn_Mo_only_49 at h
  exact gk_loop_sound (α := Option Nat × Int32 × Int32 × Int32 × gk_M) (P := fun a => Gk p l e rm_Mo_only s m args below meth c gk_Y Γ 4 (MQ below (gk_Q gk_Y Γ (some (.int ρ.1)) ρ.2) args s rm_Mo_only.cells rm_Mo_only.slots (fun q => Γ.2.2 ≤ q)) 0 0 a.2.2.2.2 49 [some (va_rf a.1), some (.int a.2.1), some (.int a.2.2.1), some (.int a.2.2.2.1)] []) (fun kk a Hk hb => sn_Mo_only_49_bd B hr (fun a0 x1 x2 x3 M hh => Hk (a0, x1, x2, x3, M) hh) hb) _ _ h
set_option maxHeartbeats 4000000 in
set_option maxRecDepth 100000 in
theorem sn_Mo_only_4_bd {l : Launch} {Γ : gk_G} {p : Program} {e : Env} {s : State} {m : MethodId} {args : Array Value} {below : List Frame} {meth : Method} {c : Code} (B : gk_B p s m args meth c gk_Y Γ c_Mo_only 4 "StageDispatcherModel") (hr : meth.sig.returnType = (some .boolean)) {ρ : Int32 × gk_M} {k4 : Option Nat → Int32 → Int32 → Int32 → gk_M → Option (Int32 × gk_M)} (H4 : ∀ (a0 : Option Nat) (x1 : Int32) (x2 : Int32) (x3 : Int32) (M : gk_M), k4 a0 x1 x2 x3 M = some ρ → Gk p l e rm_Mo_only s m args below meth c gk_Y Γ 4 (MQ below (gk_Q gk_Y Γ (some (.int ρ.1)) ρ.2) args s rm_Mo_only.cells rm_Mo_only.slots (fun q => Γ.2.2 ≤ q)) 0 0 M 4 [some (va_rf a0), some (.int x1), some (.int x2), some (.int x3)] []) {a0 : Option Nat} {x1 : Int32} {x2 : Int32} {x3 : Int32} {M : gk_M} (h : fn_Mo_only_4_bd k4 a0 x1 x2 x3 M = some ρ) : Gk p l e rm_Mo_only s m args below meth c gk_Y Γ 4 (MQ below (gk_Q gk_Y Γ (some (.int ρ.1)) ρ.2) args s rm_Mo_only.cells rm_Mo_only.slots (fun q => Γ.2.2 ≤ q)) 0 0 M 4 [some (va_rf a0), some (.int x1), some (.int x2), some (.int x3)] [] := by
  unfold fn_Mo_only_4_bd at h
  refine Gk_iload_n (i := 3) (x := x3) B d_Mo_only_4 rfl rfl ?_
  refine Gk_aload_n (i := 0) (r := a0) B d_Mo_only_5 rfl rfl ?_
  obtain ⟨v6, h6, h⟩ := gk_bind h
  refine Gk_getI (j := 5) B d_Mo_only_6 in_Mo cl_Mo (by decide) tw_760 rfl h6 ?_
  refine Gk_icmp_ge (tgt := 47) B d_Mo_only_9 rfl (fun c9 => ?_) (fun c9 => ?_)
  · rw [if_pos c9] at h
    refine Gk_iconst (v := 0) B d_Mo_only_47 (by decide) ?_
    refine Gk_istore_n (i := 3) (L' := [some (va_rf a0), some (.int x1), some (.int x2), some (.int 0)]) B d_Mo_only_48 rfl (by decide) (gk_c1_i rfl) rfl ?_
    exact sn_Mo_only_49 B hr h
  rw [if_neg c9] at h
  refine Gk_iload_n (i := 2) (x := x2) B d_Mo_only_12 rfl rfl ?_
  refine Gk_if_ne (tgt := 35) B d_Mo_only_13 rfl (fun c13 => ?_) (fun c13 => ?_)
  · rw [if_neg c13] at h
    refine Gk_weak [true, true, false, true] (L' := [some (va_rf a0), some (.int x1), none, some (.int x3)]) rfl ?_
    exact sn_Mo_only_35 B hr H4 h
  rw [if_pos c13] at h
  refine Gk_aload_n (i := 0) (r := a0) B d_Mo_only_16 rfl rfl ?_
  obtain ⟨v17, h17, h⟩ := gk_bind h
  refine Gk_getR (j := 54) B d_Mo_only_17 in_Mo cl_Mo (by decide) tw_809 rfl h17 ?_
  refine Gk_iload_n (i := 3) (x := x3) B d_Mo_only_20 rfl rfl ?_
  obtain ⟨v21, h21, h⟩ := gk_bind h
  refine Gk_zaload B d_Mo_only_21 ty_2 h21 ?_
  refine Gk_if_eq (tgt := 39) B d_Mo_only_22 rfl (fun c22 => ?_) (fun c22 => ?_)
  · rw [if_pos c22] at h
    refine Gk_weak [true, true, false, true] (L' := [some (va_rf a0), some (.int x1), none, some (.int x3)]) rfl ?_
    exact sn_Mo_only_39 B hr H4 h
  rw [if_neg c22] at h
  refine Gk_aload_n (i := 0) (r := a0) B d_Mo_only_25 rfl rfl ?_
  obtain ⟨v26, h26, h⟩ := gk_bind h
  refine Gk_getR (j := 7) B d_Mo_only_26 in_Mo cl_Mo (by decide) tw_762 rfl h26 ?_
  refine Gk_iload_n (i := 3) (x := x3) B d_Mo_only_29 rfl rfl ?_
  obtain ⟨v30, h30, h⟩ := gk_bind h
  refine Gk_iaload B d_Mo_only_30 ty_0 h30 ?_
  refine Gk_iload_n (i := 1) (x := x1) B d_Mo_only_31 rfl rfl ?_
  refine Gk_icmp_ne (tgt := 39) B d_Mo_only_32 rfl (fun c32 => ?_) (fun c32 => ?_)
  · rw [if_neg c32] at h
    refine Gk_weak [true, true, false, true] (L' := [some (va_rf a0), some (.int x1), none, some (.int x3)]) rfl ?_
    exact sn_Mo_only_39 B hr H4 h
  rw [if_pos c32] at h
  refine Gk_weak [true, true, false, true] (L' := [some (va_rf a0), some (.int x1), none, some (.int x3)]) rfl ?_
  exact sn_Mo_only_35 B hr H4 h
set_option maxHeartbeats 4000000 in
set_option maxRecDepth 100000 in
theorem sn_Mo_only_4 {l : Launch} {Γ : gk_G} {p : Program} {e : Env} {s : State} {m : MethodId} {args : Array Value} {below : List Frame} {meth : Method} {c : Code} (B : gk_B p s m args meth c gk_Y Γ c_Mo_only 4 "StageDispatcherModel") (hr : meth.sig.returnType = (some .boolean)) {ρ : Int32 × gk_M}   {a0 : Option Nat} {x1 : Int32} {x2 : Int32} {x3 : Int32} {M : gk_M} (h : fn_Mo_only_4  a0 x1 x2 x3 M = some ρ) : Gk p l e rm_Mo_only s m args below meth c gk_Y Γ 4 (MQ below (gk_Q gk_Y Γ (some (.int ρ.1)) ρ.2) args s rm_Mo_only.cells rm_Mo_only.slots (fun q => Γ.2.2 ≤ q)) 0 0 M 4 [some (va_rf a0), some (.int x1), some (.int x2), some (.int x3)] [] := by
  unfold fn_Mo_only_4 at h
  exact gk_loop_sound (α := Option Nat × Int32 × Int32 × Int32 × gk_M) (P := fun a => Gk p l e rm_Mo_only s m args below meth c gk_Y Γ 4 (MQ below (gk_Q gk_Y Γ (some (.int ρ.1)) ρ.2) args s rm_Mo_only.cells rm_Mo_only.slots (fun q => Γ.2.2 ≤ q)) 0 0 a.2.2.2.2 4 [some (va_rf a.1), some (.int a.2.1), some (.int a.2.2.1), some (.int a.2.2.2.1)] []) (fun kk a Hk hb => sn_Mo_only_4_bd B hr (fun a0 x1 x2 x3 M hh => Hk (a0, x1, x2, x3, M) hh) hb) _ _ h
set_option maxHeartbeats 4000000 in
set_option maxRecDepth 100000 in
theorem sn_Mo_only_0 {l : Launch} {Γ : gk_G} {p : Program} {e : Env} {s : State} {m : MethodId} {args : Array Value} {below : List Frame} {meth : Method} {c : Code} (B : gk_B p s m args meth c gk_Y Γ c_Mo_only 4 "StageDispatcherModel") (hr : meth.sig.returnType = (some .boolean)) {ρ : Int32 × gk_M}   {a0 : Option Nat} {x1 : Int32} {M : gk_M} (h : fn_Mo_only  a0 x1 M = some ρ) : Gk p l e rm_Mo_only s m args below meth c gk_Y Γ 4 (MQ below (gk_Q gk_Y Γ (some (.int ρ.1)) ρ.2) args s rm_Mo_only.cells rm_Mo_only.slots (fun q => Γ.2.2 ≤ q)) 0 0 M 0 [some (va_rf a0), some (.int x1), none, none] [] := by
  unfold fn_Mo_only at h
  refine Gk_iconst (v := 0) B d_Mo_only_0 (by decide) ?_
  refine Gk_istore_n (i := 2) (L' := [some (va_rf a0), some (.int x1), some (.int 0), none]) B d_Mo_only_1 rfl (by decide) (gk_c1_i rfl) rfl ?_
  refine Gk_iconst (v := 0) B d_Mo_only_2 (by decide) ?_
  refine Gk_istore_n (i := 3) (L' := [some (va_rf a0), some (.int x1), some (.int 0), some (.int 0)]) B d_Mo_only_3 rfl (by decide) (gk_c1_i rfl) rfl ?_
  exact sn_Mo_only_4 B hr h
theorem sn_Mo_only {l : Launch} {Γ : gk_G} {a0 : Option Nat} {x1 : Int32} {M : gk_M} {ρ : Int32 × gk_M} (h : fn_Mo_only a0 x1 M = some ρ) : gk_Met l gk_Y Γ y_Mo_only (.code y_Mo_only c_Mo_only 4 (some .boolean) :: gk_Y.2.2.2) rm_Mo_only [va_rf a0, .int x1] M (some (.int ρ.1)) ρ.2 :=
  gk_start (by decide) (by simp [lg_sl, gk_rc, gk_ic, gk_jc]) [some (va_rf a0), some (.int x1), none, none] (by simp [gk_as, lv_args, gk_rc, gk_ic, gk_jc]) (fun p e s m args below meth c B hr hin => sn_Mo_only_0 B hr h)
theorem d_Mo_covers_0 : decode c_Mo_covers 0 = .ok (.iload_n 0, 1) := by decide +kernel
theorem d_Mo_covers_1 : decode c_Mo_covers 1 = .ok (.ifCond .eq 26, 3) := by decide +kernel
theorem d_Mo_covers_4 : decode c_Mo_covers 4 = .ok (.iload_n 0, 1) := by decide +kernel
theorem d_Mo_covers_5 : decode c_Mo_covers 5 = .ok (.iload_n 1, 1) := by decide +kernel
theorem d_Mo_covers_6 : decode c_Mo_covers 6 = .ok (.if_icmp .eq 21, 3) := by decide +kernel
theorem d_Mo_covers_9 : decode c_Mo_covers 9 = .ok (.iload_n 0, 1) := by decide +kernel
theorem d_Mo_covers_10 : decode c_Mo_covers 10 = .ok (.bipush 16, 2) := by decide +kernel
theorem d_Mo_covers_12 : decode c_Mo_covers 12 = .ok (.irem, 1) := by decide +kernel
theorem d_Mo_covers_13 : decode c_Mo_covers 13 = .ok (.ifCond .ne 18, 3) := by decide +kernel
theorem d_Mo_covers_16 : decode c_Mo_covers 16 = .ok (.iload_n 0, 1) := by decide +kernel
theorem d_Mo_covers_17 : decode c_Mo_covers 17 = .ok (.bipush 16, 2) := by decide +kernel
theorem d_Mo_covers_19 : decode c_Mo_covers 19 = .ok (.idiv, 1) := by decide +kernel
theorem d_Mo_covers_20 : decode c_Mo_covers 20 = .ok (.iload_n 1, 1) := by decide +kernel
theorem d_Mo_covers_21 : decode c_Mo_covers 21 = .ok (.bipush 16, 2) := by decide +kernel
theorem d_Mo_covers_23 : decode c_Mo_covers 23 = .ok (.idiv, 1) := by decide +kernel
theorem d_Mo_covers_24 : decode c_Mo_covers 24 = .ok (.if_icmp .ne 7, 3) := by decide +kernel
theorem d_Mo_covers_27 : decode c_Mo_covers 27 = .ok (.iconst 1, 1) := by decide +kernel
theorem d_Mo_covers_28 : decode c_Mo_covers 28 = .ok (.goto 4, 3) := by decide +kernel
theorem d_Mo_covers_31 : decode c_Mo_covers 31 = .ok (.iconst 0, 1) := by decide +kernel
theorem d_Mo_covers_32 : decode c_Mo_covers 32 = .ok (.ireturn, 1) := by decide +kernel
set_option maxHeartbeats 4000000 in
set_option maxRecDepth 100000 in
theorem sn_Mo_covers_27 {l : Launch} {Γ : gk_G} {p : Program} {e : Env} {s : State} {m : MethodId} {args : Array Value} {below : List Frame} {meth : Method} {c : Code} (B : gk_B p s m args meth c gk_Y Γ c_Mo_covers 2 "StageDispatcherModel") (hr : meth.sig.returnType = (some .boolean)) {ρ : Int32 × gk_M}    {M : gk_M} (h : fn_Mo_covers_27   M = some ρ) : Gk p l e rm_Mo_covers s m args below meth c gk_Y Γ 2 (MQ below (gk_Q gk_Y Γ (some (.int ρ.1)) ρ.2) args s rm_Mo_covers.cells rm_Mo_covers.slots (fun q => Γ.2.2 ≤ q)) 0 0 M 27 [none, none] [] := by
  unfold fn_Mo_covers_27 at h
  refine Gk_iconst (v := 1) B d_Mo_covers_27 (by decide) ?_
  refine Gk_goto (tgt := 32) B d_Mo_covers_28 rfl ?_
  obtain ⟨z, hz, h⟩ := gk_bind h
  obtain ⟨hz1, hz2⟩ := gk_z_eq hz
  cases h
  subst hz1
  exact Gk_iret B hr d_Mo_covers_32 (gk_nz hz2) (by decide) (by decide) rfl
set_option maxHeartbeats 4000000 in
set_option maxRecDepth 100000 in
theorem sn_Mo_covers_31 {l : Launch} {Γ : gk_G} {p : Program} {e : Env} {s : State} {m : MethodId} {args : Array Value} {below : List Frame} {meth : Method} {c : Code} (B : gk_B p s m args meth c gk_Y Γ c_Mo_covers 2 "StageDispatcherModel") (hr : meth.sig.returnType = (some .boolean)) {ρ : Int32 × gk_M}    {M : gk_M} (h : fn_Mo_covers_31   M = some ρ) : Gk p l e rm_Mo_covers s m args below meth c gk_Y Γ 2 (MQ below (gk_Q gk_Y Γ (some (.int ρ.1)) ρ.2) args s rm_Mo_covers.cells rm_Mo_covers.slots (fun q => Γ.2.2 ≤ q)) 0 0 M 31 [none, none] [] := by
  unfold fn_Mo_covers_31 at h
  refine Gk_iconst (v := 0) B d_Mo_covers_31 (by decide) ?_
  obtain ⟨z, hz, h⟩ := gk_bind h
  obtain ⟨hz1, hz2⟩ := gk_z_eq hz
  cases h
  subst hz1
  exact Gk_iret B hr d_Mo_covers_32 (gk_nz hz2) (by decide) (by decide) rfl
set_option maxHeartbeats 4000000 in
set_option maxRecDepth 100000 in
theorem sn_Mo_covers_0 {l : Launch} {Γ : gk_G} {p : Program} {e : Env} {s : State} {m : MethodId} {args : Array Value} {below : List Frame} {meth : Method} {c : Code} (B : gk_B p s m args meth c gk_Y Γ c_Mo_covers 2 "StageDispatcherModel") (hr : meth.sig.returnType = (some .boolean)) {ρ : Int32 × gk_M}   {x0 : Int32} {x1 : Int32} {M : gk_M} (h : fn_Mo_covers  x0 x1 M = some ρ) : Gk p l e rm_Mo_covers s m args below meth c gk_Y Γ 2 (MQ below (gk_Q gk_Y Γ (some (.int ρ.1)) ρ.2) args s rm_Mo_covers.cells rm_Mo_covers.slots (fun q => Γ.2.2 ≤ q)) 0 0 M 0 [some (.int x0), some (.int x1)] [] := by
  unfold fn_Mo_covers at h
  refine Gk_iload_n (i := 0) (x := x0) B d_Mo_covers_0 rfl rfl ?_
  refine Gk_if_eq (tgt := 27) B d_Mo_covers_1 rfl (fun c1 => ?_) (fun c1 => ?_)
  · rw [if_pos c1] at h
    refine Gk_weak [false, false] (L' := [none, none]) rfl ?_
    exact sn_Mo_covers_27 B hr h
  rw [if_neg c1] at h
  refine Gk_iload_n (i := 0) (x := x0) B d_Mo_covers_4 rfl rfl ?_
  refine Gk_iload_n (i := 1) (x := x1) B d_Mo_covers_5 rfl rfl ?_
  refine Gk_icmp_eq (tgt := 27) B d_Mo_covers_6 rfl (fun c6 => ?_) (fun c6 => ?_)
  · rw [if_pos c6] at h
    refine Gk_weak [false, false] (L' := [none, none]) rfl ?_
    exact sn_Mo_covers_27 B hr h
  rw [if_neg c6] at h
  refine Gk_iload_n (i := 0) (x := x0) B d_Mo_covers_9 rfl rfl ?_
  refine Gk_bipush (v := 16) B d_Mo_covers_10 (by decide) ?_
  refine Gk_irem B d_Mo_covers_12 (by decide) ?_
  refine Gk_if_ne (tgt := 31) B d_Mo_covers_13 rfl (fun c13 => ?_) (fun c13 => ?_)
  · rw [if_neg c13] at h
    refine Gk_weak [false, false] (L' := [none, none]) rfl ?_
    exact sn_Mo_covers_31 B hr h
  rw [if_pos c13] at h
  refine Gk_iload_n (i := 0) (x := x0) B d_Mo_covers_16 rfl rfl ?_
  refine Gk_bipush (v := 16) B d_Mo_covers_17 (by decide) ?_
  refine Gk_idiv B d_Mo_covers_19 (by decide) ?_
  refine Gk_iload_n (i := 1) (x := x1) B d_Mo_covers_20 rfl rfl ?_
  refine Gk_bipush (v := 16) B d_Mo_covers_21 (by decide) ?_
  refine Gk_idiv B d_Mo_covers_23 (by decide) ?_
  refine Gk_icmp_ne (tgt := 31) B d_Mo_covers_24 rfl (fun c24 => ?_) (fun c24 => ?_)
  · rw [if_neg c24] at h
    refine Gk_weak [false, false] (L' := [none, none]) rfl ?_
    exact sn_Mo_covers_31 B hr h
  rw [if_pos c24] at h
  refine Gk_weak [false, false] (L' := [none, none]) rfl ?_
  exact sn_Mo_covers_27 B hr h
theorem sn_Mo_covers {l : Launch} {Γ : gk_G} {x0 : Int32} {x1 : Int32} {M : gk_M} {ρ : Int32 × gk_M} (h : fn_Mo_covers x0 x1 M = some ρ) : gk_Met l gk_Y Γ y_Mo_covers (.code y_Mo_covers c_Mo_covers 2 (some .boolean) :: gk_Y.2.2.2) rm_Mo_covers [.int x0, .int x1] M (some (.int ρ.1)) ρ.2 :=
  gk_start (by decide) (by simp [lg_sl, gk_rc, gk_ic, gk_jc]) [some (.int x0), some (.int x1)] (by simp [gk_as, lv_args, gk_rc, gk_ic, gk_jc]) (fun p e s m args below meth c B hr hin => sn_Mo_covers_0 B hr h)
theorem d_Mo_any_0 : decode c_Mo_any 0 = .ok (.iconst 0, 1) := by decide +kernel
theorem d_Mo_any_1 : decode c_Mo_any 1 = .ok (.istore_n 1, 1) := by decide +kernel
theorem d_Mo_any_2 : decode c_Mo_any 2 = .ok (.iconst 0, 1) := by decide +kernel
theorem d_Mo_any_3 : decode c_Mo_any 3 = .ok (.istore_n 2, 1) := by decide +kernel
theorem d_Mo_any_4 : decode c_Mo_any 4 = .ok (.iload_n 2, 1) := by decide +kernel
theorem d_Mo_any_5 : decode c_Mo_any 5 = .ok (.aload_n 0, 1) := by decide +kernel
theorem d_Mo_any_6 : decode c_Mo_any 6 = .ok (.getfield 175, 3) := by decide +kernel
theorem d_Mo_any_9 : decode c_Mo_any 9 = .ok (.if_icmp .ge 28, 3) := by decide +kernel
theorem d_Mo_any_12 : decode c_Mo_any 12 = .ok (.iload_n 1, 1) := by decide +kernel
theorem d_Mo_any_13 : decode c_Mo_any 13 = .ok (.ifCond .ne 12, 3) := by decide +kernel
theorem d_Mo_any_16 : decode c_Mo_any 16 = .ok (.aload_n 0, 1) := by decide +kernel
theorem d_Mo_any_17 : decode c_Mo_any 17 = .ok (.getfield 108, 3) := by decide +kernel
theorem d_Mo_any_20 : decode c_Mo_any 20 = .ok (.iload_n 2, 1) := by decide +kernel
theorem d_Mo_any_21 : decode c_Mo_any 21 = .ok (.baload, 1) := by decide +kernel
theorem d_Mo_any_22 : decode c_Mo_any 22 = .ok (.ifCond .eq 7, 3) := by decide +kernel
theorem d_Mo_any_25 : decode c_Mo_any 25 = .ok (.iconst 1, 1) := by decide +kernel
theorem d_Mo_any_26 : decode c_Mo_any 26 = .ok (.goto 4, 3) := by decide +kernel
theorem d_Mo_any_29 : decode c_Mo_any 29 = .ok (.iconst 0, 1) := by decide +kernel
theorem d_Mo_any_30 : decode c_Mo_any 30 = .ok (.istore_n 1, 1) := by decide +kernel
theorem d_Mo_any_31 : decode c_Mo_any 31 = .ok (.iinc 2 1, 3) := by decide +kernel
theorem d_Mo_any_34 : decode c_Mo_any 34 = .ok (.goto (-30), 3) := by decide +kernel
theorem d_Mo_any_37 : decode c_Mo_any 37 = .ok (.iload_n 1, 1) := by decide +kernel
theorem d_Mo_any_38 : decode c_Mo_any 38 = .ok (.ireturn, 1) := by decide +kernel
set_option maxHeartbeats 4000000 in
set_option maxRecDepth 100000 in
theorem sn_Mo_any_30 {l : Launch} {Γ : gk_G} {p : Program} {e : Env} {s : State} {m : MethodId} {args : Array Value} {below : List Frame} {meth : Method} {c : Code} (B : gk_B p s m args meth c gk_Y Γ c_Mo_any 3 "StageDispatcherModel") (hr : meth.sig.returnType = (some .boolean)) {ρ : Int32 × gk_M} {k4 : Option Nat → Int32 → Int32 → gk_M → Option (Int32 × gk_M)} (H4 : ∀ (a0 : Option Nat) (x1 : Int32) (x2 : Int32) (M : gk_M), k4 a0 x1 x2 M = some ρ → Gk p l e rm_Mo_any s m args below meth c gk_Y Γ 3 (MQ below (gk_Q gk_Y Γ (some (.int ρ.1)) ρ.2) args s rm_Mo_any.cells rm_Mo_any.slots (fun q => Γ.2.2 ≤ q)) 0 0 M 4 [some (va_rf a0), some (.int x1), some (.int x2)] []) {a0 : Option Nat} {x2 : Int32} {s0 : Int32} {M : gk_M} (h : fn_Mo_any_30 k4 a0 x2 s0 M = some ρ) : Gk p l e rm_Mo_any s m args below meth c gk_Y Γ 3 (MQ below (gk_Q gk_Y Γ (some (.int ρ.1)) ρ.2) args s rm_Mo_any.cells rm_Mo_any.slots (fun q => Γ.2.2 ≤ q)) 0 0 M 30 [some (va_rf a0), none, some (.int x2)] [.int s0] := by
  unfold fn_Mo_any_30 at h
  refine Gk_istore_n (i := 1) (L' := [some (va_rf a0), some (.int s0), some (.int x2)]) B d_Mo_any_30 rfl (by decide) (gk_c1_r rfl) rfl ?_
  refine Gk_iinc (x := x2) (v := (x2 + 1)) (L' := [some (va_rf a0), some (.int s0), some (.int (x2 + 1))]) B d_Mo_any_31 rfl (congrArg (fun z => x2 + z) (by decide : Int32.ofInt 1 = 1)) (by decide) (gk_c1_i rfl) rfl ?_
  refine Gk_goto (tgt := 4) B d_Mo_any_34 rfl ?_
  exact H4 a0 s0 (x2 + 1) M h
set_option maxHeartbeats 4000000 in
set_option maxRecDepth 100000 in
theorem sn_Mo_any_25 {l : Launch} {Γ : gk_G} {p : Program} {e : Env} {s : State} {m : MethodId} {args : Array Value} {below : List Frame} {meth : Method} {c : Code} (B : gk_B p s m args meth c gk_Y Γ c_Mo_any 3 "StageDispatcherModel") (hr : meth.sig.returnType = (some .boolean)) {ρ : Int32 × gk_M} {k4 : Option Nat → Int32 → Int32 → gk_M → Option (Int32 × gk_M)} (H4 : ∀ (a0 : Option Nat) (x1 : Int32) (x2 : Int32) (M : gk_M), k4 a0 x1 x2 M = some ρ → Gk p l e rm_Mo_any s m args below meth c gk_Y Γ 3 (MQ below (gk_Q gk_Y Γ (some (.int ρ.1)) ρ.2) args s rm_Mo_any.cells rm_Mo_any.slots (fun q => Γ.2.2 ≤ q)) 0 0 M 4 [some (va_rf a0), some (.int x1), some (.int x2)] []) {a0 : Option Nat} {x2 : Int32} {M : gk_M} (h : fn_Mo_any_25 k4 a0 x2 M = some ρ) : Gk p l e rm_Mo_any s m args below meth c gk_Y Γ 3 (MQ below (gk_Q gk_Y Γ (some (.int ρ.1)) ρ.2) args s rm_Mo_any.cells rm_Mo_any.slots (fun q => Γ.2.2 ≤ q)) 0 0 M 25 [some (va_rf a0), none, some (.int x2)] [] := by
  unfold fn_Mo_any_25 at h
  refine Gk_iconst (v := 1) B d_Mo_any_25 (by decide) ?_
  refine Gk_goto (tgt := 30) B d_Mo_any_26 rfl ?_
  exact sn_Mo_any_30 B hr H4 h
set_option maxHeartbeats 4000000 in
set_option maxRecDepth 100000 in
theorem sn_Mo_any_4_bd {l : Launch} {Γ : gk_G} {p : Program} {e : Env} {s : State} {m : MethodId} {args : Array Value} {below : List Frame} {meth : Method} {c : Code} (B : gk_B p s m args meth c gk_Y Γ c_Mo_any 3 "StageDispatcherModel") (hr : meth.sig.returnType = (some .boolean)) {ρ : Int32 × gk_M} {k4 : Option Nat → Int32 → Int32 → gk_M → Option (Int32 × gk_M)} (H4 : ∀ (a0 : Option Nat) (x1 : Int32) (x2 : Int32) (M : gk_M), k4 a0 x1 x2 M = some ρ → Gk p l e rm_Mo_any s m args below meth c gk_Y Γ 3 (MQ below (gk_Q gk_Y Γ (some (.int ρ.1)) ρ.2) args s rm_Mo_any.cells rm_Mo_any.slots (fun q => Γ.2.2 ≤ q)) 0 0 M 4 [some (va_rf a0), some (.int x1), some (.int x2)] []) {a0 : Option Nat} {x1 : Int32} {x2 : Int32} {M : gk_M} (h : fn_Mo_any_4_bd k4 a0 x1 x2 M = some ρ) : Gk p l e rm_Mo_any s m args below meth c gk_Y Γ 3 (MQ below (gk_Q gk_Y Γ (some (.int ρ.1)) ρ.2) args s rm_Mo_any.cells rm_Mo_any.slots (fun q => Γ.2.2 ≤ q)) 0 0 M 4 [some (va_rf a0), some (.int x1), some (.int x2)] [] := by
  unfold fn_Mo_any_4_bd at h
  refine Gk_iload_n (i := 2) (x := x2) B d_Mo_any_4 rfl rfl ?_
  refine Gk_aload_n (i := 0) (r := a0) B d_Mo_any_5 rfl rfl ?_
  obtain ⟨v6, h6, h⟩ := gk_bind h
  refine Gk_getI (j := 5) B d_Mo_any_6 in_Mo cl_Mo (by decide) tw_760 rfl h6 ?_
  refine Gk_icmp_ge (tgt := 37) B d_Mo_any_9 rfl (fun c9 => ?_) (fun c9 => ?_)
  · rw [if_pos c9] at h
    refine Gk_iload_n (i := 1) (x := x1) B d_Mo_any_37 rfl rfl ?_
    obtain ⟨z, hz, h⟩ := gk_bind h
    obtain ⟨hz1, hz2⟩ := gk_z_eq hz
    cases h
    subst hz1
    exact Gk_iret B hr d_Mo_any_38 (gk_nz hz2) (by decide) (by decide) rfl
  rw [if_neg c9] at h
  refine Gk_iload_n (i := 1) (x := x1) B d_Mo_any_12 rfl rfl ?_
  refine Gk_if_ne (tgt := 25) B d_Mo_any_13 rfl (fun c13 => ?_) (fun c13 => ?_)
  · rw [if_neg c13] at h
    refine Gk_weak [true, false, true] (L' := [some (va_rf a0), none, some (.int x2)]) rfl ?_
    exact sn_Mo_any_25 B hr H4 h
  rw [if_pos c13] at h
  refine Gk_aload_n (i := 0) (r := a0) B d_Mo_any_16 rfl rfl ?_
  obtain ⟨v17, h17, h⟩ := gk_bind h
  refine Gk_getR (j := 54) B d_Mo_any_17 in_Mo cl_Mo (by decide) tw_809 rfl h17 ?_
  refine Gk_iload_n (i := 2) (x := x2) B d_Mo_any_20 rfl rfl ?_
  obtain ⟨v21, h21, h⟩ := gk_bind h
  refine Gk_zaload B d_Mo_any_21 ty_2 h21 ?_
  refine Gk_if_eq (tgt := 29) B d_Mo_any_22 rfl (fun c22 => ?_) (fun c22 => ?_)
  · rw [if_pos c22] at h
    refine Gk_iconst (v := 0) B d_Mo_any_29 (by decide) ?_
    refine Gk_weak [true, false, true] (L' := [some (va_rf a0), none, some (.int x2)]) rfl ?_
    exact sn_Mo_any_30 B hr H4 h
  rw [if_neg c22] at h
  refine Gk_weak [true, false, true] (L' := [some (va_rf a0), none, some (.int x2)]) rfl ?_
  exact sn_Mo_any_25 B hr H4 h
set_option maxHeartbeats 4000000 in
set_option maxRecDepth 100000 in
theorem sn_Mo_any_4 {l : Launch} {Γ : gk_G} {p : Program} {e : Env} {s : State} {m : MethodId} {args : Array Value} {below : List Frame} {meth : Method} {c : Code} (B : gk_B p s m args meth c gk_Y Γ c_Mo_any 3 "StageDispatcherModel") (hr : meth.sig.returnType = (some .boolean)) {ρ : Int32 × gk_M}   {a0 : Option Nat} {x1 : Int32} {x2 : Int32} {M : gk_M} (h : fn_Mo_any_4  a0 x1 x2 M = some ρ) : Gk p l e rm_Mo_any s m args below meth c gk_Y Γ 3 (MQ below (gk_Q gk_Y Γ (some (.int ρ.1)) ρ.2) args s rm_Mo_any.cells rm_Mo_any.slots (fun q => Γ.2.2 ≤ q)) 0 0 M 4 [some (va_rf a0), some (.int x1), some (.int x2)] [] := by
  unfold fn_Mo_any_4 at h
  exact gk_loop_sound (α := Option Nat × Int32 × Int32 × gk_M) (P := fun a => Gk p l e rm_Mo_any s m args below meth c gk_Y Γ 3 (MQ below (gk_Q gk_Y Γ (some (.int ρ.1)) ρ.2) args s rm_Mo_any.cells rm_Mo_any.slots (fun q => Γ.2.2 ≤ q)) 0 0 a.2.2.2 4 [some (va_rf a.1), some (.int a.2.1), some (.int a.2.2.1)] []) (fun kk a Hk hb => sn_Mo_any_4_bd B hr (fun a0 x1 x2 M hh => Hk (a0, x1, x2, M) hh) hb) _ _ h
set_option maxHeartbeats 4000000 in
set_option maxRecDepth 100000 in
theorem sn_Mo_any_0 {l : Launch} {Γ : gk_G} {p : Program} {e : Env} {s : State} {m : MethodId} {args : Array Value} {below : List Frame} {meth : Method} {c : Code} (B : gk_B p s m args meth c gk_Y Γ c_Mo_any 3 "StageDispatcherModel") (hr : meth.sig.returnType = (some .boolean)) {ρ : Int32 × gk_M}   {a0 : Option Nat} {M : gk_M} (h : fn_Mo_any  a0 M = some ρ) : Gk p l e rm_Mo_any s m args below meth c gk_Y Γ 3 (MQ below (gk_Q gk_Y Γ (some (.int ρ.1)) ρ.2) args s rm_Mo_any.cells rm_Mo_any.slots (fun q => Γ.2.2 ≤ q)) 0 0 M 0 [some (va_rf a0), none, none] [] := by
  unfold fn_Mo_any at h
  refine Gk_iconst (v := 0) B d_Mo_any_0 (by decide) ?_
  refine Gk_istore_n (i := 1) (L' := [some (va_rf a0), some (.int 0), none]) B d_Mo_any_1 rfl (by decide) (gk_c1_r rfl) rfl ?_
  refine Gk_iconst (v := 0) B d_Mo_any_2 (by decide) ?_
  refine Gk_istore_n (i := 2) (L' := [some (va_rf a0), some (.int 0), some (.int 0)]) B d_Mo_any_3 rfl (by decide) (gk_c1_i rfl) rfl ?_
  exact sn_Mo_any_4 B hr h
theorem sn_Mo_any {l : Launch} {Γ : gk_G} {a0 : Option Nat} {M : gk_M} {ρ : Int32 × gk_M} (h : fn_Mo_any a0 M = some ρ) : gk_Met l gk_Y Γ y_Mo_any (.code y_Mo_any c_Mo_any 3 (some .boolean) :: gk_Y.2.2.2) rm_Mo_any [va_rf a0] M (some (.int ρ.1)) ρ.2 :=
  gk_start (by decide) (by simp [lg_sl, gk_rc, gk_ic, gk_jc]) [some (va_rf a0), none, none] (by simp [gk_as, lv_args, gk_rc, gk_ic, gk_jc]) (fun p e s m args below meth c B hr hin => sn_Mo_any_0 B hr h)
theorem d_Mo_meet_0 : decode c_Mo_meet 0 = .ok (.iload_n 0, 1) := by decide +kernel
theorem d_Mo_meet_1 : decode c_Mo_meet 1 = .ok (.iload_n 1, 1) := by decide +kernel
theorem d_Mo_meet_2 : decode c_Mo_meet 2 = .ok (.invokestatic 152, 3) := by decide +kernel
theorem d_Mo_meet_5 : decode c_Mo_meet 5 = .ok (.ifCond .ne 11, 3) := by decide +kernel
theorem d_Mo_meet_8 : decode c_Mo_meet 8 = .ok (.iload_n 1, 1) := by decide +kernel
theorem d_Mo_meet_9 : decode c_Mo_meet 9 = .ok (.iload_n 0, 1) := by decide +kernel
theorem d_Mo_meet_10 : decode c_Mo_meet 10 = .ok (.invokestatic 152, 3) := by decide +kernel
theorem d_Mo_meet_13 : decode c_Mo_meet 13 = .ok (.ifCond .eq 7, 3) := by decide +kernel
theorem d_Mo_meet_16 : decode c_Mo_meet 16 = .ok (.iconst 1, 1) := by decide +kernel
theorem d_Mo_meet_17 : decode c_Mo_meet 17 = .ok (.goto 4, 3) := by decide +kernel
theorem d_Mo_meet_20 : decode c_Mo_meet 20 = .ok (.iconst 0, 1) := by decide +kernel
theorem d_Mo_meet_21 : decode c_Mo_meet 21 = .ok (.ireturn, 1) := by decide +kernel
set_option maxHeartbeats 4000000 in
set_option maxRecDepth 100000 in
theorem sn_Mo_meet_16 {l : Launch} {Γ : gk_G} {p : Program} {e : Env} {s : State} {m : MethodId} {args : Array Value} {below : List Frame} {meth : Method} {c : Code} (B : gk_B p s m args meth c gk_Y Γ c_Mo_meet 2 "StageDispatcherModel") (hr : meth.sig.returnType = (some .boolean)) {ρ : Int32 × gk_M}    {M : gk_M} (h : fn_Mo_meet_16   M = some ρ) : Gk p l e rm_Mo_meet s m args below meth c gk_Y Γ 2 (MQ below (gk_Q gk_Y Γ (some (.int ρ.1)) ρ.2) args s rm_Mo_meet.cells rm_Mo_meet.slots (fun q => Γ.2.2 ≤ q)) 0 0 M 16 [none, none] [] := by
  unfold fn_Mo_meet_16 at h
  refine Gk_iconst (v := 1) B d_Mo_meet_16 (by decide) ?_
  refine Gk_goto (tgt := 21) B d_Mo_meet_17 rfl ?_
  obtain ⟨z, hz, h⟩ := gk_bind h
  obtain ⟨hz1, hz2⟩ := gk_z_eq hz
  cases h
  subst hz1
  exact Gk_iret B hr d_Mo_meet_21 (gk_nz hz2) (by decide) (by decide) rfl
set_option maxHeartbeats 4000000 in
set_option maxRecDepth 100000 in
theorem sn_Mo_meet_0 {l : Launch} {Γ : gk_G} {p : Program} {e : Env} {s : State} {m : MethodId} {args : Array Value} {below : List Frame} {meth : Method} {c : Code} (B : gk_B p s m args meth c gk_Y Γ c_Mo_meet 2 "StageDispatcherModel") (hr : meth.sig.returnType = (some .boolean)) {ρ : Int32 × gk_M}   {x0 : Int32} {x1 : Int32} {M : gk_M} (h : fn_Mo_meet  x0 x1 M = some ρ) : Gk p l e rm_Mo_meet s m args below meth c gk_Y Γ 2 (MQ below (gk_Q gk_Y Γ (some (.int ρ.1)) ρ.2) args s rm_Mo_meet.cells rm_Mo_meet.slots (fun q => Γ.2.2 ≤ q)) 0 0 M 0 [some (.int x0), some (.int x1)] [] := by
  unfold fn_Mo_meet at h
  refine Gk_iload_n (i := 0) (x := x0) B d_Mo_meet_0 rfl rfl ?_
  refine Gk_iload_n (i := 1) (x := x1) B d_Mo_meet_1 rfl rfl ?_
  obtain ⟨w2, h2, h⟩ := gk_bind h
  refine Gk_callS (As := [.int x0, .int x1]) (rest := []) (st1 := [.int w2.1]) (k1 := 0) (n1 := 0) B gk_hG d_Mo_meet_2 (sn_Mo_covers h2) tw_1055 tw_1053 tw_1054 tw_48 nm_Mo_covers rfl (by decide) ⟨by decide, by decide⟩ ⟨by decide, by decide⟩ rfl rfl rfl rfl ?_
  refine Gk_if_ne (tgt := 16) B d_Mo_meet_5 rfl (fun c5 => ?_) (fun c5 => ?_)
  · rw [if_neg c5] at h
    refine Gk_weak [false, false] (L' := [none, none]) rfl ?_
    exact sn_Mo_meet_16 B hr h
  rw [if_pos c5] at h
  refine Gk_iload_n (i := 1) (x := x1) B d_Mo_meet_8 rfl rfl ?_
  refine Gk_iload_n (i := 0) (x := x0) B d_Mo_meet_9 rfl rfl ?_
  obtain ⟨w10, h10, h⟩ := gk_bind h
  refine Gk_callS (As := [.int x1, .int x0]) (rest := []) (st1 := [.int w10.1]) (k1 := 0) (n1 := 0) B gk_hG d_Mo_meet_10 (sn_Mo_covers h10) tw_1055 tw_1053 tw_1054 tw_48 nm_Mo_covers rfl (by decide) ⟨by decide, by decide⟩ ⟨by decide, by decide⟩ rfl rfl rfl rfl ?_
  refine Gk_if_eq (tgt := 20) B d_Mo_meet_13 rfl (fun c13 => ?_) (fun c13 => ?_)
  · rw [if_pos c13] at h
    refine Gk_iconst (v := 0) B d_Mo_meet_20 (by decide) ?_
    obtain ⟨z, hz, h⟩ := gk_bind h
    obtain ⟨hz1, hz2⟩ := gk_z_eq hz
    cases h
    subst hz1
    exact Gk_iret B hr d_Mo_meet_21 (gk_nz hz2) (by decide) (by decide) rfl
  rw [if_neg c13] at h
  refine Gk_weak [false, false] (L' := [none, none]) rfl ?_
  exact sn_Mo_meet_16 B hr h
theorem sn_Mo_meet {l : Launch} {Γ : gk_G} {x0 : Int32} {x1 : Int32} {M : gk_M} {ρ : Int32 × gk_M} (h : fn_Mo_meet x0 x1 M = some ρ) : gk_Met l gk_Y Γ y_Mo_meet (.code y_Mo_meet c_Mo_meet 2 (some .boolean) :: gk_Y.2.2.2) rm_Mo_meet [.int x0, .int x1] M (some (.int ρ.1)) ρ.2 :=
  gk_start (by decide) (by simp [lg_sl, gk_rc, gk_ic, gk_jc]) [some (.int x0), some (.int x1)] (by simp [gk_as, lv_args, gk_rc, gk_ic, gk_jc]) (fun p e s m args below meth c B hr hin => sn_Mo_meet_0 B hr h)
theorem d_Mo_accepted_0 : decode c_Mo_accepted 0 = .ok (.aload_n 0, 1) := by decide +kernel
theorem d_Mo_accepted_1 : decode c_Mo_accepted 1 = .ok (.getfield 184, 3) := by decide +kernel
theorem d_Mo_accepted_4 : decode c_Mo_accepted 4 = .ok (.ifCond .ne 7, 3) := by decide +kernel
theorem d_Mo_accepted_7 : decode c_Mo_accepted 7 = .ok (.iconst 1, 1) := by decide +kernel
theorem d_Mo_accepted_8 : decode c_Mo_accepted 8 = .ok (.goto 4, 3) := by decide +kernel
theorem d_Mo_accepted_11 : decode c_Mo_accepted 11 = .ok (.iconst 0, 1) := by decide +kernel
theorem d_Mo_accepted_12 : decode c_Mo_accepted 12 = .ok (.istore_n 2, 1) := by decide +kernel
theorem d_Mo_accepted_13 : decode c_Mo_accepted 13 = .ok (.iconst 0, 1) := by decide +kernel
theorem d_Mo_accepted_14 : decode c_Mo_accepted 14 = .ok (.istore_n 3, 1) := by decide +kernel
theorem d_Mo_accepted_15 : decode c_Mo_accepted 15 = .ok (.iload_n 3, 1) := by decide +kernel
theorem d_Mo_accepted_16 : decode c_Mo_accepted 16 = .ok (.aload_n 0, 1) := by decide +kernel
theorem d_Mo_accepted_17 : decode c_Mo_accepted 17 = .ok (.getfield 184, 3) := by decide +kernel
theorem d_Mo_accepted_20 : decode c_Mo_accepted 20 = .ok (.if_icmp .ge 46, 3) := by decide +kernel
theorem d_Mo_accepted_23 : decode c_Mo_accepted 23 = .ok (.iload_n 2, 1) := by decide +kernel
theorem d_Mo_accepted_24 : decode c_Mo_accepted 24 = .ok (.ifCond .ne 30, 3) := by decide +kernel
theorem d_Mo_accepted_27 : decode c_Mo_accepted 27 = .ok (.aload_n 0, 1) := by decide +kernel
theorem d_Mo_accepted_28 : decode c_Mo_accepted 28 = .ok (.getfield 75, 3) := by decide +kernel
theorem d_Mo_accepted_31 : decode c_Mo_accepted 31 = .ok (.iload_n 3, 1) := by decide +kernel
theorem d_Mo_accepted_32 : decode c_Mo_accepted 32 = .ok (.iaload, 1) := by decide +kernel
theorem d_Mo_accepted_33 : decode c_Mo_accepted 33 = .ok (.ifCond .le 25, 3) := by decide +kernel
theorem d_Mo_accepted_36 : decode c_Mo_accepted 36 = .ok (.aload_n 0, 1) := by decide +kernel
theorem d_Mo_accepted_37 : decode c_Mo_accepted 37 = .ok (.getfield 29, 3) := by decide +kernel
theorem d_Mo_accepted_40 : decode c_Mo_accepted 40 = .ok (.iload_n 1, 1) := by decide +kernel
theorem d_Mo_accepted_41 : decode c_Mo_accepted 41 = .ok (.iaload, 1) := by decide +kernel
theorem d_Mo_accepted_42 : decode c_Mo_accepted 42 = .ok (.aload_n 0, 1) := by decide +kernel
theorem d_Mo_accepted_43 : decode c_Mo_accepted 43 = .ok (.getfield 72, 3) := by decide +kernel
theorem d_Mo_accepted_46 : decode c_Mo_accepted 46 = .ok (.iload_n 3, 1) := by decide +kernel
theorem d_Mo_accepted_47 : decode c_Mo_accepted 47 = .ok (.iaload, 1) := by decide +kernel
theorem d_Mo_accepted_48 : decode c_Mo_accepted 48 = .ok (.invokestatic 212, 3) := by decide +kernel
theorem d_Mo_accepted_51 : decode c_Mo_accepted 51 = .ok (.ifCond .eq 7, 3) := by decide +kernel
theorem d_Mo_accepted_54 : decode c_Mo_accepted 54 = .ok (.iconst 1, 1) := by decide +kernel
theorem d_Mo_accepted_55 : decode c_Mo_accepted 55 = .ok (.goto 4, 3) := by decide +kernel
theorem d_Mo_accepted_58 : decode c_Mo_accepted 58 = .ok (.iconst 0, 1) := by decide +kernel
theorem d_Mo_accepted_59 : decode c_Mo_accepted 59 = .ok (.istore_n 2, 1) := by decide +kernel
theorem d_Mo_accepted_60 : decode c_Mo_accepted 60 = .ok (.iinc 3 1, 3) := by decide +kernel
theorem d_Mo_accepted_63 : decode c_Mo_accepted 63 = .ok (.goto (-48), 3) := by decide +kernel
theorem d_Mo_accepted_66 : decode c_Mo_accepted 66 = .ok (.iload_n 2, 1) := by decide +kernel
theorem d_Mo_accepted_67 : decode c_Mo_accepted 67 = .ok (.ireturn, 1) := by decide +kernel
set_option maxHeartbeats 4000000 in
set_option maxRecDepth 100000 in
theorem sn_Mo_accepted_59 {l : Launch} {Γ : gk_G} {p : Program} {e : Env} {s : State} {m : MethodId} {args : Array Value} {below : List Frame} {meth : Method} {c : Code} (B : gk_B p s m args meth c gk_Y Γ c_Mo_accepted 4 "StageDispatcherModel") (hr : meth.sig.returnType = (some .boolean)) {ρ : Int32 × gk_M} {k15 : Option Nat → Int32 → Int32 → Int32 → gk_M → Option (Int32 × gk_M)} (H15 : ∀ (a0 : Option Nat) (x1 : Int32) (x2 : Int32) (x3 : Int32) (M : gk_M), k15 a0 x1 x2 x3 M = some ρ → Gk p l e rm_Mo_accepted s m args below meth c gk_Y Γ 4 (MQ below (gk_Q gk_Y Γ (some (.int ρ.1)) ρ.2) args s rm_Mo_accepted.cells rm_Mo_accepted.slots (fun q => Γ.2.2 ≤ q)) 0 0 M 15 [some (va_rf a0), some (.int x1), some (.int x2), some (.int x3)] []) {a0 : Option Nat} {x1 : Int32} {x3 : Int32} {s0 : Int32} {M : gk_M} (h : fn_Mo_accepted_59 k15 a0 x1 x3 s0 M = some ρ) : Gk p l e rm_Mo_accepted s m args below meth c gk_Y Γ 4 (MQ below (gk_Q gk_Y Γ (some (.int ρ.1)) ρ.2) args s rm_Mo_accepted.cells rm_Mo_accepted.slots (fun q => Γ.2.2 ≤ q)) 0 0 M 59 [some (va_rf a0), some (.int x1), none, some (.int x3)] [.int s0] := by
  unfold fn_Mo_accepted_59 at h
  refine Gk_istore_n (i := 2) (L' := [some (va_rf a0), some (.int x1), some (.int s0), some (.int x3)]) B d_Mo_accepted_59 rfl (by decide) (gk_c1_i rfl) rfl ?_
  refine Gk_iinc (x := x3) (v := (x3 + 1)) (L' := [some (va_rf a0), some (.int x1), some (.int s0), some (.int (x3 + 1))]) B d_Mo_accepted_60 rfl (congrArg (fun z => x3 + z) (by decide : Int32.ofInt 1 = 1)) (by decide) (gk_c1_i rfl) rfl ?_
  refine Gk_goto (tgt := 15) B d_Mo_accepted_63 rfl ?_
  exact H15 a0 x1 s0 (x3 + 1) M h
set_option maxHeartbeats 4000000 in
set_option maxRecDepth 100000 in
theorem sn_Mo_accepted_54 {l : Launch} {Γ : gk_G} {p : Program} {e : Env} {s : State} {m : MethodId} {args : Array Value} {below : List Frame} {meth : Method} {c : Code} (B : gk_B p s m args meth c gk_Y Γ c_Mo_accepted 4 "StageDispatcherModel") (hr : meth.sig.returnType = (some .boolean)) {ρ : Int32 × gk_M} {k15 : Option Nat → Int32 → Int32 → Int32 → gk_M → Option (Int32 × gk_M)} (H15 : ∀ (a0 : Option Nat) (x1 : Int32) (x2 : Int32) (x3 : Int32) (M : gk_M), k15 a0 x1 x2 x3 M = some ρ → Gk p l e rm_Mo_accepted s m args below meth c gk_Y Γ 4 (MQ below (gk_Q gk_Y Γ (some (.int ρ.1)) ρ.2) args s rm_Mo_accepted.cells rm_Mo_accepted.slots (fun q => Γ.2.2 ≤ q)) 0 0 M 15 [some (va_rf a0), some (.int x1), some (.int x2), some (.int x3)] []) {a0 : Option Nat} {x1 : Int32} {x3 : Int32} {M : gk_M} (h : fn_Mo_accepted_54 k15 a0 x1 x3 M = some ρ) : Gk p l e rm_Mo_accepted s m args below meth c gk_Y Γ 4 (MQ below (gk_Q gk_Y Γ (some (.int ρ.1)) ρ.2) args s rm_Mo_accepted.cells rm_Mo_accepted.slots (fun q => Γ.2.2 ≤ q)) 0 0 M 54 [some (va_rf a0), some (.int x1), none, some (.int x3)] [] := by
  unfold fn_Mo_accepted_54 at h
  refine Gk_iconst (v := 1) B d_Mo_accepted_54 (by decide) ?_
  refine Gk_goto (tgt := 59) B d_Mo_accepted_55 rfl ?_
  exact sn_Mo_accepted_59 B hr H15 h
set_option maxHeartbeats 4000000 in
set_option maxRecDepth 100000 in
theorem sn_Mo_accepted_58 {l : Launch} {Γ : gk_G} {p : Program} {e : Env} {s : State} {m : MethodId} {args : Array Value} {below : List Frame} {meth : Method} {c : Code} (B : gk_B p s m args meth c gk_Y Γ c_Mo_accepted 4 "StageDispatcherModel") (hr : meth.sig.returnType = (some .boolean)) {ρ : Int32 × gk_M} {k15 : Option Nat → Int32 → Int32 → Int32 → gk_M → Option (Int32 × gk_M)} (H15 : ∀ (a0 : Option Nat) (x1 : Int32) (x2 : Int32) (x3 : Int32) (M : gk_M), k15 a0 x1 x2 x3 M = some ρ → Gk p l e rm_Mo_accepted s m args below meth c gk_Y Γ 4 (MQ below (gk_Q gk_Y Γ (some (.int ρ.1)) ρ.2) args s rm_Mo_accepted.cells rm_Mo_accepted.slots (fun q => Γ.2.2 ≤ q)) 0 0 M 15 [some (va_rf a0), some (.int x1), some (.int x2), some (.int x3)] []) {a0 : Option Nat} {x1 : Int32} {x3 : Int32} {M : gk_M} (h : fn_Mo_accepted_58 k15 a0 x1 x3 M = some ρ) : Gk p l e rm_Mo_accepted s m args below meth c gk_Y Γ 4 (MQ below (gk_Q gk_Y Γ (some (.int ρ.1)) ρ.2) args s rm_Mo_accepted.cells rm_Mo_accepted.slots (fun q => Γ.2.2 ≤ q)) 0 0 M 58 [some (va_rf a0), some (.int x1), none, some (.int x3)] [] := by
  unfold fn_Mo_accepted_58 at h
  refine Gk_iconst (v := 0) B d_Mo_accepted_58 (by decide) ?_
  exact sn_Mo_accepted_59 B hr H15 h
set_option maxHeartbeats 4000000 in
set_option maxRecDepth 100000 in
theorem sn_Mo_accepted_15_bd {l : Launch} {Γ : gk_G} {p : Program} {e : Env} {s : State} {m : MethodId} {args : Array Value} {below : List Frame} {meth : Method} {c : Code} (B : gk_B p s m args meth c gk_Y Γ c_Mo_accepted 4 "StageDispatcherModel") (hr : meth.sig.returnType = (some .boolean)) {ρ : Int32 × gk_M} {k15 : Option Nat → Int32 → Int32 → Int32 → gk_M → Option (Int32 × gk_M)} (H15 : ∀ (a0 : Option Nat) (x1 : Int32) (x2 : Int32) (x3 : Int32) (M : gk_M), k15 a0 x1 x2 x3 M = some ρ → Gk p l e rm_Mo_accepted s m args below meth c gk_Y Γ 4 (MQ below (gk_Q gk_Y Γ (some (.int ρ.1)) ρ.2) args s rm_Mo_accepted.cells rm_Mo_accepted.slots (fun q => Γ.2.2 ≤ q)) 0 0 M 15 [some (va_rf a0), some (.int x1), some (.int x2), some (.int x3)] []) {a0 : Option Nat} {x1 : Int32} {x2 : Int32} {x3 : Int32} {M : gk_M} (h : fn_Mo_accepted_15_bd k15 a0 x1 x2 x3 M = some ρ) : Gk p l e rm_Mo_accepted s m args below meth c gk_Y Γ 4 (MQ below (gk_Q gk_Y Γ (some (.int ρ.1)) ρ.2) args s rm_Mo_accepted.cells rm_Mo_accepted.slots (fun q => Γ.2.2 ≤ q)) 0 0 M 15 [some (va_rf a0), some (.int x1), some (.int x2), some (.int x3)] [] := by
  unfold fn_Mo_accepted_15_bd at h
  refine Gk_iload_n (i := 3) (x := x3) B d_Mo_accepted_15 rfl rfl ?_
  refine Gk_aload_n (i := 0) (r := a0) B d_Mo_accepted_16 rfl rfl ?_
  obtain ⟨v17, h17, h⟩ := gk_bind h
  refine Gk_getI (j := 25) B d_Mo_accepted_17 in_Mo cl_Mo (by decide) tw_780 rfl h17 ?_
  refine Gk_icmp_ge (tgt := 66) B d_Mo_accepted_20 rfl (fun c20 => ?_) (fun c20 => ?_)
  · rw [if_pos c20] at h
    refine Gk_iload_n (i := 2) (x := x2) B d_Mo_accepted_66 rfl rfl ?_
    obtain ⟨z, hz, h⟩ := gk_bind h
    obtain ⟨hz1, hz2⟩ := gk_z_eq hz
    cases h
    subst hz1
    exact Gk_iret B hr d_Mo_accepted_67 (gk_nz hz2) (by decide) (by decide) rfl
  rw [if_neg c20] at h
  refine Gk_iload_n (i := 2) (x := x2) B d_Mo_accepted_23 rfl rfl ?_
  refine Gk_if_ne (tgt := 54) B d_Mo_accepted_24 rfl (fun c24 => ?_) (fun c24 => ?_)
  · rw [if_neg c24] at h
    refine Gk_weak [true, true, false, true] (L' := [some (va_rf a0), some (.int x1), none, some (.int x3)]) rfl ?_
    exact sn_Mo_accepted_54 B hr H15 h
  rw [if_pos c24] at h
  refine Gk_aload_n (i := 0) (r := a0) B d_Mo_accepted_27 rfl rfl ?_
  obtain ⟨v28, h28, h⟩ := gk_bind h
  refine Gk_getR (j := 27) B d_Mo_accepted_28 in_Mo cl_Mo (by decide) tw_782 rfl h28 ?_
  refine Gk_iload_n (i := 3) (x := x3) B d_Mo_accepted_31 rfl rfl ?_
  obtain ⟨v32, h32, h⟩ := gk_bind h
  refine Gk_iaload B d_Mo_accepted_32 ty_0 h32 ?_
  refine Gk_if_le (tgt := 58) B d_Mo_accepted_33 rfl (fun c33 => ?_) (fun c33 => ?_)
  · rw [if_pos c33] at h
    refine Gk_weak [true, true, false, true] (L' := [some (va_rf a0), some (.int x1), none, some (.int x3)]) rfl ?_
    exact sn_Mo_accepted_58 B hr H15 h
  rw [if_neg c33] at h
  refine Gk_aload_n (i := 0) (r := a0) B d_Mo_accepted_36 rfl rfl ?_
  obtain ⟨v37, h37, h⟩ := gk_bind h
  refine Gk_getR (j := 9) B d_Mo_accepted_37 in_Mo cl_Mo (by decide) tw_764 rfl h37 ?_
  refine Gk_iload_n (i := 1) (x := x1) B d_Mo_accepted_40 rfl rfl ?_
  obtain ⟨v41, h41, h⟩ := gk_bind h
  refine Gk_iaload B d_Mo_accepted_41 ty_0 h41 ?_
  refine Gk_aload_n (i := 0) (r := a0) B d_Mo_accepted_42 rfl rfl ?_
  obtain ⟨v43, h43, h⟩ := gk_bind h
  refine Gk_getR (j := 26) B d_Mo_accepted_43 in_Mo cl_Mo (by decide) tw_781 rfl h43 ?_
  refine Gk_iload_n (i := 3) (x := x3) B d_Mo_accepted_46 rfl rfl ?_
  obtain ⟨v47, h47, h⟩ := gk_bind h
  refine Gk_iaload B d_Mo_accepted_47 ty_0 h47 ?_
  obtain ⟨w48, h48, h⟩ := gk_bind h
  refine Gk_callS (As := [.int v41, .int v47]) (rest := []) (st1 := [.int w48.1]) (k1 := 0) (n1 := 0) B gk_hG d_Mo_accepted_48 (sn_Mo_meet h48) tw_1066 tw_1064 tw_1065 tw_48 nm_Mo_meet rfl (by decide) ⟨by decide, by decide⟩ ⟨by decide, by decide⟩ rfl rfl rfl rfl ?_
  refine Gk_if_eq (tgt := 58) B d_Mo_accepted_51 rfl (fun c51 => ?_) (fun c51 => ?_)
  · rw [if_pos c51] at h
    refine Gk_weak [true, true, false, true] (L' := [some (va_rf a0), some (.int x1), none, some (.int x3)]) rfl ?_
    exact sn_Mo_accepted_58 B hr H15 h
  rw [if_neg c51] at h
  refine Gk_weak [true, true, false, true] (L' := [some (va_rf a0), some (.int x1), none, some (.int x3)]) rfl ?_
  exact sn_Mo_accepted_54 B hr H15 h
set_option maxHeartbeats 4000000 in
set_option maxRecDepth 100000 in
theorem sn_Mo_accepted_15 {l : Launch} {Γ : gk_G} {p : Program} {e : Env} {s : State} {m : MethodId} {args : Array Value} {below : List Frame} {meth : Method} {c : Code} (B : gk_B p s m args meth c gk_Y Γ c_Mo_accepted 4 "StageDispatcherModel") (hr : meth.sig.returnType = (some .boolean)) {ρ : Int32 × gk_M}   {a0 : Option Nat} {x1 : Int32} {x2 : Int32} {x3 : Int32} {M : gk_M} (h : fn_Mo_accepted_15  a0 x1 x2 x3 M = some ρ) : Gk p l e rm_Mo_accepted s m args below meth c gk_Y Γ 4 (MQ below (gk_Q gk_Y Γ (some (.int ρ.1)) ρ.2) args s rm_Mo_accepted.cells rm_Mo_accepted.slots (fun q => Γ.2.2 ≤ q)) 0 0 M 15 [some (va_rf a0), some (.int x1), some (.int x2), some (.int x3)] [] := by
  unfold fn_Mo_accepted_15 at h
  exact gk_loop_sound (α := Option Nat × Int32 × Int32 × Int32 × gk_M) (P := fun a => Gk p l e rm_Mo_accepted s m args below meth c gk_Y Γ 4 (MQ below (gk_Q gk_Y Γ (some (.int ρ.1)) ρ.2) args s rm_Mo_accepted.cells rm_Mo_accepted.slots (fun q => Γ.2.2 ≤ q)) 0 0 a.2.2.2.2 15 [some (va_rf a.1), some (.int a.2.1), some (.int a.2.2.1), some (.int a.2.2.2.1)] []) (fun kk a Hk hb => sn_Mo_accepted_15_bd B hr (fun a0 x1 x2 x3 M hh => Hk (a0, x1, x2, x3, M) hh) hb) _ _ h
set_option maxHeartbeats 4000000 in
set_option maxRecDepth 100000 in
theorem sn_Mo_accepted_12 {l : Launch} {Γ : gk_G} {p : Program} {e : Env} {s : State} {m : MethodId} {args : Array Value} {below : List Frame} {meth : Method} {c : Code} (B : gk_B p s m args meth c gk_Y Γ c_Mo_accepted 4 "StageDispatcherModel") (hr : meth.sig.returnType = (some .boolean)) {ρ : Int32 × gk_M}   {a0 : Option Nat} {x1 : Int32} {s0 : Int32} {M : gk_M} (h : fn_Mo_accepted_12  a0 x1 s0 M = some ρ) : Gk p l e rm_Mo_accepted s m args below meth c gk_Y Γ 4 (MQ below (gk_Q gk_Y Γ (some (.int ρ.1)) ρ.2) args s rm_Mo_accepted.cells rm_Mo_accepted.slots (fun q => Γ.2.2 ≤ q)) 0 0 M 12 [some (va_rf a0), some (.int x1), none, none] [.int s0] := by
  unfold fn_Mo_accepted_12 at h
  refine Gk_istore_n (i := 2) (L' := [some (va_rf a0), some (.int x1), some (.int s0), none]) B d_Mo_accepted_12 rfl (by decide) (gk_c1_i rfl) rfl ?_
  refine Gk_iconst (v := 0) B d_Mo_accepted_13 (by decide) ?_
  refine Gk_istore_n (i := 3) (L' := [some (va_rf a0), some (.int x1), some (.int s0), some (.int 0)]) B d_Mo_accepted_14 rfl (by decide) (gk_c1_i rfl) rfl ?_
  exact sn_Mo_accepted_15 B hr h
set_option maxHeartbeats 4000000 in
set_option maxRecDepth 100000 in
theorem sn_Mo_accepted_0 {l : Launch} {Γ : gk_G} {p : Program} {e : Env} {s : State} {m : MethodId} {args : Array Value} {below : List Frame} {meth : Method} {c : Code} (B : gk_B p s m args meth c gk_Y Γ c_Mo_accepted 4 "StageDispatcherModel") (hr : meth.sig.returnType = (some .boolean)) {ρ : Int32 × gk_M}   {a0 : Option Nat} {x1 : Int32} {M : gk_M} (h : fn_Mo_accepted  a0 x1 M = some ρ) : Gk p l e rm_Mo_accepted s m args below meth c gk_Y Γ 4 (MQ below (gk_Q gk_Y Γ (some (.int ρ.1)) ρ.2) args s rm_Mo_accepted.cells rm_Mo_accepted.slots (fun q => Γ.2.2 ≤ q)) 0 0 M 0 [some (va_rf a0), some (.int x1), none, none] [] := by
  unfold fn_Mo_accepted at h
  refine Gk_aload_n (i := 0) (r := a0) B d_Mo_accepted_0 rfl rfl ?_
  obtain ⟨v1, h1, h⟩ := gk_bind h
  refine Gk_getI (j := 25) B d_Mo_accepted_1 in_Mo cl_Mo (by decide) tw_780 rfl h1 ?_
  refine Gk_if_ne (tgt := 11) B d_Mo_accepted_4 rfl (fun c4 => ?_) (fun c4 => ?_)
  · rw [if_neg c4] at h
    refine Gk_iconst (v := 0) B d_Mo_accepted_11 (by decide) ?_
    exact sn_Mo_accepted_12 B hr h
  rw [if_pos c4] at h
  refine Gk_iconst (v := 1) B d_Mo_accepted_7 (by decide) ?_
  refine Gk_goto (tgt := 12) B d_Mo_accepted_8 rfl ?_
  exact sn_Mo_accepted_12 B hr h
theorem sn_Mo_accepted {l : Launch} {Γ : gk_G} {a0 : Option Nat} {x1 : Int32} {M : gk_M} {ρ : Int32 × gk_M} (h : fn_Mo_accepted a0 x1 M = some ρ) : gk_Met l gk_Y Γ y_Mo_accepted (.code y_Mo_accepted c_Mo_accepted 4 (some .boolean) :: gk_Y.2.2.2) rm_Mo_accepted [va_rf a0, .int x1] M (some (.int ρ.1)) ρ.2 :=
  gk_start (by decide) (by simp [lg_sl, gk_rc, gk_ic, gk_jc]) [some (va_rf a0), some (.int x1), none, none] (by simp [gk_as, lv_args, gk_rc, gk_ic, gk_jc]) (fun p e s m args below meth c B hr hin => sn_Mo_accepted_0 B hr h)
theorem d_Mo_rank_0 : decode c_Mo_rank 0 = .ok (.iload_n 0, 1) := by decide +kernel
theorem d_Mo_rank_1 : decode c_Mo_rank 1 = .ok (.bipush 16, 2) := by decide +kernel
theorem d_Mo_rank_3 : decode c_Mo_rank 3 = .ok (.irem, 1) := by decide +kernel
theorem d_Mo_rank_4 : decode c_Mo_rank 4 = .ok (.ifCond .eq 7, 3) := by decide +kernel
theorem d_Mo_rank_7 : decode c_Mo_rank 7 = .ok (.iconst 2, 1) := by decide +kernel
theorem d_Mo_rank_8 : decode c_Mo_rank 8 = .ok (.goto 12, 3) := by decide +kernel
theorem d_Mo_rank_11 : decode c_Mo_rank 11 = .ok (.iload_n 0, 1) := by decide +kernel
theorem d_Mo_rank_12 : decode c_Mo_rank 12 = .ok (.ifCond .eq 7, 3) := by decide +kernel
theorem d_Mo_rank_15 : decode c_Mo_rank 15 = .ok (.iconst 1, 1) := by decide +kernel
theorem d_Mo_rank_16 : decode c_Mo_rank 16 = .ok (.goto 4, 3) := by decide +kernel
theorem d_Mo_rank_19 : decode c_Mo_rank 19 = .ok (.iconst 0, 1) := by decide +kernel
theorem d_Mo_rank_20 : decode c_Mo_rank 20 = .ok (.ireturn, 1) := by decide +kernel
set_option maxHeartbeats 4000000 in
set_option maxRecDepth 100000 in
theorem sn_Mo_rank_0 {l : Launch} {Γ : gk_G} {p : Program} {e : Env} {s : State} {m : MethodId} {args : Array Value} {below : List Frame} {meth : Method} {c : Code} (B : gk_B p s m args meth c gk_Y Γ c_Mo_rank 1 "StageDispatcherModel") (hr : meth.sig.returnType = (some .int)) {ρ : Int32 × gk_M}   {x0 : Int32} {M : gk_M} (h : fn_Mo_rank  x0 M = some ρ) : Gk p l e rm_Mo_rank s m args below meth c gk_Y Γ 1 (MQ below (gk_Q gk_Y Γ (some (.int ρ.1)) ρ.2) args s rm_Mo_rank.cells rm_Mo_rank.slots (fun q => Γ.2.2 ≤ q)) 0 0 M 0 [some (.int x0)] [] := by
  unfold fn_Mo_rank at h
  refine Gk_iload_n (i := 0) (x := x0) B d_Mo_rank_0 rfl rfl ?_
  refine Gk_bipush (v := 16) B d_Mo_rank_1 (by decide) ?_
  refine Gk_irem B d_Mo_rank_3 (by decide) ?_
  refine Gk_if_eq (tgt := 11) B d_Mo_rank_4 rfl (fun c4 => ?_) (fun c4 => ?_)
  · rw [if_pos c4] at h
    refine Gk_iload_n (i := 0) (x := x0) B d_Mo_rank_11 rfl rfl ?_
    refine Gk_if_eq (tgt := 19) B d_Mo_rank_12 rfl (fun c12 => ?_) (fun c12 => ?_)
    · rw [if_pos c12] at h
      refine Gk_iconst (v := 0) B d_Mo_rank_19 (by decide) ?_
      cases h
      exact Gk_iret B hr d_Mo_rank_20 rfl (by decide) (by decide) rfl
    rw [if_neg c12] at h
    refine Gk_iconst (v := 1) B d_Mo_rank_15 (by decide) ?_
    refine Gk_goto (tgt := 20) B d_Mo_rank_16 rfl ?_
    cases h
    exact Gk_iret B hr d_Mo_rank_20 rfl (by decide) (by decide) rfl
  rw [if_neg c4] at h
  refine Gk_iconst (v := 2) B d_Mo_rank_7 (by decide) ?_
  refine Gk_goto (tgt := 20) B d_Mo_rank_8 rfl ?_
  cases h
  exact Gk_iret B hr d_Mo_rank_20 rfl (by decide) (by decide) rfl
theorem sn_Mo_rank {l : Launch} {Γ : gk_G} {x0 : Int32} {M : gk_M} {ρ : Int32 × gk_M} (h : fn_Mo_rank x0 M = some ρ) : gk_Met l gk_Y Γ y_Mo_rank (.code y_Mo_rank c_Mo_rank 1 (some .int) :: gk_Y.2.2.2) rm_Mo_rank [.int x0] M (some (.int ρ.1)) ρ.2 :=
  gk_start (by decide) (by simp [lg_sl, gk_rc, gk_ic, gk_jc]) [some (.int x0)] (by simp [gk_as, lv_args, gk_rc, gk_ic, gk_jc]) (fun p e s m args below meth c B hr hin => sn_Mo_rank_0 B hr h)
