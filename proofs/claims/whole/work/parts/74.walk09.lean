theorem d_Mo_match_0 : decode c_Mo_match 0 = .ok (.aload_n 0, 1) := by decide +kernel
theorem d_Mo_match_1 : decode c_Mo_match 1 = .ok (.iload_n 1, 1) := by decide +kernel
theorem d_Mo_match_2 : decode c_Mo_match 2 = .ok (.invokevirtual 128, 3) := by decide +kernel
theorem d_Mo_match_5 : decode c_Mo_match 5 = .ok (.iconst 0, 1) := by decide +kernel
theorem d_Mo_match_6 : decode c_Mo_match 6 = .ok (.istore_n 3, 1) := by decide +kernel
theorem d_Mo_match_7 : decode c_Mo_match 7 = .ok (.iload_n 3, 1) := by decide +kernel
theorem d_Mo_match_8 : decode c_Mo_match 8 = .ok (.aload_n 0, 1) := by decide +kernel
theorem d_Mo_match_9 : decode c_Mo_match 9 = .ok (.getfield 132, 3) := by decide +kernel
theorem d_Mo_match_12 : decode c_Mo_match 12 = .ok (.if_icmp .gt 47, 3) := by decide +kernel
theorem d_Mo_match_15 : decode c_Mo_match 15 = .ok (.aload_n 0, 1) := by decide +kernel
theorem d_Mo_match_16 : decode c_Mo_match 16 = .ok (.getfield 96, 3) := by decide +kernel
theorem d_Mo_match_19 : decode c_Mo_match 19 = .ok (.bipush 25, 2) := by decide +kernel
theorem d_Mo_match_21 : decode c_Mo_match 21 = .ok (.aload_n 0, 1) := by decide +kernel
theorem d_Mo_match_22 : decode c_Mo_match 22 = .ok (.getfield 125, 3) := by decide +kernel
theorem d_Mo_match_25 : decode c_Mo_match 25 = .ok (.imul, 1) := by decide +kernel
theorem d_Mo_match_26 : decode c_Mo_match 26 = .ok (.iload_n 3, 1) := by decide +kernel
theorem d_Mo_match_27 : decode c_Mo_match 27 = .ok (.iadd, 1) := by decide +kernel
theorem d_Mo_match_28 : decode c_Mo_match 28 = .ok (.iload_n 3, 1) := by decide +kernel
theorem d_Mo_match_29 : decode c_Mo_match 29 = .ok (.aload_n 0, 1) := by decide +kernel
theorem d_Mo_match_30 : decode c_Mo_match 30 = .ok (.getfield 132, 3) := by decide +kernel
theorem d_Mo_match_33 : decode c_Mo_match 33 = .ok (.if_icmp .eq 14, 3) := by decide +kernel
theorem d_Mo_match_36 : decode c_Mo_match 36 = .ok (.aload_n 0, 1) := by decide +kernel
theorem d_Mo_match_37 : decode c_Mo_match 37 = .ok (.getfield 78, 3) := by decide +kernel
theorem d_Mo_match_40 : decode c_Mo_match 40 = .ok (.iload_n 3, 1) := by decide +kernel
theorem d_Mo_match_41 : decode c_Mo_match 41 = .ok (.caload, 1) := by decide +kernel
theorem d_Mo_match_42 : decode c_Mo_match 42 = .ok (.bipush 47, 2) := by decide +kernel
theorem d_Mo_match_44 : decode c_Mo_match 44 = .ok (.if_icmp .ne 7, 3) := by decide +kernel
theorem d_Mo_match_47 : decode c_Mo_match 47 = .ok (.iconst 1, 1) := by decide +kernel
theorem d_Mo_match_48 : decode c_Mo_match 48 = .ok (.goto 4, 3) := by decide +kernel
theorem d_Mo_match_51 : decode c_Mo_match 51 = .ok (.iconst 0, 1) := by decide +kernel
theorem d_Mo_match_52 : decode c_Mo_match 52 = .ok (.bastore, 1) := by decide +kernel
theorem d_Mo_match_53 : decode c_Mo_match 53 = .ok (.iinc 3 1, 3) := by decide +kernel
theorem d_Mo_match_56 : decode c_Mo_match 56 = .ok (.goto (-49), 3) := by decide +kernel
theorem d_Mo_match_59 : decode c_Mo_match 59 = .ok (.aload_n 0, 1) := by decide +kernel
theorem d_Mo_match_60 : decode c_Mo_match 60 = .ok (.getfield 125, 3) := by decide +kernel
theorem d_Mo_match_63 : decode c_Mo_match 63 = .ok (.iconst 1, 1) := by decide +kernel
theorem d_Mo_match_64 : decode c_Mo_match 64 = .ok (.isub, 1) := by decide +kernel
theorem d_Mo_match_65 : decode c_Mo_match 65 = .ok (.istore_n 3, 1) := by decide +kernel
theorem d_Mo_match_66 : decode c_Mo_match 66 = .ok (.iload_n 3, 1) := by decide +kernel
theorem d_Mo_match_67 : decode c_Mo_match 67 = .ok (.ifCond .lt 54, 3) := by decide +kernel
theorem d_Mo_match_70 : decode c_Mo_match 70 = .ok (.iconst 0, 1) := by decide +kernel
theorem d_Mo_match_71 : decode c_Mo_match 71 = .ok (.istore 4, 2) := by decide +kernel
theorem d_Mo_match_73 : decode c_Mo_match 73 = .ok (.iload 4, 2) := by decide +kernel
theorem d_Mo_match_75 : decode c_Mo_match 75 = .ok (.aload_n 0, 1) := by decide +kernel
theorem d_Mo_match_76 : decode c_Mo_match 76 = .ok (.getfield 132, 3) := by decide +kernel
theorem d_Mo_match_79 : decode c_Mo_match 79 = .ok (.if_icmp .gt 36, 3) := by decide +kernel
theorem d_Mo_match_82 : decode c_Mo_match 82 = .ok (.aload_n 0, 1) := by decide +kernel
theorem d_Mo_match_83 : decode c_Mo_match 83 = .ok (.getfield 96, 3) := by decide +kernel
theorem d_Mo_match_86 : decode c_Mo_match 86 = .ok (.bipush 25, 2) := by decide +kernel
theorem d_Mo_match_88 : decode c_Mo_match 88 = .ok (.iload_n 3, 1) := by decide +kernel
theorem d_Mo_match_89 : decode c_Mo_match 89 = .ok (.imul, 1) := by decide +kernel
theorem d_Mo_match_90 : decode c_Mo_match 90 = .ok (.iload 4, 2) := by decide +kernel
theorem d_Mo_match_92 : decode c_Mo_match 92 = .ok (.iadd, 1) := by decide +kernel
theorem d_Mo_match_93 : decode c_Mo_match 93 = .ok (.aload_n 0, 1) := by decide +kernel
theorem d_Mo_match_94 : decode c_Mo_match 94 = .ok (.iload_n 3, 1) := by decide +kernel
theorem d_Mo_match_95 : decode c_Mo_match 95 = .ok (.iload 4, 2) := by decide +kernel
theorem d_Mo_match_97 : decode c_Mo_match 97 = .ok (.invokevirtual 139, 3) := by decide +kernel
theorem d_Mo_match_100 : decode c_Mo_match 100 = .ok (.ifCond .lt 7, 3) := by decide +kernel
theorem d_Mo_match_103 : decode c_Mo_match 103 = .ok (.iconst 1, 1) := by decide +kernel
theorem d_Mo_match_104 : decode c_Mo_match 104 = .ok (.goto 4, 3) := by decide +kernel
theorem d_Mo_match_107 : decode c_Mo_match 107 = .ok (.iconst 0, 1) := by decide +kernel
theorem d_Mo_match_108 : decode c_Mo_match 108 = .ok (.bastore, 1) := by decide +kernel
theorem d_Mo_match_109 : decode c_Mo_match 109 = .ok (.iinc 4 1, 3) := by decide +kernel
theorem d_Mo_match_112 : decode c_Mo_match 112 = .ok (.goto (-39), 3) := by decide +kernel
theorem d_Mo_match_115 : decode c_Mo_match 115 = .ok (.iinc 3 (-1), 3) := by decide +kernel
theorem d_Mo_match_118 : decode c_Mo_match 118 = .ok (.goto (-52), 3) := by decide +kernel
theorem d_Mo_match_121 : decode c_Mo_match 121 = .ok (.aload_n 0, 1) := by decide +kernel
theorem d_Mo_match_122 : decode c_Mo_match 122 = .ok (.getfield 16, 3) := by decide +kernel
theorem d_Mo_match_125 : decode c_Mo_match 125 = .ok (.iload_n 1, 1) := by decide +kernel
theorem d_Mo_match_126 : decode c_Mo_match 126 = .ok (.iaload, 1) := by decide +kernel
theorem d_Mo_match_127 : decode c_Mo_match 127 = .ok (.ifCond .eq 12, 3) := by decide +kernel
theorem d_Mo_match_130 : decode c_Mo_match 130 = .ok (.aload_n 0, 1) := by decide +kernel
theorem d_Mo_match_131 : decode c_Mo_match 131 = .ok (.getfield 96, 3) := by decide +kernel
theorem d_Mo_match_134 : decode c_Mo_match 134 = .ok (.iload_n 2, 1) := by decide +kernel
theorem d_Mo_match_135 : decode c_Mo_match 135 = .ok (.baload, 1) := by decide +kernel
theorem d_Mo_match_136 : decode c_Mo_match 136 = .ok (.ifCond .ne 5, 3) := by decide +kernel
theorem d_Mo_match_139 : decode c_Mo_match 139 = .ok (.iconst (-1), 1) := by decide +kernel
theorem d_Mo_match_140 : decode c_Mo_match 140 = .ok (.ireturn, 1) := by decide +kernel
theorem d_Mo_match_141 : decode c_Mo_match 141 = .ok (.aload_n 0, 1) := by decide +kernel
theorem d_Mo_match_142 : decode c_Mo_match 142 = .ok (.iconst 0, 1) := by decide +kernel
theorem d_Mo_match_143 : decode c_Mo_match 143 = .ok (.putfield 143, 3) := by decide +kernel
theorem d_Mo_match_146 : decode c_Mo_match 146 = .ok (.iload_n 2, 1) := by decide +kernel
theorem d_Mo_match_147 : decode c_Mo_match 147 = .ok (.istore_n 3, 1) := by decide +kernel
theorem d_Mo_match_148 : decode c_Mo_match 148 = .ok (.iconst 0, 1) := by decide +kernel
theorem d_Mo_match_149 : decode c_Mo_match 149 = .ok (.istore 4, 2) := by decide +kernel
theorem d_Mo_match_151 : decode c_Mo_match 151 = .ok (.iload 4, 2) := by decide +kernel
theorem d_Mo_match_153 : decode c_Mo_match 153 = .ok (.aload_n 0, 1) := by decide +kernel
theorem d_Mo_match_154 : decode c_Mo_match 154 = .ok (.getfield 125, 3) := by decide +kernel
theorem d_Mo_match_157 : decode c_Mo_match 157 = .ok (.if_icmp .ge 65, 3) := by decide +kernel
theorem d_Mo_match_160 : decode c_Mo_match 160 = .ok (.aload_n 0, 1) := by decide +kernel
theorem d_Mo_match_161 : decode c_Mo_match 161 = .ok (.iload 4, 2) := by decide +kernel
theorem d_Mo_match_163 : decode c_Mo_match 163 = .ok (.iload_n 3, 1) := by decide +kernel
theorem d_Mo_match_164 : decode c_Mo_match 164 = .ok (.invokevirtual 139, 3) := by decide +kernel
theorem d_Mo_match_167 : decode c_Mo_match 167 = .ok (.istore 5, 2) := by decide +kernel
theorem d_Mo_match_169 : decode c_Mo_match 169 = .ok (.aload_n 0, 1) := by decide +kernel
theorem d_Mo_match_170 : decode c_Mo_match 170 = .ok (.getfield 93, 3) := by decide +kernel
theorem d_Mo_match_173 : decode c_Mo_match 173 = .ok (.iload 4, 2) := by decide +kernel
theorem d_Mo_match_175 : decode c_Mo_match 175 = .ok (.iaload, 1) := by decide +kernel
theorem d_Mo_match_176 : decode c_Mo_match 176 = .ok (.iconst 3, 1) := by decide +kernel
theorem d_Mo_match_177 : decode c_Mo_match 177 = .ok (.if_icmp .gt 34, 3) := by decide +kernel
theorem d_Mo_match_180 : decode c_Mo_match 180 = .ok (.aload_n 0, 1) := by decide +kernel
theorem d_Mo_match_181 : decode c_Mo_match 181 = .ok (.getfield 99, 3) := by decide +kernel
theorem d_Mo_match_184 : decode c_Mo_match 184 = .ok (.aload_n 0, 1) := by decide +kernel
theorem d_Mo_match_185 : decode c_Mo_match 185 = .ok (.getfield 143, 3) := by decide +kernel
theorem d_Mo_match_188 : decode c_Mo_match 188 = .ok (.iload_n 3, 1) := by decide +kernel
theorem d_Mo_match_189 : decode c_Mo_match 189 = .ok (.iastore, 1) := by decide +kernel
theorem d_Mo_match_190 : decode c_Mo_match 190 = .ok (.aload_n 0, 1) := by decide +kernel
theorem d_Mo_match_191 : decode c_Mo_match 191 = .ok (.getfield 102, 3) := by decide +kernel
theorem d_Mo_match_194 : decode c_Mo_match 194 = .ok (.aload_n 0, 1) := by decide +kernel
theorem d_Mo_match_195 : decode c_Mo_match 195 = .ok (.getfield 143, 3) := by decide +kernel
theorem d_Mo_match_198 : decode c_Mo_match 198 = .ok (.iload 5, 2) := by decide +kernel
theorem d_Mo_match_200 : decode c_Mo_match 200 = .ok (.iastore, 1) := by decide +kernel
theorem d_Mo_match_201 : decode c_Mo_match 201 = .ok (.aload_n 0, 1) := by decide +kernel
theorem d_Mo_match_202 : decode c_Mo_match 202 = .ok (.dup, 1) := by decide +kernel
theorem d_Mo_match_203 : decode c_Mo_match 203 = .ok (.getfield 143, 3) := by decide +kernel
theorem d_Mo_match_206 : decode c_Mo_match 206 = .ok (.iconst 1, 1) := by decide +kernel
theorem d_Mo_match_207 : decode c_Mo_match 207 = .ok (.iadd, 1) := by decide +kernel
theorem d_Mo_match_208 : decode c_Mo_match 208 = .ok (.putfield 143, 3) := by decide +kernel
theorem d_Mo_match_211 : decode c_Mo_match 211 = .ok (.iload_n 3, 1) := by decide +kernel
theorem d_Mo_match_212 : decode c_Mo_match 212 = .ok (.iload 5, 2) := by decide +kernel
theorem d_Mo_match_214 : decode c_Mo_match 214 = .ok (.iadd, 1) := by decide +kernel
theorem d_Mo_match_215 : decode c_Mo_match 215 = .ok (.istore_n 3, 1) := by decide +kernel
theorem d_Mo_match_216 : decode c_Mo_match 216 = .ok (.iinc 4 1, 3) := by decide +kernel
theorem d_Mo_match_219 : decode c_Mo_match 219 = .ok (.goto (-68), 3) := by decide +kernel
theorem d_Mo_match_222 : decode c_Mo_match 222 = .ok (.iload_n 3, 1) := by decide +kernel
theorem d_Mo_match_223 : decode c_Mo_match 223 = .ok (.ireturn, 1) := by decide +kernel
set_option maxHeartbeats 4000000 in
set_option maxRecDepth 100000 in
theorem sn_Mo_match_52 {l : Launch} {Γ : gk_G} {p : Program} {e : Env} {s : State} {m : MethodId} {args : Array Value} {below : List Frame} {meth : Method} {c : Code} (B : gk_B p s m args meth c gk_Y Γ c_Mo_match 6 "StageDispatcherModel") (hr : meth.sig.returnType = (some .int)) {ρ : Int32 × gk_M} {k7 : Option Nat → Int32 → Int32 → Int32 → gk_M → Option (Int32 × gk_M)} (H7 : ∀ (a0 : Option Nat) (x1 : Int32) (x2 : Int32) (x3 : Int32) (M : gk_M), k7 a0 x1 x2 x3 M = some ρ → Gk p l e rm_Mo_match s m args below meth c gk_Y Γ 6 (MQ below (gk_Q gk_Y Γ (some (.int ρ.1)) ρ.2) args s rm_Mo_match.cells rm_Mo_match.slots (fun q => Γ.2.2 ≤ q)) 0 0 M 7 [some (va_rf a0), some (.int x1), some (.int x2), some (.int x3), none, none] []) {a0 : Option Nat} {x1 : Int32} {x2 : Int32} {x3 : Int32} {s0 : Option Nat} {s1 : Int32} {s2 : Int32} {M : gk_M} (h : fn_Mo_match_52 k7 a0 x1 x2 x3 s0 s1 s2 M = some ρ) : Gk p l e rm_Mo_match s m args below meth c gk_Y Γ 6 (MQ below (gk_Q gk_Y Γ (some (.int ρ.1)) ρ.2) args s rm_Mo_match.cells rm_Mo_match.slots (fun q => Γ.2.2 ≤ q)) 0 0 M 52 [some (va_rf a0), some (.int x1), some (.int x2), some (.int x3), none, none] [.int s2, .int s1, va_rf s0] := by
  unfold fn_Mo_match_52 at h
  obtain ⟨M52, h52, h⟩ := gk_bind h
  refine Gk_zastore B d_Mo_match_52 ty_2 h52 ?_
  refine Gk_iinc (x := x3) (v := (x3 + 1)) (L' := [some (va_rf a0), some (.int x1), some (.int x2), some (.int (x3 + 1)), none, none]) B d_Mo_match_53 rfl (congrArg (fun z => x3 + z) (by decide : Int32.ofInt 1 = 1)) (by decide) (gk_c1_i rfl) rfl ?_
  refine Gk_goto (tgt := 7) B d_Mo_match_56 rfl ?_
  exact H7 a0 x1 x2 (x3 + 1) M52 h
set_option maxHeartbeats 4000000 in
set_option maxRecDepth 100000 in
theorem sn_Mo_match_47 {l : Launch} {Γ : gk_G} {p : Program} {e : Env} {s : State} {m : MethodId} {args : Array Value} {below : List Frame} {meth : Method} {c : Code} (B : gk_B p s m args meth c gk_Y Γ c_Mo_match 6 "StageDispatcherModel") (hr : meth.sig.returnType = (some .int)) {ρ : Int32 × gk_M} {k7 : Option Nat → Int32 → Int32 → Int32 → gk_M → Option (Int32 × gk_M)} (H7 : ∀ (a0 : Option Nat) (x1 : Int32) (x2 : Int32) (x3 : Int32) (M : gk_M), k7 a0 x1 x2 x3 M = some ρ → Gk p l e rm_Mo_match s m args below meth c gk_Y Γ 6 (MQ below (gk_Q gk_Y Γ (some (.int ρ.1)) ρ.2) args s rm_Mo_match.cells rm_Mo_match.slots (fun q => Γ.2.2 ≤ q)) 0 0 M 7 [some (va_rf a0), some (.int x1), some (.int x2), some (.int x3), none, none] []) {a0 : Option Nat} {x1 : Int32} {x2 : Int32} {x3 : Int32} {s0 : Option Nat} {s1 : Int32} {M : gk_M} (h : fn_Mo_match_47 k7 a0 x1 x2 x3 s0 s1 M = some ρ) : Gk p l e rm_Mo_match s m args below meth c gk_Y Γ 6 (MQ below (gk_Q gk_Y Γ (some (.int ρ.1)) ρ.2) args s rm_Mo_match.cells rm_Mo_match.slots (fun q => Γ.2.2 ≤ q)) 0 0 M 47 [some (va_rf a0), some (.int x1), some (.int x2), some (.int x3), none, none] [.int s1, va_rf s0] := by
  unfold fn_Mo_match_47 at h
  refine Gk_iconst (v := 1) B d_Mo_match_47 (by decide) ?_
  refine Gk_goto (tgt := 52) B d_Mo_match_48 rfl ?_
  exact sn_Mo_match_52 B hr H7 h
set_option maxHeartbeats 4000000 in
set_option maxRecDepth 100000 in
theorem sn_Mo_match_108 {l : Launch} {Γ : gk_G} {p : Program} {e : Env} {s : State} {m : MethodId} {args : Array Value} {below : List Frame} {meth : Method} {c : Code} (B : gk_B p s m args meth c gk_Y Γ c_Mo_match 6 "StageDispatcherModel") (hr : meth.sig.returnType = (some .int)) {ρ : Int32 × gk_M} {k66 : Option Nat → Int32 → Int32 → Int32 → gk_M → Option (Int32 × gk_M)} {k73 : Option Nat → Int32 → Int32 → Int32 → Int32 → gk_M → Option (Int32 × gk_M)} (H66 : ∀ (a0 : Option Nat) (x1 : Int32) (x2 : Int32) (x3 : Int32) (M : gk_M), k66 a0 x1 x2 x3 M = some ρ → Gk p l e rm_Mo_match s m args below meth c gk_Y Γ 6 (MQ below (gk_Q gk_Y Γ (some (.int ρ.1)) ρ.2) args s rm_Mo_match.cells rm_Mo_match.slots (fun q => Γ.2.2 ≤ q)) 0 0 M 66 [some (va_rf a0), some (.int x1), some (.int x2), some (.int x3), none, none] []) (H73 : ∀ (a0 : Option Nat) (x1 : Int32) (x2 : Int32) (x3 : Int32) (x4 : Int32) (M : gk_M), k73 a0 x1 x2 x3 x4 M = some ρ → Gk p l e rm_Mo_match s m args below meth c gk_Y Γ 6 (MQ below (gk_Q gk_Y Γ (some (.int ρ.1)) ρ.2) args s rm_Mo_match.cells rm_Mo_match.slots (fun q => Γ.2.2 ≤ q)) 0 0 M 73 [some (va_rf a0), some (.int x1), some (.int x2), some (.int x3), some (.int x4), none] []) {a0 : Option Nat} {x1 : Int32} {x2 : Int32} {x3 : Int32} {x4 : Int32} {s0 : Option Nat} {s1 : Int32} {s2 : Int32} {M : gk_M} (h : fn_Mo_match_108 k66 k73 a0 x1 x2 x3 x4 s0 s1 s2 M = some ρ) : Gk p l e rm_Mo_match s m args below meth c gk_Y Γ 6 (MQ below (gk_Q gk_Y Γ (some (.int ρ.1)) ρ.2) args s rm_Mo_match.cells rm_Mo_match.slots (fun q => Γ.2.2 ≤ q)) 0 0 M 108 [some (va_rf a0), some (.int x1), some (.int x2), some (.int x3), some (.int x4), none] [.int s2, .int s1, va_rf s0] := by
  unfold fn_Mo_match_108 at h
  obtain ⟨M108, h108, h⟩ := gk_bind h
  refine Gk_zastore B d_Mo_match_108 ty_2 h108 ?_
  refine Gk_iinc (x := x4) (v := (x4 + 1)) (L' := [some (va_rf a0), some (.int x1), some (.int x2), some (.int x3), some (.int (x4 + 1)), none]) B d_Mo_match_109 rfl (congrArg (fun z => x4 + z) (by decide : Int32.ofInt 1 = 1)) (by decide) (gk_c1_i rfl) rfl ?_
  refine Gk_goto (tgt := 73) B d_Mo_match_112 rfl ?_
  exact H73 a0 x1 x2 x3 (x4 + 1) M108 h
set_option maxHeartbeats 4000000 in
set_option maxRecDepth 100000 in
theorem sn_Mo_match_73_bd {l : Launch} {Γ : gk_G} {p : Program} {e : Env} {s : State} {m : MethodId} {args : Array Value} {below : List Frame} {meth : Method} {c : Code} (B : gk_B p s m args meth c gk_Y Γ c_Mo_match 6 "StageDispatcherModel") (hr : meth.sig.returnType = (some .int)) {ρ : Int32 × gk_M} {k66 : Option Nat → Int32 → Int32 → Int32 → gk_M → Option (Int32 × gk_M)} {k73 : Option Nat → Int32 → Int32 → Int32 → Int32 → gk_M → Option (Int32 × gk_M)} (H66 : ∀ (a0 : Option Nat) (x1 : Int32) (x2 : Int32) (x3 : Int32) (M : gk_M), k66 a0 x1 x2 x3 M = some ρ → Gk p l e rm_Mo_match s m args below meth c gk_Y Γ 6 (MQ below (gk_Q gk_Y Γ (some (.int ρ.1)) ρ.2) args s rm_Mo_match.cells rm_Mo_match.slots (fun q => Γ.2.2 ≤ q)) 0 0 M 66 [some (va_rf a0), some (.int x1), some (.int x2), some (.int x3), none, none] []) (H73 : ∀ (a0 : Option Nat) (x1 : Int32) (x2 : Int32) (x3 : Int32) (x4 : Int32) (M : gk_M), k73 a0 x1 x2 x3 x4 M = some ρ → Gk p l e rm_Mo_match s m args below meth c gk_Y Γ 6 (MQ below (gk_Q gk_Y Γ (some (.int ρ.1)) ρ.2) args s rm_Mo_match.cells rm_Mo_match.slots (fun q => Γ.2.2 ≤ q)) 0 0 M 73 [some (va_rf a0), some (.int x1), some (.int x2), some (.int x3), some (.int x4), none] []) {a0 : Option Nat} {x1 : Int32} {x2 : Int32} {x3 : Int32} {x4 : Int32} {M : gk_M} (h : fn_Mo_match_73_bd k66 k73 a0 x1 x2 x3 x4 M = some ρ) : Gk p l e rm_Mo_match s m args below meth c gk_Y Γ 6 (MQ below (gk_Q gk_Y Γ (some (.int ρ.1)) ρ.2) args s rm_Mo_match.cells rm_Mo_match.slots (fun q => Γ.2.2 ≤ q)) 0 0 M 73 [some (va_rf a0), some (.int x1), some (.int x2), some (.int x3), some (.int x4), none] [] := by
  unfold fn_Mo_match_73_bd at h
  refine Gk_iload (x := x4) B d_Mo_match_73 rfl ?_
  refine Gk_aload_n (i := 0) (r := a0) B d_Mo_match_75 rfl rfl ?_
  obtain ⟨v76, h76, h⟩ := gk_bind h
  refine Gk_getI (j := 29) B d_Mo_match_76 in_Mo cl_Mo (by decide) tw_784 rfl h76 ?_
  refine Gk_icmp_gt (tgt := 115) B d_Mo_match_79 rfl (fun c79 => ?_) (fun c79 => ?_)
  · rw [if_pos c79] at h
    refine Gk_iinc (x := x3) (v := (x3 + (-1))) (L' := [some (va_rf a0), some (.int x1), some (.int x2), some (.int (x3 + (-1))), some (.int x4), none]) B d_Mo_match_115 rfl (congrArg (fun z => x3 + z) (by decide : Int32.ofInt (-1) = (-1))) (by decide) (gk_c1_i rfl) rfl ?_
    refine Gk_goto (tgt := 66) B d_Mo_match_118 rfl ?_
    refine Gk_weak [true, true, true, true, false, false] (L' := [some (va_rf a0), some (.int x1), some (.int x2), some (.int (x3 + (-1))), none, none]) rfl ?_
    exact H66 a0 x1 x2 (x3 + (-1)) M h
  rw [if_neg c79] at h
  refine Gk_aload_n (i := 0) (r := a0) B d_Mo_match_82 rfl rfl ?_
  obtain ⟨v83, h83, h⟩ := gk_bind h
  refine Gk_getR (j := 49) B d_Mo_match_83 in_Mo cl_Mo (by decide) tw_804 rfl h83 ?_
  refine Gk_bipush (v := 25) B d_Mo_match_86 (by decide) ?_
  refine Gk_iload_n (i := 3) (x := x3) B d_Mo_match_88 rfl rfl ?_
  refine Gk_imul B d_Mo_match_89 ?_
  refine Gk_iload (x := x4) B d_Mo_match_90 rfl ?_
  refine Gk_iadd B d_Mo_match_92 ?_
  refine Gk_aload_n (i := 0) (r := a0) B d_Mo_match_93 rfl rfl ?_
  refine Gk_iload_n (i := 3) (x := x3) B d_Mo_match_94 rfl rfl ?_
  refine Gk_iload (x := x4) B d_Mo_match_95 rfl ?_
  obtain ⟨o97, g97, h⟩ := gk_bind h
  obtain ⟨w97, h97, h⟩ := gk_bind h
  refine Gk_callV (As := [.int x3, .int x4]) (rest := [.int (((25 : Int32) * x3) + x4), va_rf v83]) (st1 := [.int w97.1, .int (((25 : Int32) * x3) + x4), va_rf v83]) (k1 := 0) (n1 := 0) B gk_hG d_Mo_match_97 (sn_Mo_longest h97) g97 cl_Mo tw_1013 tw_1010 tw_1012 tw_23 tw_48 nm_Mo_longest rfl (by simp [gk_rc, gk_ic, gk_jc, rm_Mo_match]) ⟨by decide, by decide⟩ ⟨by decide, by decide⟩ rfl rfl rfl rfl ?_
  refine Gk_if_lt (tgt := 107) B d_Mo_match_100 rfl (fun c100 => ?_) (fun c100 => ?_)
  · rw [if_pos c100] at h
    refine Gk_iconst (v := 0) B d_Mo_match_107 (by decide) ?_
    exact sn_Mo_match_108 B hr H66 H73 h
  rw [if_neg c100] at h
  refine Gk_iconst (v := 1) B d_Mo_match_103 (by decide) ?_
  refine Gk_goto (tgt := 108) B d_Mo_match_104 rfl ?_
  exact sn_Mo_match_108 B hr H66 H73 h
set_option maxHeartbeats 4000000 in
set_option maxRecDepth 100000 in
theorem sn_Mo_match_73 {l : Launch} {Γ : gk_G} {p : Program} {e : Env} {s : State} {m : MethodId} {args : Array Value} {below : List Frame} {meth : Method} {c : Code} (B : gk_B p s m args meth c gk_Y Γ c_Mo_match 6 "StageDispatcherModel") (hr : meth.sig.returnType = (some .int)) {ρ : Int32 × gk_M} {k66 : Option Nat → Int32 → Int32 → Int32 → gk_M → Option (Int32 × gk_M)} (H66 : ∀ (a0 : Option Nat) (x1 : Int32) (x2 : Int32) (x3 : Int32) (M : gk_M), k66 a0 x1 x2 x3 M = some ρ → Gk p l e rm_Mo_match s m args below meth c gk_Y Γ 6 (MQ below (gk_Q gk_Y Γ (some (.int ρ.1)) ρ.2) args s rm_Mo_match.cells rm_Mo_match.slots (fun q => Γ.2.2 ≤ q)) 0 0 M 66 [some (va_rf a0), some (.int x1), some (.int x2), some (.int x3), none, none] []) {a0 : Option Nat} {x1 : Int32} {x2 : Int32} {x3 : Int32} {x4 : Int32} {M : gk_M} (h : fn_Mo_match_73 k66 a0 x1 x2 x3 x4 M = some ρ) : Gk p l e rm_Mo_match s m args below meth c gk_Y Γ 6 (MQ below (gk_Q gk_Y Γ (some (.int ρ.1)) ρ.2) args s rm_Mo_match.cells rm_Mo_match.slots (fun q => Γ.2.2 ≤ q)) 0 0 M 73 [some (va_rf a0), some (.int x1), some (.int x2), some (.int x3), some (.int x4), none] [] := by
  unfold fn_Mo_match_73 at h
  exact gk_loop_sound (α := Option Nat × Int32 × Int32 × Int32 × Int32 × gk_M) (P := fun a => Gk p l e rm_Mo_match s m args below meth c gk_Y Γ 6 (MQ below (gk_Q gk_Y Γ (some (.int ρ.1)) ρ.2) args s rm_Mo_match.cells rm_Mo_match.slots (fun q => Γ.2.2 ≤ q)) 0 0 a.2.2.2.2.2 73 [some (va_rf a.1), some (.int a.2.1), some (.int a.2.2.1), some (.int a.2.2.2.1), some (.int a.2.2.2.2.1), none] []) (fun kk a Hk hb => sn_Mo_match_73_bd B hr H66 (fun a0 x1 x2 x3 x4 M hh => Hk (a0, x1, x2, x3, x4, M) hh) hb) _ _ h
set_option maxHeartbeats 4000000 in
set_option maxRecDepth 100000 in
theorem sn_Mo_match_211 {l : Launch} {Γ : gk_G} {p : Program} {e : Env} {s : State} {m : MethodId} {args : Array Value} {below : List Frame} {meth : Method} {c : Code} (B : gk_B p s m args meth c gk_Y Γ c_Mo_match 6 "StageDispatcherModel") (hr : meth.sig.returnType = (some .int)) {ρ : Int32 × gk_M} {k151 : Option Nat → Int32 → Int32 → gk_M → Option (Int32 × gk_M)} (H151 : ∀ (a0 : Option Nat) (x3 : Int32) (x4 : Int32) (M : gk_M), k151 a0 x3 x4 M = some ρ → Gk p l e rm_Mo_match s m args below meth c gk_Y Γ 6 (MQ below (gk_Q gk_Y Γ (some (.int ρ.1)) ρ.2) args s rm_Mo_match.cells rm_Mo_match.slots (fun q => Γ.2.2 ≤ q)) 0 0 M 151 [some (va_rf a0), none, none, some (.int x3), some (.int x4), none] []) {a0 : Option Nat} {x3 : Int32} {x4 : Int32} {x5 : Int32} {M : gk_M} (h : fn_Mo_match_211 k151 a0 x3 x4 x5 M = some ρ) : Gk p l e rm_Mo_match s m args below meth c gk_Y Γ 6 (MQ below (gk_Q gk_Y Γ (some (.int ρ.1)) ρ.2) args s rm_Mo_match.cells rm_Mo_match.slots (fun q => Γ.2.2 ≤ q)) 0 0 M 211 [some (va_rf a0), none, none, some (.int x3), some (.int x4), some (.int x5)] [] := by
  unfold fn_Mo_match_211 at h
  refine Gk_iload_n (i := 3) (x := x3) B d_Mo_match_211 rfl rfl ?_
  refine Gk_iload (x := x5) B d_Mo_match_212 rfl ?_
  refine Gk_iadd B d_Mo_match_214 ?_
  refine Gk_istore_n (i := 3) (L' := [some (va_rf a0), none, none, some (.int (x3 + x5)), some (.int x4), some (.int x5)]) B d_Mo_match_215 rfl (by decide) (gk_c1_n rfl) rfl ?_
  refine Gk_iinc (x := x4) (v := (x4 + 1)) (L' := [some (va_rf a0), none, none, some (.int (x3 + x5)), some (.int (x4 + 1)), some (.int x5)]) B d_Mo_match_216 rfl (congrArg (fun z => x4 + z) (by decide : Int32.ofInt 1 = 1)) (by decide) (gk_c1_i rfl) rfl ?_
  refine Gk_goto (tgt := 151) B d_Mo_match_219 rfl ?_
  refine Gk_weak [true, false, false, true, true, false] (L' := [some (va_rf a0), none, none, some (.int (x3 + x5)), some (.int (x4 + 1)), none]) rfl ?_
  exact H151 a0 (x3 + x5) (x4 + 1) M h
set_option maxHeartbeats 4000000 in
set_option maxRecDepth 100000 in
theorem sn_Mo_match_151_bd {l : Launch} {Γ : gk_G} {p : Program} {e : Env} {s : State} {m : MethodId} {args : Array Value} {below : List Frame} {meth : Method} {c : Code} (B : gk_B p s m args meth c gk_Y Γ c_Mo_match 6 "StageDispatcherModel") (hr : meth.sig.returnType = (some .int)) {ρ : Int32 × gk_M} {k151 : Option Nat → Int32 → Int32 → gk_M → Option (Int32 × gk_M)} (H151 : ∀ (a0 : Option Nat) (x3 : Int32) (x4 : Int32) (M : gk_M), k151 a0 x3 x4 M = some ρ → Gk p l e rm_Mo_match s m args below meth c gk_Y Γ 6 (MQ below (gk_Q gk_Y Γ (some (.int ρ.1)) ρ.2) args s rm_Mo_match.cells rm_Mo_match.slots (fun q => Γ.2.2 ≤ q)) 0 0 M 151 [some (va_rf a0), none, none, some (.int x3), some (.int x4), none] []) {a0 : Option Nat} {x3 : Int32} {x4 : Int32} {M : gk_M} (h : fn_Mo_match_151_bd k151 a0 x3 x4 M = some ρ) : Gk p l e rm_Mo_match s m args below meth c gk_Y Γ 6 (MQ below (gk_Q gk_Y Γ (some (.int ρ.1)) ρ.2) args s rm_Mo_match.cells rm_Mo_match.slots (fun q => Γ.2.2 ≤ q)) 0 0 M 151 [some (va_rf a0), none, none, some (.int x3), some (.int x4), none] [] := by
  unfold fn_Mo_match_151_bd at h
  refine Gk_iload (x := x4) B d_Mo_match_151 rfl ?_
  refine Gk_aload_n (i := 0) (r := a0) B d_Mo_match_153 rfl rfl ?_
  obtain ⟨v154, h154, h⟩ := gk_bind h
  refine Gk_getI (j := 47) B d_Mo_match_154 in_Mo cl_Mo (by decide) tw_802 rfl h154 ?_
  refine Gk_icmp_ge (tgt := 222) B d_Mo_match_157 rfl (fun c157 => ?_) (fun c157 => ?_)
  · rw [if_pos c157] at h
    refine Gk_iload_n (i := 3) (x := x3) B d_Mo_match_222 rfl rfl ?_
    cases h
    exact Gk_iret B hr d_Mo_match_223 rfl (by decide) (by decide) rfl
  rw [if_neg c157] at h
  refine Gk_aload_n (i := 0) (r := a0) B d_Mo_match_160 rfl rfl ?_
  refine Gk_iload (x := x4) B d_Mo_match_161 rfl ?_
  refine Gk_iload_n (i := 3) (x := x3) B d_Mo_match_163 rfl rfl ?_
  obtain ⟨o164, g164, h⟩ := gk_bind h
  obtain ⟨w164, h164, h⟩ := gk_bind h
  refine Gk_callV (As := [.int x4, .int x3]) (rest := []) (st1 := [.int w164.1]) (k1 := 0) (n1 := 0) B gk_hG d_Mo_match_164 (sn_Mo_longest h164) g164 cl_Mo tw_1013 tw_1010 tw_1012 tw_23 tw_48 nm_Mo_longest rfl (by decide) ⟨by decide, by decide⟩ ⟨by decide, by decide⟩ rfl rfl rfl rfl ?_
  refine Gk_istore (L' := [some (va_rf a0), none, none, some (.int x3), some (.int x4), some (.int w164.1)]) B d_Mo_match_167 (by decide) (gk_c1_i rfl) rfl ?_
  refine Gk_aload_n (i := 0) (r := a0) B d_Mo_match_169 rfl rfl ?_
  obtain ⟨v170, h170, h⟩ := gk_bind h
  refine Gk_getR (j := 48) B d_Mo_match_170 in_Mo cl_Mo (by decide) tw_803 rfl h170 ?_
  refine Gk_iload (x := x4) B d_Mo_match_173 rfl ?_
  obtain ⟨v175, h175, h⟩ := gk_bind h
  refine Gk_iaload B d_Mo_match_175 ty_0 h175 ?_
  refine Gk_iconst (v := 3) B d_Mo_match_176 (by decide) ?_
  refine Gk_icmp_gt (tgt := 211) B d_Mo_match_177 rfl (fun c177 => ?_) (fun c177 => ?_)
  · rw [if_pos c177] at h
    exact sn_Mo_match_211 B hr H151 h
  rw [if_neg c177] at h
  refine Gk_aload_n (i := 0) (r := a0) B d_Mo_match_180 rfl rfl ?_
  obtain ⟨v181, h181, h⟩ := gk_bind h
  refine Gk_getR (j := 51) B d_Mo_match_181 in_Mo cl_Mo (by decide) tw_806 rfl h181 ?_
  refine Gk_aload_n (i := 0) (r := a0) B d_Mo_match_184 rfl rfl ?_
  obtain ⟨v185, h185, h⟩ := gk_bind h
  refine Gk_getI (j := 50) B d_Mo_match_185 in_Mo cl_Mo (by decide) tw_805 rfl h185 ?_
  refine Gk_iload_n (i := 3) (x := x3) B d_Mo_match_188 rfl rfl ?_
  obtain ⟨M189, h189, h⟩ := gk_bind h
  refine Gk_iastore B d_Mo_match_189 ty_0 h189 ?_
  refine Gk_aload_n (i := 0) (r := a0) B d_Mo_match_190 rfl rfl ?_
  obtain ⟨v191, h191, h⟩ := gk_bind h
  refine Gk_getR (j := 52) B d_Mo_match_191 in_Mo cl_Mo (by decide) tw_807 rfl h191 ?_
  refine Gk_aload_n (i := 0) (r := a0) B d_Mo_match_194 rfl rfl ?_
  obtain ⟨v195, h195, h⟩ := gk_bind h
  refine Gk_getI (j := 50) B d_Mo_match_195 in_Mo cl_Mo (by decide) tw_805 rfl h195 ?_
  refine Gk_iload (x := w164.1) B d_Mo_match_198 rfl ?_
  obtain ⟨M200, h200, h⟩ := gk_bind h
  refine Gk_iastore B d_Mo_match_200 ty_0 h200 ?_
  refine Gk_aload_n (i := 0) (r := a0) B d_Mo_match_201 rfl rfl ?_
  refine Gk_dup B d_Mo_match_202 (gk_rc _) ?_
  obtain ⟨v203, h203, h⟩ := gk_bind h
  refine Gk_getI (j := 50) B d_Mo_match_203 in_Mo cl_Mo (by decide) tw_805 rfl h203 ?_
  refine Gk_iconst (v := 1) B d_Mo_match_206 (by decide) ?_
  refine Gk_iadd B d_Mo_match_207 ?_
  obtain ⟨M208, h208, h⟩ := gk_bind h
  refine Gk_put (j := 50) (ty := .int) B d_Mo_match_208 in_Mo t_Mo t_Mo_ok n_Mo cl_Mo (by decide) tw_805 rfl rfl rfl rfl rfl h208 ?_
  exact sn_Mo_match_211 B hr H151 h
set_option maxHeartbeats 4000000 in
set_option maxRecDepth 100000 in
theorem sn_Mo_match_151 {l : Launch} {Γ : gk_G} {p : Program} {e : Env} {s : State} {m : MethodId} {args : Array Value} {below : List Frame} {meth : Method} {c : Code} (B : gk_B p s m args meth c gk_Y Γ c_Mo_match 6 "StageDispatcherModel") (hr : meth.sig.returnType = (some .int)) {ρ : Int32 × gk_M}   {a0 : Option Nat} {x3 : Int32} {x4 : Int32} {M : gk_M} (h : fn_Mo_match_151  a0 x3 x4 M = some ρ) : Gk p l e rm_Mo_match s m args below meth c gk_Y Γ 6 (MQ below (gk_Q gk_Y Γ (some (.int ρ.1)) ρ.2) args s rm_Mo_match.cells rm_Mo_match.slots (fun q => Γ.2.2 ≤ q)) 0 0 M 151 [some (va_rf a0), none, none, some (.int x3), some (.int x4), none] [] := by
  unfold fn_Mo_match_151 at h
  exact gk_loop_sound (α := Option Nat × Int32 × Int32 × gk_M) (P := fun a => Gk p l e rm_Mo_match s m args below meth c gk_Y Γ 6 (MQ below (gk_Q gk_Y Γ (some (.int ρ.1)) ρ.2) args s rm_Mo_match.cells rm_Mo_match.slots (fun q => Γ.2.2 ≤ q)) 0 0 a.2.2.2 151 [some (va_rf a.1), none, none, some (.int a.2.1), some (.int a.2.2.1), none] []) (fun kk a Hk hb => sn_Mo_match_151_bd B hr (fun a0 x3 x4 M hh => Hk (a0, x3, x4, M) hh) hb) _ _ h
set_option maxHeartbeats 4000000 in
set_option maxRecDepth 100000 in
theorem sn_Mo_match_66_bd {l : Launch} {Γ : gk_G} {p : Program} {e : Env} {s : State} {m : MethodId} {args : Array Value} {below : List Frame} {meth : Method} {c : Code} (B : gk_B p s m args meth c gk_Y Γ c_Mo_match 6 "StageDispatcherModel") (hr : meth.sig.returnType = (some .int)) {ρ : Int32 × gk_M} {k66 : Option Nat → Int32 → Int32 → Int32 → gk_M → Option (Int32 × gk_M)} (H66 : ∀ (a0 : Option Nat) (x1 : Int32) (x2 : Int32) (x3 : Int32) (M : gk_M), k66 a0 x1 x2 x3 M = some ρ → Gk p l e rm_Mo_match s m args below meth c gk_Y Γ 6 (MQ below (gk_Q gk_Y Γ (some (.int ρ.1)) ρ.2) args s rm_Mo_match.cells rm_Mo_match.slots (fun q => Γ.2.2 ≤ q)) 0 0 M 66 [some (va_rf a0), some (.int x1), some (.int x2), some (.int x3), none, none] []) {a0 : Option Nat} {x1 : Int32} {x2 : Int32} {x3 : Int32} {M : gk_M} (h : fn_Mo_match_66_bd k66 a0 x1 x2 x3 M = some ρ) : Gk p l e rm_Mo_match s m args below meth c gk_Y Γ 6 (MQ below (gk_Q gk_Y Γ (some (.int ρ.1)) ρ.2) args s rm_Mo_match.cells rm_Mo_match.slots (fun q => Γ.2.2 ≤ q)) 0 0 M 66 [some (va_rf a0), some (.int x1), some (.int x2), some (.int x3), none, none] [] := by
  unfold fn_Mo_match_66_bd at h
  refine Gk_iload_n (i := 3) (x := x3) B d_Mo_match_66 rfl rfl ?_
  refine Gk_if_lt (tgt := 121) B d_Mo_match_67 rfl (fun c67 => ?_) (fun c67 => ?_)
  · rw [if_pos c67] at h
    refine Gk_aload_n (i := 0) (r := a0) B d_Mo_match_121 rfl rfl ?_
    obtain ⟨v122, h122, h⟩ := gk_bind h
    refine Gk_getR (j := 3) B d_Mo_match_122 in_Mo cl_Mo (by decide) tw_758 rfl h122 ?_
    refine Gk_iload_n (i := 1) (x := x1) B d_Mo_match_125 rfl rfl ?_
    obtain ⟨v126, h126, h⟩ := gk_bind h
    refine Gk_iaload B d_Mo_match_126 ty_0 h126 ?_
    refine Gk_if_eq (tgt := 139) B d_Mo_match_127 rfl (fun c127 => ?_) (fun c127 => ?_)
    · rw [if_pos c127] at h
      refine Gk_iconst (v := (-1)) B d_Mo_match_139 (by decide) ?_
      cases h
      exact Gk_iret B hr d_Mo_match_140 rfl (by decide) (by decide) rfl
    rw [if_neg c127] at h
    refine Gk_aload_n (i := 0) (r := a0) B d_Mo_match_130 rfl rfl ?_
    obtain ⟨v131, h131, h⟩ := gk_bind h
    refine Gk_getR (j := 49) B d_Mo_match_131 in_Mo cl_Mo (by decide) tw_804 rfl h131 ?_
    refine Gk_iload_n (i := 2) (x := x2) B d_Mo_match_134 rfl rfl ?_
    obtain ⟨v135, h135, h⟩ := gk_bind h
    refine Gk_zaload B d_Mo_match_135 ty_2 h135 ?_
    refine Gk_if_ne (tgt := 141) B d_Mo_match_136 rfl (fun c136 => ?_) (fun c136 => ?_)
    · rw [if_neg c136] at h
      refine Gk_aload_n (i := 0) (r := a0) B d_Mo_match_141 rfl rfl ?_
      refine Gk_iconst (v := 0) B d_Mo_match_142 (by decide) ?_
      obtain ⟨M143, h143, h⟩ := gk_bind h
      refine Gk_put (j := 50) (ty := .int) B d_Mo_match_143 in_Mo t_Mo t_Mo_ok n_Mo cl_Mo (by decide) tw_805 rfl rfl rfl rfl rfl h143 ?_
      refine Gk_iload_n (i := 2) (x := x2) B d_Mo_match_146 rfl rfl ?_
      refine Gk_istore_n (i := 3) (L' := [some (va_rf a0), some (.int x1), some (.int x2), some (.int x2), none, none]) B d_Mo_match_147 rfl (by decide) (gk_c1_i rfl) rfl ?_
      refine Gk_iconst (v := 0) B d_Mo_match_148 (by decide) ?_
      refine Gk_istore (L' := [some (va_rf a0), some (.int x1), some (.int x2), some (.int x2), some (.int 0), none]) B d_Mo_match_149 (by decide) (gk_c1_i rfl) rfl ?_
      refine Gk_weak [true, false, false, true, true, false] (L' := [some (va_rf a0), none, none, some (.int x2), some (.int 0), none]) rfl ?_
      exact sn_Mo_match_151 B hr h
    rw [if_pos c136] at h
    refine Gk_iconst (v := (-1)) B d_Mo_match_139 (by decide) ?_
    cases h
    exact Gk_iret B hr d_Mo_match_140 rfl (by decide) (by decide) rfl
  rw [if_neg c67] at h
  refine Gk_iconst (v := 0) B d_Mo_match_70 (by decide) ?_
  refine Gk_istore (L' := [some (va_rf a0), some (.int x1), some (.int x2), some (.int x3), some (.int 0), none]) B d_Mo_match_71 (by decide) (gk_c1_i rfl) rfl ?_
  exact sn_Mo_match_73 B hr H66 h
set_option maxHeartbeats 4000000 in
set_option maxRecDepth 100000 in
theorem sn_Mo_match_66 {l : Launch} {Γ : gk_G} {p : Program} {e : Env} {s : State} {m : MethodId} {args : Array Value} {below : List Frame} {meth : Method} {c : Code} (B : gk_B p s m args meth c gk_Y Γ c_Mo_match 6 "StageDispatcherModel") (hr : meth.sig.returnType = (some .int)) {ρ : Int32 × gk_M}   {a0 : Option Nat} {x1 : Int32} {x2 : Int32} {x3 : Int32} {M : gk_M} (h : fn_Mo_match_66  a0 x1 x2 x3 M = some ρ) : Gk p l e rm_Mo_match s m args below meth c gk_Y Γ 6 (MQ below (gk_Q gk_Y Γ (some (.int ρ.1)) ρ.2) args s rm_Mo_match.cells rm_Mo_match.slots (fun q => Γ.2.2 ≤ q)) 0 0 M 66 [some (va_rf a0), some (.int x1), some (.int x2), some (.int x3), none, none] [] := by
  unfold fn_Mo_match_66 at h
  exact gk_loop_sound (α := Option Nat × Int32 × Int32 × Int32 × gk_M) (P := fun a => Gk p l e rm_Mo_match s m args below meth c gk_Y Γ 6 (MQ below (gk_Q gk_Y Γ (some (.int ρ.1)) ρ.2) args s rm_Mo_match.cells rm_Mo_match.slots (fun q => Γ.2.2 ≤ q)) 0 0 a.2.2.2.2 66 [some (va_rf a.1), some (.int a.2.1), some (.int a.2.2.1), some (.int a.2.2.2.1), none, none] []) (fun kk a Hk hb => sn_Mo_match_66_bd B hr (fun a0 x1 x2 x3 M hh => Hk (a0, x1, x2, x3, M) hh) hb) _ _ h
set_option maxHeartbeats 4000000 in
set_option maxRecDepth 100000 in
theorem sn_Mo_match_7_bd {l : Launch} {Γ : gk_G} {p : Program} {e : Env} {s : State} {m : MethodId} {args : Array Value} {below : List Frame} {meth : Method} {c : Code} (B : gk_B p s m args meth c gk_Y Γ c_Mo_match 6 "StageDispatcherModel") (hr : meth.sig.returnType = (some .int)) {ρ : Int32 × gk_M} {k7 : Option Nat → Int32 → Int32 → Int32 → gk_M → Option (Int32 × gk_M)} (H7 : ∀ (a0 : Option Nat) (x1 : Int32) (x2 : Int32) (x3 : Int32) (M : gk_M), k7 a0 x1 x2 x3 M = some ρ → Gk p l e rm_Mo_match s m args below meth c gk_Y Γ 6 (MQ below (gk_Q gk_Y Γ (some (.int ρ.1)) ρ.2) args s rm_Mo_match.cells rm_Mo_match.slots (fun q => Γ.2.2 ≤ q)) 0 0 M 7 [some (va_rf a0), some (.int x1), some (.int x2), some (.int x3), none, none] []) {a0 : Option Nat} {x1 : Int32} {x2 : Int32} {x3 : Int32} {M : gk_M} (h : fn_Mo_match_7_bd k7 a0 x1 x2 x3 M = some ρ) : Gk p l e rm_Mo_match s m args below meth c gk_Y Γ 6 (MQ below (gk_Q gk_Y Γ (some (.int ρ.1)) ρ.2) args s rm_Mo_match.cells rm_Mo_match.slots (fun q => Γ.2.2 ≤ q)) 0 0 M 7 [some (va_rf a0), some (.int x1), some (.int x2), some (.int x3), none, none] [] := by
  unfold fn_Mo_match_7_bd at h
  refine Gk_iload_n (i := 3) (x := x3) B d_Mo_match_7 rfl rfl ?_
  refine Gk_aload_n (i := 0) (r := a0) B d_Mo_match_8 rfl rfl ?_
  obtain ⟨v9, h9, h⟩ := gk_bind h
  refine Gk_getI (j := 29) B d_Mo_match_9 in_Mo cl_Mo (by decide) tw_784 rfl h9 ?_
  refine Gk_icmp_gt (tgt := 59) B d_Mo_match_12 rfl (fun c12 => ?_) (fun c12 => ?_)
  · rw [if_pos c12] at h
    refine Gk_aload_n (i := 0) (r := a0) B d_Mo_match_59 rfl rfl ?_
    obtain ⟨v60, h60, h⟩ := gk_bind h
    refine Gk_getI (j := 47) B d_Mo_match_60 in_Mo cl_Mo (by decide) tw_802 rfl h60 ?_
    refine Gk_iconst (v := 1) B d_Mo_match_63 (by decide) ?_
    refine Gk_isub B d_Mo_match_64 ?_
    refine Gk_istore_n (i := 3) (L' := [some (va_rf a0), some (.int x1), some (.int x2), some (.int (v60 - (1 : Int32))), none, none]) B d_Mo_match_65 rfl (by decide) (gk_c1_i rfl) rfl ?_
    exact sn_Mo_match_66 B hr h
  rw [if_neg c12] at h
  refine Gk_aload_n (i := 0) (r := a0) B d_Mo_match_15 rfl rfl ?_
  obtain ⟨v16, h16, h⟩ := gk_bind h
  refine Gk_getR (j := 49) B d_Mo_match_16 in_Mo cl_Mo (by decide) tw_804 rfl h16 ?_
  refine Gk_bipush (v := 25) B d_Mo_match_19 (by decide) ?_
  refine Gk_aload_n (i := 0) (r := a0) B d_Mo_match_21 rfl rfl ?_
  obtain ⟨v22, h22, h⟩ := gk_bind h
  refine Gk_getI (j := 47) B d_Mo_match_22 in_Mo cl_Mo (by decide) tw_802 rfl h22 ?_
  refine Gk_imul B d_Mo_match_25 ?_
  refine Gk_iload_n (i := 3) (x := x3) B d_Mo_match_26 rfl rfl ?_
  refine Gk_iadd B d_Mo_match_27 ?_
  refine Gk_iload_n (i := 3) (x := x3) B d_Mo_match_28 rfl rfl ?_
  refine Gk_aload_n (i := 0) (r := a0) B d_Mo_match_29 rfl rfl ?_
  obtain ⟨v30, h30, h⟩ := gk_bind h
  refine Gk_getI (j := 29) B d_Mo_match_30 in_Mo cl_Mo (by decide) tw_784 rfl h30 ?_
  refine Gk_icmp_eq (tgt := 47) B d_Mo_match_33 rfl (fun c33 => ?_) (fun c33 => ?_)
  · rw [if_pos c33] at h
    exact sn_Mo_match_47 B hr H7 h
  rw [if_neg c33] at h
  refine Gk_aload_n (i := 0) (r := a0) B d_Mo_match_36 rfl rfl ?_
  obtain ⟨v37, h37, h⟩ := gk_bind h
  refine Gk_getR (j := 28) B d_Mo_match_37 in_Mo cl_Mo (by decide) tw_783 rfl h37 ?_
  refine Gk_iload_n (i := 3) (x := x3) B d_Mo_match_40 rfl rfl ?_
  obtain ⟨v41, h41, h⟩ := gk_bind h
  refine Gk_caload B d_Mo_match_41 ty_1 h41 ?_
  refine Gk_bipush (v := 47) B d_Mo_match_42 (by decide) ?_
  refine Gk_icmp_ne (tgt := 51) B d_Mo_match_44 rfl (fun c44 => ?_) (fun c44 => ?_)
  · rw [if_neg c44] at h
    refine Gk_iconst (v := 0) B d_Mo_match_51 (by decide) ?_
    exact sn_Mo_match_52 B hr H7 h
  rw [if_pos c44] at h
  exact sn_Mo_match_47 B hr H7 h
set_option maxHeartbeats 4000000 in
set_option maxRecDepth 100000 in
theorem sn_Mo_match_7 {l : Launch} {Γ : gk_G} {p : Program} {e : Env} {s : State} {m : MethodId} {args : Array Value} {below : List Frame} {meth : Method} {c : Code} (B : gk_B p s m args meth c gk_Y Γ c_Mo_match 6 "StageDispatcherModel") (hr : meth.sig.returnType = (some .int)) {ρ : Int32 × gk_M}   {a0 : Option Nat} {x1 : Int32} {x2 : Int32} {x3 : Int32} {M : gk_M} (h : fn_Mo_match_7  a0 x1 x2 x3 M = some ρ) : Gk p l e rm_Mo_match s m args below meth c gk_Y Γ 6 (MQ below (gk_Q gk_Y Γ (some (.int ρ.1)) ρ.2) args s rm_Mo_match.cells rm_Mo_match.slots (fun q => Γ.2.2 ≤ q)) 0 0 M 7 [some (va_rf a0), some (.int x1), some (.int x2), some (.int x3), none, none] [] := by
  unfold fn_Mo_match_7 at h
  exact gk_loop_sound (α := Option Nat × Int32 × Int32 × Int32 × gk_M) (P := fun a => Gk p l e rm_Mo_match s m args below meth c gk_Y Γ 6 (MQ below (gk_Q gk_Y Γ (some (.int ρ.1)) ρ.2) args s rm_Mo_match.cells rm_Mo_match.slots (fun q => Γ.2.2 ≤ q)) 0 0 a.2.2.2.2 7 [some (va_rf a.1), some (.int a.2.1), some (.int a.2.2.1), some (.int a.2.2.2.1), none, none] []) (fun kk a Hk hb => sn_Mo_match_7_bd B hr (fun a0 x1 x2 x3 M hh => Hk (a0, x1, x2, x3, M) hh) hb) _ _ h
set_option maxHeartbeats 4000000 in
set_option maxRecDepth 100000 in
theorem sn_Mo_match_0 {l : Launch} {Γ : gk_G} {p : Program} {e : Env} {s : State} {m : MethodId} {args : Array Value} {below : List Frame} {meth : Method} {c : Code} (B : gk_B p s m args meth c gk_Y Γ c_Mo_match 6 "StageDispatcherModel") (hr : meth.sig.returnType = (some .int)) {ρ : Int32 × gk_M}   {a0 : Option Nat} {x1 : Int32} {x2 : Int32} {M : gk_M} (h : fn_Mo_match  a0 x1 x2 M = some ρ) : Gk p l e rm_Mo_match s m args below meth c gk_Y Γ 6 (MQ below (gk_Q gk_Y Γ (some (.int ρ.1)) ρ.2) args s rm_Mo_match.cells rm_Mo_match.slots (fun q => Γ.2.2 ≤ q)) 0 0 M 0 [some (va_rf a0), some (.int x1), some (.int x2), none, none, none] [] := by
  unfold fn_Mo_match at h
  refine Gk_aload_n (i := 0) (r := a0) B d_Mo_match_0 rfl rfl ?_
  refine Gk_iload_n (i := 1) (x := x1) B d_Mo_match_1 rfl rfl ?_
  obtain ⟨o2, g2, h⟩ := gk_bind h
  obtain ⟨w2, h2, h⟩ := gk_bind h
  refine Gk_callV (As := [.int x1]) (rest := []) (st1 := []) (k1 := 0) (n1 := 0) B gk_hG d_Mo_match_2 (sn_Mo_cut h2) g2 cl_Mo tw_1009 tw_1006 tw_1008 tw_22 tw_48 nm_Mo_cut rfl (by decide) ⟨by decide, by decide⟩ ⟨by decide, by decide⟩ rfl rfl rfl rfl ?_
  refine Gk_iconst (v := 0) B d_Mo_match_5 (by decide) ?_
  refine Gk_istore_n (i := 3) (L' := [some (va_rf a0), some (.int x1), some (.int x2), some (.int 0), none, none]) B d_Mo_match_6 rfl (by decide) (gk_c1_i rfl) rfl ?_
  exact sn_Mo_match_7 B hr h
theorem sn_Mo_match {l : Launch} {Γ : gk_G} {a0 : Option Nat} {x1 : Int32} {x2 : Int32} {M : gk_M} {ρ : Int32 × gk_M} (h : fn_Mo_match a0 x1 x2 M = some ρ) : gk_Met l gk_Y Γ y_Mo_match (.code y_Mo_match c_Mo_match 6 (some .int) :: gk_Y.2.2.2) rm_Mo_match [va_rf a0, .int x1, .int x2] M (some (.int ρ.1)) ρ.2 :=
  gk_start (by decide) (by simp [lg_sl, gk_rc, gk_ic, gk_jc]) [some (va_rf a0), some (.int x1), some (.int x2), none, none, none] (by simp [gk_as, lv_args, gk_rc, gk_ic, gk_jc]) (fun p e s m args below meth c B hr hin => sn_Mo_match_0 B hr h)
theorem d_Mo_ends_0 : decode c_Mo_ends 0 = .ok (.iload_n 1, 1) := by decide +kernel
theorem d_Mo_ends_1 : decode c_Mo_ends 1 = .ok (.aload_n 0, 1) := by decide +kernel
theorem d_Mo_ends_2 : decode c_Mo_ends 2 = .ok (.getfield 132, 3) := by decide +kernel
theorem d_Mo_ends_5 : decode c_Mo_ends 5 = .ok (.if_icmp .eq 24, 3) := by decide +kernel
theorem d_Mo_ends_8 : decode c_Mo_ends 8 = .ok (.iload_n 1, 1) := by decide +kernel
theorem d_Mo_ends_9 : decode c_Mo_ends 9 = .ok (.aload_n 0, 1) := by decide +kernel
theorem d_Mo_ends_10 : decode c_Mo_ends 10 = .ok (.getfield 132, 3) := by decide +kernel
theorem d_Mo_ends_13 : decode c_Mo_ends 13 = .ok (.iconst 1, 1) := by decide +kernel
theorem d_Mo_ends_14 : decode c_Mo_ends 14 = .ok (.isub, 1) := by decide +kernel
theorem d_Mo_ends_15 : decode c_Mo_ends 15 = .ok (.if_icmp .ne 18, 3) := by decide +kernel
theorem d_Mo_ends_18 : decode c_Mo_ends 18 = .ok (.aload_n 0, 1) := by decide +kernel
theorem d_Mo_ends_19 : decode c_Mo_ends 19 = .ok (.getfield 78, 3) := by decide +kernel
theorem d_Mo_ends_22 : decode c_Mo_ends 22 = .ok (.iload_n 1, 1) := by decide +kernel
theorem d_Mo_ends_23 : decode c_Mo_ends 23 = .ok (.caload, 1) := by decide +kernel
theorem d_Mo_ends_24 : decode c_Mo_ends 24 = .ok (.bipush 47, 2) := by decide +kernel
theorem d_Mo_ends_26 : decode c_Mo_ends 26 = .ok (.if_icmp .ne 7, 3) := by decide +kernel
theorem d_Mo_ends_29 : decode c_Mo_ends 29 = .ok (.iconst 1, 1) := by decide +kernel
theorem d_Mo_ends_30 : decode c_Mo_ends 30 = .ok (.goto 4, 3) := by decide +kernel
theorem d_Mo_ends_33 : decode c_Mo_ends 33 = .ok (.iconst 0, 1) := by decide +kernel
theorem d_Mo_ends_34 : decode c_Mo_ends 34 = .ok (.ireturn, 1) := by decide +kernel
set_option maxHeartbeats 4000000 in
set_option maxRecDepth 100000 in
theorem sn_Mo_ends_29 {l : Launch} {Γ : gk_G} {p : Program} {e : Env} {s : State} {m : MethodId} {args : Array Value} {below : List Frame} {meth : Method} {c : Code} (B : gk_B p s m args meth c gk_Y Γ c_Mo_ends 2 "StageDispatcherModel") (hr : meth.sig.returnType = (some .boolean)) {ρ : Int32 × gk_M}    {M : gk_M} (h : fn_Mo_ends_29   M = some ρ) : Gk p l e rm_Mo_ends s m args below meth c gk_Y Γ 2 (MQ below (gk_Q gk_Y Γ (some (.int ρ.1)) ρ.2) args s rm_Mo_ends.cells rm_Mo_ends.slots (fun q => Γ.2.2 ≤ q)) 0 0 M 29 [none, none] [] := by
  unfold fn_Mo_ends_29 at h
  refine Gk_iconst (v := 1) B d_Mo_ends_29 (by decide) ?_
  refine Gk_goto (tgt := 34) B d_Mo_ends_30 rfl ?_
  obtain ⟨z, hz, h⟩ := gk_bind h
  obtain ⟨hz1, hz2⟩ := gk_z_eq hz
  cases h
  subst hz1
  exact Gk_iret B hr d_Mo_ends_34 (gk_nz hz2) (by decide) (by decide) rfl
set_option maxHeartbeats 4000000 in
set_option maxRecDepth 100000 in
theorem sn_Mo_ends_33 {l : Launch} {Γ : gk_G} {p : Program} {e : Env} {s : State} {m : MethodId} {args : Array Value} {below : List Frame} {meth : Method} {c : Code} (B : gk_B p s m args meth c gk_Y Γ c_Mo_ends 2 "StageDispatcherModel") (hr : meth.sig.returnType = (some .boolean)) {ρ : Int32 × gk_M}    {M : gk_M} (h : fn_Mo_ends_33   M = some ρ) : Gk p l e rm_Mo_ends s m args below meth c gk_Y Γ 2 (MQ below (gk_Q gk_Y Γ (some (.int ρ.1)) ρ.2) args s rm_Mo_ends.cells rm_Mo_ends.slots (fun q => Γ.2.2 ≤ q)) 0 0 M 33 [none, none] [] := by
  unfold fn_Mo_ends_33 at h
  refine Gk_iconst (v := 0) B d_Mo_ends_33 (by decide) ?_
  obtain ⟨z, hz, h⟩ := gk_bind h
  obtain ⟨hz1, hz2⟩ := gk_z_eq hz
  cases h
  subst hz1
  exact Gk_iret B hr d_Mo_ends_34 (gk_nz hz2) (by decide) (by decide) rfl
set_option maxHeartbeats 4000000 in
set_option maxRecDepth 100000 in
theorem sn_Mo_ends_0 {l : Launch} {Γ : gk_G} {p : Program} {e : Env} {s : State} {m : MethodId} {args : Array Value} {below : List Frame} {meth : Method} {c : Code} (B : gk_B p s m args meth c gk_Y Γ c_Mo_ends 2 "StageDispatcherModel") (hr : meth.sig.returnType = (some .boolean)) {ρ : Int32 × gk_M}   {a0 : Option Nat} {x1 : Int32} {M : gk_M} (h : fn_Mo_ends  a0 x1 M = some ρ) : Gk p l e rm_Mo_ends s m args below meth c gk_Y Γ 2 (MQ below (gk_Q gk_Y Γ (some (.int ρ.1)) ρ.2) args s rm_Mo_ends.cells rm_Mo_ends.slots (fun q => Γ.2.2 ≤ q)) 0 0 M 0 [some (va_rf a0), some (.int x1)] [] := by
  unfold fn_Mo_ends at h
  refine Gk_iload_n (i := 1) (x := x1) B d_Mo_ends_0 rfl rfl ?_
  refine Gk_aload_n (i := 0) (r := a0) B d_Mo_ends_1 rfl rfl ?_
  obtain ⟨v2, h2, h⟩ := gk_bind h
  refine Gk_getI (j := 29) B d_Mo_ends_2 in_Mo cl_Mo (by decide) tw_784 rfl h2 ?_
  refine Gk_icmp_eq (tgt := 29) B d_Mo_ends_5 rfl (fun c5 => ?_) (fun c5 => ?_)
  · rw [if_pos c5] at h
    refine Gk_weak [false, false] (L' := [none, none]) rfl ?_
    exact sn_Mo_ends_29 B hr h
  rw [if_neg c5] at h
  refine Gk_iload_n (i := 1) (x := x1) B d_Mo_ends_8 rfl rfl ?_
  refine Gk_aload_n (i := 0) (r := a0) B d_Mo_ends_9 rfl rfl ?_
  obtain ⟨v10, h10, h⟩ := gk_bind h
  refine Gk_getI (j := 29) B d_Mo_ends_10 in_Mo cl_Mo (by decide) tw_784 rfl h10 ?_
  refine Gk_iconst (v := 1) B d_Mo_ends_13 (by decide) ?_
  refine Gk_isub B d_Mo_ends_14 ?_
  refine Gk_icmp_ne (tgt := 33) B d_Mo_ends_15 rfl (fun c15 => ?_) (fun c15 => ?_)
  · rw [if_neg c15] at h
    refine Gk_weak [false, false] (L' := [none, none]) rfl ?_
    exact sn_Mo_ends_33 B hr h
  rw [if_pos c15] at h
  refine Gk_aload_n (i := 0) (r := a0) B d_Mo_ends_18 rfl rfl ?_
  obtain ⟨v19, h19, h⟩ := gk_bind h
  refine Gk_getR (j := 28) B d_Mo_ends_19 in_Mo cl_Mo (by decide) tw_783 rfl h19 ?_
  refine Gk_iload_n (i := 1) (x := x1) B d_Mo_ends_22 rfl rfl ?_
  obtain ⟨v23, h23, h⟩ := gk_bind h
  refine Gk_caload B d_Mo_ends_23 ty_1 h23 ?_
  refine Gk_bipush (v := 47) B d_Mo_ends_24 (by decide) ?_
  refine Gk_icmp_ne (tgt := 33) B d_Mo_ends_26 rfl (fun c26 => ?_) (fun c26 => ?_)
  · rw [if_neg c26] at h
    refine Gk_weak [false, false] (L' := [none, none]) rfl ?_
    exact sn_Mo_ends_33 B hr h
  rw [if_pos c26] at h
  refine Gk_weak [false, false] (L' := [none, none]) rfl ?_
  exact sn_Mo_ends_29 B hr h
theorem sn_Mo_ends {l : Launch} {Γ : gk_G} {a0 : Option Nat} {x1 : Int32} {M : gk_M} {ρ : Int32 × gk_M} (h : fn_Mo_ends a0 x1 M = some ρ) : gk_Met l gk_Y Γ y_Mo_ends (.code y_Mo_ends c_Mo_ends 2 (some .boolean) :: gk_Y.2.2.2) rm_Mo_ends [va_rf a0, .int x1] M (some (.int ρ.1)) ρ.2 :=
  gk_start (by decide) (by simp [lg_sl, gk_rc, gk_ic, gk_jc]) [some (va_rf a0), some (.int x1)] (by simp [gk_as, lv_args, gk_rc, gk_ic, gk_jc]) (fun p e s m args below meth c B hr hin => sn_Mo_ends_0 B hr h)
theorem d_Mo_hasTemplates_0 : decode c_Mo_hasTemplates 0 = .ok (.iconst 0, 1) := by decide +kernel
theorem d_Mo_hasTemplates_1 : decode c_Mo_hasTemplates 1 = .ok (.istore_n 2, 1) := by decide +kernel
theorem d_Mo_hasTemplates_2 : decode c_Mo_hasTemplates 2 = .ok (.iconst 0, 1) := by decide +kernel
theorem d_Mo_hasTemplates_3 : decode c_Mo_hasTemplates 3 = .ok (.istore_n 3, 1) := by decide +kernel
theorem d_Mo_hasTemplates_4 : decode c_Mo_hasTemplates 4 = .ok (.iload_n 3, 1) := by decide +kernel
theorem d_Mo_hasTemplates_5 : decode c_Mo_hasTemplates 5 = .ok (.aload_n 0, 1) := by decide +kernel
theorem d_Mo_hasTemplates_6 : decode c_Mo_hasTemplates 6 = .ok (.getfield 175, 3) := by decide +kernel
theorem d_Mo_hasTemplates_9 : decode c_Mo_hasTemplates 9 = .ok (.if_icmp .ge 41, 3) := by decide +kernel
theorem d_Mo_hasTemplates_12 : decode c_Mo_hasTemplates 12 = .ok (.iload_n 2, 1) := by decide +kernel
theorem d_Mo_hasTemplates_13 : decode c_Mo_hasTemplates 13 = .ok (.ifCond .ne 25, 3) := by decide +kernel
theorem d_Mo_hasTemplates_16 : decode c_Mo_hasTemplates 16 = .ok (.aload_n 0, 1) := by decide +kernel
theorem d_Mo_hasTemplates_17 : decode c_Mo_hasTemplates 17 = .ok (.getfield 20, 3) := by decide +kernel
theorem d_Mo_hasTemplates_20 : decode c_Mo_hasTemplates 20 = .ok (.iload_n 3, 1) := by decide +kernel
theorem d_Mo_hasTemplates_21 : decode c_Mo_hasTemplates 21 = .ok (.iaload, 1) := by decide +kernel
theorem d_Mo_hasTemplates_22 : decode c_Mo_hasTemplates 22 = .ok (.iload_n 1, 1) := by decide +kernel
theorem d_Mo_hasTemplates_23 : decode c_Mo_hasTemplates 23 = .ok (.if_icmp .ne 19, 3) := by decide +kernel
theorem d_Mo_hasTemplates_26 : decode c_Mo_hasTemplates 26 = .ok (.aload_n 0, 1) := by decide +kernel
theorem d_Mo_hasTemplates_27 : decode c_Mo_hasTemplates 27 = .ok (.getfield 16, 3) := by decide +kernel
theorem d_Mo_hasTemplates_30 : decode c_Mo_hasTemplates 30 = .ok (.bipush 6, 2) := by decide +kernel
theorem d_Mo_hasTemplates_32 : decode c_Mo_hasTemplates 32 = .ok (.iload_n 3, 1) := by decide +kernel
theorem d_Mo_hasTemplates_33 : decode c_Mo_hasTemplates 33 = .ok (.iadd, 1) := by decide +kernel
theorem d_Mo_hasTemplates_34 : decode c_Mo_hasTemplates 34 = .ok (.iaload, 1) := by decide +kernel
theorem d_Mo_hasTemplates_35 : decode c_Mo_hasTemplates 35 = .ok (.ifCond .le 7, 3) := by decide +kernel
theorem d_Mo_hasTemplates_38 : decode c_Mo_hasTemplates 38 = .ok (.iconst 1, 1) := by decide +kernel
theorem d_Mo_hasTemplates_39 : decode c_Mo_hasTemplates 39 = .ok (.goto 4, 3) := by decide +kernel
theorem d_Mo_hasTemplates_42 : decode c_Mo_hasTemplates 42 = .ok (.iconst 0, 1) := by decide +kernel
theorem d_Mo_hasTemplates_43 : decode c_Mo_hasTemplates 43 = .ok (.istore_n 2, 1) := by decide +kernel
theorem d_Mo_hasTemplates_44 : decode c_Mo_hasTemplates 44 = .ok (.iinc 3 1, 3) := by decide +kernel
theorem d_Mo_hasTemplates_47 : decode c_Mo_hasTemplates 47 = .ok (.goto (-43), 3) := by decide +kernel
theorem d_Mo_hasTemplates_50 : decode c_Mo_hasTemplates 50 = .ok (.iconst 0, 1) := by decide +kernel
theorem d_Mo_hasTemplates_51 : decode c_Mo_hasTemplates 51 = .ok (.istore_n 3, 1) := by decide +kernel
theorem d_Mo_hasTemplates_52 : decode c_Mo_hasTemplates 52 = .ok (.iload_n 3, 1) := by decide +kernel
theorem d_Mo_hasTemplates_53 : decode c_Mo_hasTemplates 53 = .ok (.aload_n 0, 1) := by decide +kernel
theorem d_Mo_hasTemplates_54 : decode c_Mo_hasTemplates 54 = .ok (.getfield 178, 3) := by decide +kernel
theorem d_Mo_hasTemplates_57 : decode c_Mo_hasTemplates 57 = .ok (.if_icmp .ge 29, 3) := by decide +kernel
theorem d_Mo_hasTemplates_60 : decode c_Mo_hasTemplates 60 = .ok (.iload_n 2, 1) := by decide +kernel
theorem d_Mo_hasTemplates_61 : decode c_Mo_hasTemplates 61 = .ok (.ifCond .ne 13, 3) := by decide +kernel
theorem d_Mo_hasTemplates_64 : decode c_Mo_hasTemplates 64 = .ok (.aload_n 0, 1) := by decide +kernel
theorem d_Mo_hasTemplates_65 : decode c_Mo_hasTemplates 65 = .ok (.getfield 44, 3) := by decide +kernel
theorem d_Mo_hasTemplates_68 : decode c_Mo_hasTemplates 68 = .ok (.iload_n 3, 1) := by decide +kernel
theorem d_Mo_hasTemplates_69 : decode c_Mo_hasTemplates 69 = .ok (.iaload, 1) := by decide +kernel
theorem d_Mo_hasTemplates_70 : decode c_Mo_hasTemplates 70 = .ok (.iload_n 1, 1) := by decide +kernel
theorem d_Mo_hasTemplates_71 : decode c_Mo_hasTemplates 71 = .ok (.if_icmp .ne 7, 3) := by decide +kernel
theorem d_Mo_hasTemplates_74 : decode c_Mo_hasTemplates 74 = .ok (.iconst 1, 1) := by decide +kernel
theorem d_Mo_hasTemplates_75 : decode c_Mo_hasTemplates 75 = .ok (.goto 4, 3) := by decide +kernel
theorem d_Mo_hasTemplates_78 : decode c_Mo_hasTemplates 78 = .ok (.iconst 0, 1) := by decide +kernel
theorem d_Mo_hasTemplates_79 : decode c_Mo_hasTemplates 79 = .ok (.istore_n 2, 1) := by decide +kernel
theorem d_Mo_hasTemplates_80 : decode c_Mo_hasTemplates 80 = .ok (.iinc 3 1, 3) := by decide +kernel
theorem d_Mo_hasTemplates_83 : decode c_Mo_hasTemplates 83 = .ok (.goto (-31), 3) := by decide +kernel
theorem d_Mo_hasTemplates_86 : decode c_Mo_hasTemplates 86 = .ok (.iload_n 2, 1) := by decide +kernel
theorem d_Mo_hasTemplates_87 : decode c_Mo_hasTemplates 87 = .ok (.ireturn, 1) := by decide +kernel
set_option maxHeartbeats 4000000 in
set_option maxRecDepth 100000 in
theorem sn_Mo_hasTemplates_43 {l : Launch} {Γ : gk_G} {p : Program} {e : Env} {s : State} {m : MethodId} {args : Array Value} {below : List Frame} {meth : Method} {c : Code} (B : gk_B p s m args meth c gk_Y Γ c_Mo_hasTemplates 4 "StageDispatcherModel") (hr : meth.sig.returnType = (some .boolean)) {ρ : Int32 × gk_M} {k4 : Option Nat → Int32 → Int32 → Int32 → gk_M → Option (Int32 × gk_M)} (H4 : ∀ (a0 : Option Nat) (x1 : Int32) (x2 : Int32) (x3 : Int32) (M : gk_M), k4 a0 x1 x2 x3 M = some ρ → Gk p l e rm_Mo_hasTemplates s m args below meth c gk_Y Γ 4 (MQ below (gk_Q gk_Y Γ (some (.int ρ.1)) ρ.2) args s rm_Mo_hasTemplates.cells rm_Mo_hasTemplates.slots (fun q => Γ.2.2 ≤ q)) 0 0 M 4 [some (va_rf a0), some (.int x1), some (.int x2), some (.int x3)] []) {a0 : Option Nat} {x1 : Int32} {x3 : Int32} {s0 : Int32} {M : gk_M} (h : fn_Mo_hasTemplates_43 k4 a0 x1 x3 s0 M = some ρ) : Gk p l e rm_Mo_hasTemplates s m args below meth c gk_Y Γ 4 (MQ below (gk_Q gk_Y Γ (some (.int ρ.1)) ρ.2) args s rm_Mo_hasTemplates.cells rm_Mo_hasTemplates.slots (fun q => Γ.2.2 ≤ q)) 0 0 M 43 [some (va_rf a0), some (.int x1), none, some (.int x3)] [.int s0] := by
  unfold fn_Mo_hasTemplates_43 at h
  refine Gk_istore_n (i := 2) (L' := [some (va_rf a0), some (.int x1), some (.int s0), some (.int x3)]) B d_Mo_hasTemplates_43 rfl (by decide) (gk_c1_i rfl) rfl ?_
  refine Gk_iinc (x := x3) (v := (x3 + 1)) (L' := [some (va_rf a0), some (.int x1), some (.int s0), some (.int (x3 + 1))]) B d_Mo_hasTemplates_44 rfl (congrArg (fun z => x3 + z) (by decide : Int32.ofInt 1 = 1)) (by decide) (gk_c1_i rfl) rfl ?_
  refine Gk_goto (tgt := 4) B d_Mo_hasTemplates_47 rfl ?_
  exact H4 a0 x1 s0 (x3 + 1) M h
set_option maxHeartbeats 4000000 in
set_option maxRecDepth 100000 in
theorem sn_Mo_hasTemplates_38 {l : Launch} {Γ : gk_G} {p : Program} {e : Env} {s : State} {m : MethodId} {args : Array Value} {below : List Frame} {meth : Method} {c : Code} (B : gk_B p s m args meth c gk_Y Γ c_Mo_hasTemplates 4 "StageDispatcherModel") (hr : meth.sig.returnType = (some .boolean)) {ρ : Int32 × gk_M} {k4 : Option Nat → Int32 → Int32 → Int32 → gk_M → Option (Int32 × gk_M)} (H4 : ∀ (a0 : Option Nat) (x1 : Int32) (x2 : Int32) (x3 : Int32) (M : gk_M), k4 a0 x1 x2 x3 M = some ρ → Gk p l e rm_Mo_hasTemplates s m args below meth c gk_Y Γ 4 (MQ below (gk_Q gk_Y Γ (some (.int ρ.1)) ρ.2) args s rm_Mo_hasTemplates.cells rm_Mo_hasTemplates.slots (fun q => Γ.2.2 ≤ q)) 0 0 M 4 [some (va_rf a0), some (.int x1), some (.int x2), some (.int x3)] []) {a0 : Option Nat} {x1 : Int32} {x3 : Int32} {M : gk_M} (h : fn_Mo_hasTemplates_38 k4 a0 x1 x3 M = some ρ) : Gk p l e rm_Mo_hasTemplates s m args below meth c gk_Y Γ 4 (MQ below (gk_Q gk_Y Γ (some (.int ρ.1)) ρ.2) args s rm_Mo_hasTemplates.cells rm_Mo_hasTemplates.slots (fun q => Γ.2.2 ≤ q)) 0 0 M 38 [some (va_rf a0), some (.int x1), none, some (.int x3)] [] := by
  unfold fn_Mo_hasTemplates_38 at h
  refine Gk_iconst (v := 1) B d_Mo_hasTemplates_38 (by decide) ?_
  refine Gk_goto (tgt := 43) B d_Mo_hasTemplates_39 rfl ?_
  exact sn_Mo_hasTemplates_43 B hr H4 h
set_option maxHeartbeats 4000000 in
set_option maxRecDepth 100000 in
theorem sn_Mo_hasTemplates_42 {l : Launch} {Γ : gk_G} {p : Program} {e : Env} {s : State} {m : MethodId} {args : Array Value} {below : List Frame} {meth : Method} {c : Code} (B : gk_B p s m args meth c gk_Y Γ c_Mo_hasTemplates 4 "StageDispatcherModel") (hr : meth.sig.returnType = (some .boolean)) {ρ : Int32 × gk_M} {k4 : Option Nat → Int32 → Int32 → Int32 → gk_M → Option (Int32 × gk_M)} (H4 : ∀ (a0 : Option Nat) (x1 : Int32) (x2 : Int32) (x3 : Int32) (M : gk_M), k4 a0 x1 x2 x3 M = some ρ → Gk p l e rm_Mo_hasTemplates s m args below meth c gk_Y Γ 4 (MQ below (gk_Q gk_Y Γ (some (.int ρ.1)) ρ.2) args s rm_Mo_hasTemplates.cells rm_Mo_hasTemplates.slots (fun q => Γ.2.2 ≤ q)) 0 0 M 4 [some (va_rf a0), some (.int x1), some (.int x2), some (.int x3)] []) {a0 : Option Nat} {x1 : Int32} {x3 : Int32} {M : gk_M} (h : fn_Mo_hasTemplates_42 k4 a0 x1 x3 M = some ρ) : Gk p l e rm_Mo_hasTemplates s m args below meth c gk_Y Γ 4 (MQ below (gk_Q gk_Y Γ (some (.int ρ.1)) ρ.2) args s rm_Mo_hasTemplates.cells rm_Mo_hasTemplates.slots (fun q => Γ.2.2 ≤ q)) 0 0 M 42 [some (va_rf a0), some (.int x1), none, some (.int x3)] [] := by
  unfold fn_Mo_hasTemplates_42 at h
  refine Gk_iconst (v := 0) B d_Mo_hasTemplates_42 (by decide) ?_
  exact sn_Mo_hasTemplates_43 B hr H4 h
set_option maxHeartbeats 4000000 in
set_option maxRecDepth 100000 in
theorem sn_Mo_hasTemplates_79 {l : Launch} {Γ : gk_G} {p : Program} {e : Env} {s : State} {m : MethodId} {args : Array Value} {below : List Frame} {meth : Method} {c : Code} (B : gk_B p s m args meth c gk_Y Γ c_Mo_hasTemplates 4 "StageDispatcherModel") (hr : meth.sig.returnType = (some .boolean)) {ρ : Int32 × gk_M} {k52 : Option Nat → Int32 → Int32 → Int32 → gk_M → Option (Int32 × gk_M)} (H52 : ∀ (a0 : Option Nat) (x1 : Int32) (x2 : Int32) (x3 : Int32) (M : gk_M), k52 a0 x1 x2 x3 M = some ρ → Gk p l e rm_Mo_hasTemplates s m args below meth c gk_Y Γ 4 (MQ below (gk_Q gk_Y Γ (some (.int ρ.1)) ρ.2) args s rm_Mo_hasTemplates.cells rm_Mo_hasTemplates.slots (fun q => Γ.2.2 ≤ q)) 0 0 M 52 [some (va_rf a0), some (.int x1), some (.int x2), some (.int x3)] []) {a0 : Option Nat} {x1 : Int32} {x3 : Int32} {s0 : Int32} {M : gk_M} (h : fn_Mo_hasTemplates_79 k52 a0 x1 x3 s0 M = some ρ) : Gk p l e rm_Mo_hasTemplates s m args below meth c gk_Y Γ 4 (MQ below (gk_Q gk_Y Γ (some (.int ρ.1)) ρ.2) args s rm_Mo_hasTemplates.cells rm_Mo_hasTemplates.slots (fun q => Γ.2.2 ≤ q)) 0 0 M 79 [some (va_rf a0), some (.int x1), none, some (.int x3)] [.int s0] := by
  unfold fn_Mo_hasTemplates_79 at h
  refine Gk_istore_n (i := 2) (L' := [some (va_rf a0), some (.int x1), some (.int s0), some (.int x3)]) B d_Mo_hasTemplates_79 rfl (by decide) (gk_c1_i rfl) rfl ?_
  refine Gk_iinc (x := x3) (v := (x3 + 1)) (L' := [some (va_rf a0), some (.int x1), some (.int s0), some (.int (x3 + 1))]) B d_Mo_hasTemplates_80 rfl (congrArg (fun z => x3 + z) (by decide : Int32.ofInt 1 = 1)) (by decide) (gk_c1_i rfl) rfl ?_
  refine Gk_goto (tgt := 52) B d_Mo_hasTemplates_83 rfl ?_
  exact H52 a0 x1 s0 (x3 + 1) M h
set_option maxHeartbeats 4000000 in
set_option maxRecDepth 100000 in
theorem sn_Mo_hasTemplates_74 {l : Launch} {Γ : gk_G} {p : Program} {e : Env} {s : State} {m : MethodId} {args : Array Value} {below : List Frame} {meth : Method} {c : Code} (B : gk_B p s m args meth c gk_Y Γ c_Mo_hasTemplates 4 "StageDispatcherModel") (hr : meth.sig.returnType = (some .boolean)) {ρ : Int32 × gk_M} {k52 : Option Nat → Int32 → Int32 → Int32 → gk_M → Option (Int32 × gk_M)} (H52 : ∀ (a0 : Option Nat) (x1 : Int32) (x2 : Int32) (x3 : Int32) (M : gk_M), k52 a0 x1 x2 x3 M = some ρ → Gk p l e rm_Mo_hasTemplates s m args below meth c gk_Y Γ 4 (MQ below (gk_Q gk_Y Γ (some (.int ρ.1)) ρ.2) args s rm_Mo_hasTemplates.cells rm_Mo_hasTemplates.slots (fun q => Γ.2.2 ≤ q)) 0 0 M 52 [some (va_rf a0), some (.int x1), some (.int x2), some (.int x3)] []) {a0 : Option Nat} {x1 : Int32} {x3 : Int32} {M : gk_M} (h : fn_Mo_hasTemplates_74 k52 a0 x1 x3 M = some ρ) : Gk p l e rm_Mo_hasTemplates s m args below meth c gk_Y Γ 4 (MQ below (gk_Q gk_Y Γ (some (.int ρ.1)) ρ.2) args s rm_Mo_hasTemplates.cells rm_Mo_hasTemplates.slots (fun q => Γ.2.2 ≤ q)) 0 0 M 74 [some (va_rf a0), some (.int x1), none, some (.int x3)] [] := by
  unfold fn_Mo_hasTemplates_74 at h
  refine Gk_iconst (v := 1) B d_Mo_hasTemplates_74 (by decide) ?_
  refine Gk_goto (tgt := 79) B d_Mo_hasTemplates_75 rfl ?_
  exact sn_Mo_hasTemplates_79 B hr H52 h
set_option maxHeartbeats 4000000 in
set_option maxRecDepth 100000 in
theorem sn_Mo_hasTemplates_52_bd {l : Launch} {Γ : gk_G} {p : Program} {e : Env} {s : State} {m : MethodId} {args : Array Value} {below : List Frame} {meth : Method} {c : Code} (B : gk_B p s m args meth c gk_Y Γ c_Mo_hasTemplates 4 "StageDispatcherModel") (hr : meth.sig.returnType = (some .boolean)) {ρ : Int32 × gk_M} {k52 : Option Nat → Int32 → Int32 → Int32 → gk_M → Option (Int32 × gk_M)} (H52 : ∀ (a0 : Option Nat) (x1 : Int32) (x2 : Int32) (x3 : Int32) (M : gk_M), k52 a0 x1 x2 x3 M = some ρ → Gk p l e rm_Mo_hasTemplates s m args below meth c gk_Y Γ 4 (MQ below (gk_Q gk_Y Γ (some (.int ρ.1)) ρ.2) args s rm_Mo_hasTemplates.cells rm_Mo_hasTemplates.slots (fun q => Γ.2.2 ≤ q)) 0 0 M 52 [some (va_rf a0), some (.int x1), some (.int x2), some (.int x3)] []) {a0 : Option Nat} {x1 : Int32} {x2 : Int32} {x3 : Int32} {M : gk_M} (h : fn_Mo_hasTemplates_52_bd k52 a0 x1 x2 x3 M = some ρ) : Gk p l e rm_Mo_hasTemplates s m args below meth c gk_Y Γ 4 (MQ below (gk_Q gk_Y Γ (some (.int ρ.1)) ρ.2) args s rm_Mo_hasTemplates.cells rm_Mo_hasTemplates.slots (fun q => Γ.2.2 ≤ q)) 0 0 M 52 [some (va_rf a0), some (.int x1), some (.int x2), some (.int x3)] [] := by
  unfold fn_Mo_hasTemplates_52_bd at h
  refine Gk_iload_n (i := 3) (x := x3) B d_Mo_hasTemplates_52 rfl rfl ?_
  refine Gk_aload_n (i := 0) (r := a0) B d_Mo_hasTemplates_53 rfl rfl ?_
  obtain ⟨v54, h54, h⟩ := gk_bind h
  refine Gk_getI (j := 14) B d_Mo_hasTemplates_54 in_Mo cl_Mo (by decide) tw_769 rfl h54 ?_
  refine Gk_icmp_ge (tgt := 86) B d_Mo_hasTemplates_57 rfl (fun c57 => ?_) (fun c57 => ?_)
  · rw [if_pos c57] at h
    refine Gk_iload_n (i := 2) (x := x2) B d_Mo_hasTemplates_86 rfl rfl ?_
    obtain ⟨z, hz, h⟩ := gk_bind h
    obtain ⟨hz1, hz2⟩ := gk_z_eq hz
    cases h
    subst hz1
    exact Gk_iret B hr d_Mo_hasTemplates_87 (gk_nz hz2) (by decide) (by decide) rfl
  rw [if_neg c57] at h
  refine Gk_iload_n (i := 2) (x := x2) B d_Mo_hasTemplates_60 rfl rfl ?_
  refine Gk_if_ne (tgt := 74) B d_Mo_hasTemplates_61 rfl (fun c61 => ?_) (fun c61 => ?_)
  · rw [if_neg c61] at h
    refine Gk_weak [true, true, false, true] (L' := [some (va_rf a0), some (.int x1), none, some (.int x3)]) rfl ?_
    exact sn_Mo_hasTemplates_74 B hr H52 h
  rw [if_pos c61] at h
  refine Gk_aload_n (i := 0) (r := a0) B d_Mo_hasTemplates_64 rfl rfl ?_
  obtain ⟨v65, h65, h⟩ := gk_bind h
  refine Gk_getR (j := 15) B d_Mo_hasTemplates_65 in_Mo cl_Mo (by decide) tw_770 rfl h65 ?_
  refine Gk_iload_n (i := 3) (x := x3) B d_Mo_hasTemplates_68 rfl rfl ?_
  obtain ⟨v69, h69, h⟩ := gk_bind h
  refine Gk_iaload B d_Mo_hasTemplates_69 ty_0 h69 ?_
  refine Gk_iload_n (i := 1) (x := x1) B d_Mo_hasTemplates_70 rfl rfl ?_
  refine Gk_icmp_ne (tgt := 78) B d_Mo_hasTemplates_71 rfl (fun c71 => ?_) (fun c71 => ?_)
  · rw [if_neg c71] at h
    refine Gk_iconst (v := 0) B d_Mo_hasTemplates_78 (by decide) ?_
    refine Gk_weak [true, true, false, true] (L' := [some (va_rf a0), some (.int x1), none, some (.int x3)]) rfl ?_
    exact sn_Mo_hasTemplates_79 B hr H52 h
  rw [if_pos c71] at h
  refine Gk_weak [true, true, false, true] (L' := [some (va_rf a0), some (.int x1), none, some (.int x3)]) rfl ?_
  exact sn_Mo_hasTemplates_74 B hr H52 h
set_option maxHeartbeats 4000000 in
set_option maxRecDepth 100000 in
theorem sn_Mo_hasTemplates_52 {l : Launch} {Γ : gk_G} {p : Program} {e : Env} {s : State} {m : MethodId} {args : Array Value} {below : List Frame} {meth : Method} {c : Code} (B : gk_B p s m args meth c gk_Y Γ c_Mo_hasTemplates 4 "StageDispatcherModel") (hr : meth.sig.returnType = (some .boolean)) {ρ : Int32 × gk_M}   {a0 : Option Nat} {x1 : Int32} {x2 : Int32} {x3 : Int32} {M : gk_M} (h : fn_Mo_hasTemplates_52  a0 x1 x2 x3 M = some ρ) : Gk p l e rm_Mo_hasTemplates s m args below meth c gk_Y Γ 4 (MQ below (gk_Q gk_Y Γ (some (.int ρ.1)) ρ.2) args s rm_Mo_hasTemplates.cells rm_Mo_hasTemplates.slots (fun q => Γ.2.2 ≤ q)) 0 0 M 52 [some (va_rf a0), some (.int x1), some (.int x2), some (.int x3)] [] := by
  unfold fn_Mo_hasTemplates_52 at h
  exact gk_loop_sound (α := Option Nat × Int32 × Int32 × Int32 × gk_M) (P := fun a => Gk p l e rm_Mo_hasTemplates s m args below meth c gk_Y Γ 4 (MQ below (gk_Q gk_Y Γ (some (.int ρ.1)) ρ.2) args s rm_Mo_hasTemplates.cells rm_Mo_hasTemplates.slots (fun q => Γ.2.2 ≤ q)) 0 0 a.2.2.2.2 52 [some (va_rf a.1), some (.int a.2.1), some (.int a.2.2.1), some (.int a.2.2.2.1)] []) (fun kk a Hk hb => sn_Mo_hasTemplates_52_bd B hr (fun a0 x1 x2 x3 M hh => Hk (a0, x1, x2, x3, M) hh) hb) _ _ h
set_option maxHeartbeats 4000000 in
set_option maxRecDepth 100000 in
theorem sn_Mo_hasTemplates_4_bd {l : Launch} {Γ : gk_G} {p : Program} {e : Env} {s : State} {m : MethodId} {args : Array Value} {below : List Frame} {meth : Method} {c : Code} (B : gk_B p s m args meth c gk_Y Γ c_Mo_hasTemplates 4 "StageDispatcherModel") (hr : meth.sig.returnType = (some .boolean)) {ρ : Int32 × gk_M} {k4 : Option Nat → Int32 → Int32 → Int32 → gk_M → Option (Int32 × gk_M)} (H4 : ∀ (a0 : Option Nat) (x1 : Int32) (x2 : Int32) (x3 : Int32) (M : gk_M), k4 a0 x1 x2 x3 M = some ρ → Gk p l e rm_Mo_hasTemplates s m args below meth c gk_Y Γ 4 (MQ below (gk_Q gk_Y Γ (some (.int ρ.1)) ρ.2) args s rm_Mo_hasTemplates.cells rm_Mo_hasTemplates.slots (fun q => Γ.2.2 ≤ q)) 0 0 M 4 [some (va_rf a0), some (.int x1), some (.int x2), some (.int x3)] []) {a0 : Option Nat} {x1 : Int32} {x2 : Int32} {x3 : Int32} {M : gk_M} (h : fn_Mo_hasTemplates_4_bd k4 a0 x1 x2 x3 M = some ρ) : Gk p l e rm_Mo_hasTemplates s m args below meth c gk_Y Γ 4 (MQ below (gk_Q gk_Y Γ (some (.int ρ.1)) ρ.2) args s rm_Mo_hasTemplates.cells rm_Mo_hasTemplates.slots (fun q => Γ.2.2 ≤ q)) 0 0 M 4 [some (va_rf a0), some (.int x1), some (.int x2), some (.int x3)] [] := by
  unfold fn_Mo_hasTemplates_4_bd at h
  refine Gk_iload_n (i := 3) (x := x3) B d_Mo_hasTemplates_4 rfl rfl ?_
  refine Gk_aload_n (i := 0) (r := a0) B d_Mo_hasTemplates_5 rfl rfl ?_
  obtain ⟨v6, h6, h⟩ := gk_bind h
  refine Gk_getI (j := 5) B d_Mo_hasTemplates_6 in_Mo cl_Mo (by decide) tw_760 rfl h6 ?_
  refine Gk_icmp_ge (tgt := 50) B d_Mo_hasTemplates_9 rfl (fun c9 => ?_) (fun c9 => ?_)
  · rw [if_pos c9] at h
    refine Gk_iconst (v := 0) B d_Mo_hasTemplates_50 (by decide) ?_
    refine Gk_istore_n (i := 3) (L' := [some (va_rf a0), some (.int x1), some (.int x2), some (.int 0)]) B d_Mo_hasTemplates_51 rfl (by decide) (gk_c1_i rfl) rfl ?_
    exact sn_Mo_hasTemplates_52 B hr h
  rw [if_neg c9] at h
  refine Gk_iload_n (i := 2) (x := x2) B d_Mo_hasTemplates_12 rfl rfl ?_
  refine Gk_if_ne (tgt := 38) B d_Mo_hasTemplates_13 rfl (fun c13 => ?_) (fun c13 => ?_)
  · rw [if_neg c13] at h
    refine Gk_weak [true, true, false, true] (L' := [some (va_rf a0), some (.int x1), none, some (.int x3)]) rfl ?_
    exact sn_Mo_hasTemplates_38 B hr H4 h
  rw [if_pos c13] at h
  refine Gk_aload_n (i := 0) (r := a0) B d_Mo_hasTemplates_16 rfl rfl ?_
  obtain ⟨v17, h17, h⟩ := gk_bind h
  refine Gk_getR (j := 6) B d_Mo_hasTemplates_17 in_Mo cl_Mo (by decide) tw_761 rfl h17 ?_
  refine Gk_iload_n (i := 3) (x := x3) B d_Mo_hasTemplates_20 rfl rfl ?_
  obtain ⟨v21, h21, h⟩ := gk_bind h
  refine Gk_iaload B d_Mo_hasTemplates_21 ty_0 h21 ?_
  refine Gk_iload_n (i := 1) (x := x1) B d_Mo_hasTemplates_22 rfl rfl ?_
  refine Gk_icmp_ne (tgt := 42) B d_Mo_hasTemplates_23 rfl (fun c23 => ?_) (fun c23 => ?_)
  · rw [if_neg c23] at h
    refine Gk_weak [true, true, false, true] (L' := [some (va_rf a0), some (.int x1), none, some (.int x3)]) rfl ?_
    exact sn_Mo_hasTemplates_42 B hr H4 h
  rw [if_pos c23] at h
  refine Gk_aload_n (i := 0) (r := a0) B d_Mo_hasTemplates_26 rfl rfl ?_
  obtain ⟨v27, h27, h⟩ := gk_bind h
  refine Gk_getR (j := 3) B d_Mo_hasTemplates_27 in_Mo cl_Mo (by decide) tw_758 rfl h27 ?_
  refine Gk_bipush (v := 6) B d_Mo_hasTemplates_30 (by decide) ?_
  refine Gk_iload_n (i := 3) (x := x3) B d_Mo_hasTemplates_32 rfl rfl ?_
  refine Gk_iadd B d_Mo_hasTemplates_33 ?_
  obtain ⟨v34, h34, h⟩ := gk_bind h
  refine Gk_iaload B d_Mo_hasTemplates_34 ty_0 h34 ?_
  refine Gk_if_le (tgt := 42) B d_Mo_hasTemplates_35 rfl (fun c35 => ?_) (fun c35 => ?_)
  · rw [if_pos c35] at h
    refine Gk_weak [true, true, false, true] (L' := [some (va_rf a0), some (.int x1), none, some (.int x3)]) rfl ?_
    exact sn_Mo_hasTemplates_42 B hr H4 h
  rw [if_neg c35] at h
  refine Gk_weak [true, true, false, true] (L' := [some (va_rf a0), some (.int x1), none, some (.int x3)]) rfl ?_
  exact sn_Mo_hasTemplates_38 B hr H4 h
set_option maxHeartbeats 4000000 in
set_option maxRecDepth 100000 in
theorem sn_Mo_hasTemplates_4 {l : Launch} {Γ : gk_G} {p : Program} {e : Env} {s : State} {m : MethodId} {args : Array Value} {below : List Frame} {meth : Method} {c : Code} (B : gk_B p s m args meth c gk_Y Γ c_Mo_hasTemplates 4 "StageDispatcherModel") (hr : meth.sig.returnType = (some .boolean)) {ρ : Int32 × gk_M}   {a0 : Option Nat} {x1 : Int32} {x2 : Int32} {x3 : Int32} {M : gk_M} (h : fn_Mo_hasTemplates_4  a0 x1 x2 x3 M = some ρ) : Gk p l e rm_Mo_hasTemplates s m args below meth c gk_Y Γ 4 (MQ below (gk_Q gk_Y Γ (some (.int ρ.1)) ρ.2) args s rm_Mo_hasTemplates.cells rm_Mo_hasTemplates.slots (fun q => Γ.2.2 ≤ q)) 0 0 M 4 [some (va_rf a0), some (.int x1), some (.int x2), some (.int x3)] [] := by
  unfold fn_Mo_hasTemplates_4 at h
  exact gk_loop_sound (α := Option Nat × Int32 × Int32 × Int32 × gk_M) (P := fun a => Gk p l e rm_Mo_hasTemplates s m args below meth c gk_Y Γ 4 (MQ below (gk_Q gk_Y Γ (some (.int ρ.1)) ρ.2) args s rm_Mo_hasTemplates.cells rm_Mo_hasTemplates.slots (fun q => Γ.2.2 ≤ q)) 0 0 a.2.2.2.2 4 [some (va_rf a.1), some (.int a.2.1), some (.int a.2.2.1), some (.int a.2.2.2.1)] []) (fun kk a Hk hb => sn_Mo_hasTemplates_4_bd B hr (fun a0 x1 x2 x3 M hh => Hk (a0, x1, x2, x3, M) hh) hb) _ _ h
set_option maxHeartbeats 4000000 in
set_option maxRecDepth 100000 in
theorem sn_Mo_hasTemplates_0 {l : Launch} {Γ : gk_G} {p : Program} {e : Env} {s : State} {m : MethodId} {args : Array Value} {below : List Frame} {meth : Method} {c : Code} (B : gk_B p s m args meth c gk_Y Γ c_Mo_hasTemplates 4 "StageDispatcherModel") (hr : meth.sig.returnType = (some .boolean)) {ρ : Int32 × gk_M}   {a0 : Option Nat} {x1 : Int32} {M : gk_M} (h : fn_Mo_hasTemplates  a0 x1 M = some ρ) : Gk p l e rm_Mo_hasTemplates s m args below meth c gk_Y Γ 4 (MQ below (gk_Q gk_Y Γ (some (.int ρ.1)) ρ.2) args s rm_Mo_hasTemplates.cells rm_Mo_hasTemplates.slots (fun q => Γ.2.2 ≤ q)) 0 0 M 0 [some (va_rf a0), some (.int x1), none, none] [] := by
  unfold fn_Mo_hasTemplates at h
  refine Gk_iconst (v := 0) B d_Mo_hasTemplates_0 (by decide) ?_
  refine Gk_istore_n (i := 2) (L' := [some (va_rf a0), some (.int x1), some (.int 0), none]) B d_Mo_hasTemplates_1 rfl (by decide) (gk_c1_i rfl) rfl ?_
  refine Gk_iconst (v := 0) B d_Mo_hasTemplates_2 (by decide) ?_
  refine Gk_istore_n (i := 3) (L' := [some (va_rf a0), some (.int x1), some (.int 0), some (.int 0)]) B d_Mo_hasTemplates_3 rfl (by decide) (gk_c1_i rfl) rfl ?_
  exact sn_Mo_hasTemplates_4 B hr h
theorem sn_Mo_hasTemplates {l : Launch} {Γ : gk_G} {a0 : Option Nat} {x1 : Int32} {M : gk_M} {ρ : Int32 × gk_M} (h : fn_Mo_hasTemplates a0 x1 M = some ρ) : gk_Met l gk_Y Γ y_Mo_hasTemplates (.code y_Mo_hasTemplates c_Mo_hasTemplates 4 (some .boolean) :: gk_Y.2.2.2) rm_Mo_hasTemplates [va_rf a0, .int x1] M (some (.int ρ.1)) ρ.2 :=
  gk_start (by decide) (by simp [lg_sl, gk_rc, gk_ic, gk_jc]) [some (va_rf a0), some (.int x1), none, none] (by simp [gk_as, lv_args, gk_rc, gk_ic, gk_jc]) (fun p e s m args below meth c B hr hin => sn_Mo_hasTemplates_0 B hr h)
theorem d_Mo_weight_0 : decode c_Mo_weight 0 = .ok (.aload_n 0, 1) := by decide +kernel
theorem d_Mo_weight_1 : decode c_Mo_weight 1 = .ok (.iload_n 1, 1) := by decide +kernel
theorem d_Mo_weight_2 : decode c_Mo_weight 2 = .ok (.invokevirtual 128, 3) := by decide +kernel
theorem d_Mo_weight_5 : decode c_Mo_weight 5 = .ok (.iconst 0, 1) := by decide +kernel
theorem d_Mo_weight_6 : decode c_Mo_weight 6 = .ok (.istore_n 2, 1) := by decide +kernel
theorem d_Mo_weight_7 : decode c_Mo_weight 7 = .ok (.iconst 0, 1) := by decide +kernel
theorem d_Mo_weight_8 : decode c_Mo_weight 8 = .ok (.istore_n 3, 1) := by decide +kernel
theorem d_Mo_weight_9 : decode c_Mo_weight 9 = .ok (.iconst 0, 1) := by decide +kernel
theorem d_Mo_weight_10 : decode c_Mo_weight 10 = .ok (.istore 4, 2) := by decide +kernel
theorem d_Mo_weight_12 : decode c_Mo_weight 12 = .ok (.iload 4, 2) := by decide +kernel
theorem d_Mo_weight_14 : decode c_Mo_weight 14 = .ok (.aload_n 0, 1) := by decide +kernel
theorem d_Mo_weight_15 : decode c_Mo_weight 15 = .ok (.getfield 125, 3) := by decide +kernel
theorem d_Mo_weight_18 : decode c_Mo_weight 18 = .ok (.if_icmp .ge 58, 3) := by decide +kernel
theorem d_Mo_weight_21 : decode c_Mo_weight 21 = .ok (.iload_n 2, 1) := by decide +kernel
theorem d_Mo_weight_22 : decode c_Mo_weight 22 = .ok (.aload_n 0, 1) := by decide +kernel
theorem d_Mo_weight_23 : decode c_Mo_weight 23 = .ok (.getfield 93, 3) := by decide +kernel
theorem d_Mo_weight_26 : decode c_Mo_weight 26 = .ok (.iload 4, 2) := by decide +kernel
theorem d_Mo_weight_28 : decode c_Mo_weight 28 = .ok (.iaload, 1) := by decide +kernel
theorem d_Mo_weight_29 : decode c_Mo_weight 29 = .ok (.iconst 3, 1) := by decide +kernel
theorem d_Mo_weight_30 : decode c_Mo_weight 30 = .ok (.if_icmp .le 7, 3) := by decide +kernel
theorem d_Mo_weight_33 : decode c_Mo_weight 33 = .ok (.iconst 1, 1) := by decide +kernel
theorem d_Mo_weight_34 : decode c_Mo_weight 34 = .ok (.goto 4, 3) := by decide +kernel
theorem d_Mo_weight_37 : decode c_Mo_weight 37 = .ok (.iconst 0, 1) := by decide +kernel
theorem d_Mo_weight_38 : decode c_Mo_weight 38 = .ok (.iadd, 1) := by decide +kernel
theorem d_Mo_weight_39 : decode c_Mo_weight 39 = .ok (.istore_n 2, 1) := by decide +kernel
theorem d_Mo_weight_40 : decode c_Mo_weight 40 = .ok (.iload_n 3, 1) := by decide +kernel
theorem d_Mo_weight_41 : decode c_Mo_weight 41 = .ok (.aload_n 0, 1) := by decide +kernel
theorem d_Mo_weight_42 : decode c_Mo_weight 42 = .ok (.getfield 93, 3) := by decide +kernel
theorem d_Mo_weight_45 : decode c_Mo_weight 45 = .ok (.iload 4, 2) := by decide +kernel
theorem d_Mo_weight_47 : decode c_Mo_weight 47 = .ok (.iaload, 1) := by decide +kernel
theorem d_Mo_weight_48 : decode c_Mo_weight 48 = .ok (.iconst 2, 1) := by decide +kernel
theorem d_Mo_weight_49 : decode c_Mo_weight 49 = .ok (.if_icmp .eq 14, 3) := by decide +kernel
theorem d_Mo_weight_52 : decode c_Mo_weight 52 = .ok (.aload_n 0, 1) := by decide +kernel
theorem d_Mo_weight_53 : decode c_Mo_weight 53 = .ok (.getfield 93, 3) := by decide +kernel
theorem d_Mo_weight_56 : decode c_Mo_weight 56 = .ok (.iload 4, 2) := by decide +kernel
theorem d_Mo_weight_58 : decode c_Mo_weight 58 = .ok (.iaload, 1) := by decide +kernel
theorem d_Mo_weight_59 : decode c_Mo_weight 59 = .ok (.iconst 3, 1) := by decide +kernel
theorem d_Mo_weight_60 : decode c_Mo_weight 60 = .ok (.if_icmp .ne 7, 3) := by decide +kernel
theorem d_Mo_weight_63 : decode c_Mo_weight 63 = .ok (.iconst 1, 1) := by decide +kernel
theorem d_Mo_weight_64 : decode c_Mo_weight 64 = .ok (.goto 4, 3) := by decide +kernel
theorem d_Mo_weight_67 : decode c_Mo_weight 67 = .ok (.iconst 0, 1) := by decide +kernel
theorem d_Mo_weight_68 : decode c_Mo_weight 68 = .ok (.iadd, 1) := by decide +kernel
theorem d_Mo_weight_69 : decode c_Mo_weight 69 = .ok (.istore_n 3, 1) := by decide +kernel
theorem d_Mo_weight_70 : decode c_Mo_weight 70 = .ok (.iinc 4 1, 3) := by decide +kernel
theorem d_Mo_weight_73 : decode c_Mo_weight 73 = .ok (.goto (-61), 3) := by decide +kernel
theorem d_Mo_weight_76 : decode c_Mo_weight 76 = .ok (.bipush 100, 2) := by decide +kernel
theorem d_Mo_weight_78 : decode c_Mo_weight 78 = .ok (.iload_n 2, 1) := by decide +kernel
theorem d_Mo_weight_79 : decode c_Mo_weight 79 = .ok (.imul, 1) := by decide +kernel
theorem d_Mo_weight_80 : decode c_Mo_weight 80 = .ok (.bipush 10, 2) := by decide +kernel
theorem d_Mo_weight_82 : decode c_Mo_weight 82 = .ok (.aload_n 0, 1) := by decide +kernel
theorem d_Mo_weight_83 : decode c_Mo_weight 83 = .ok (.getfield 125, 3) := by decide +kernel
theorem d_Mo_weight_86 : decode c_Mo_weight 86 = .ok (.iload_n 2, 1) := by decide +kernel
theorem d_Mo_weight_87 : decode c_Mo_weight 87 = .ok (.isub, 1) := by decide +kernel
theorem d_Mo_weight_88 : decode c_Mo_weight 88 = .ok (.imul, 1) := by decide +kernel
theorem d_Mo_weight_89 : decode c_Mo_weight 89 = .ok (.iadd, 1) := by decide +kernel
theorem d_Mo_weight_90 : decode c_Mo_weight 90 = .ok (.iload_n 3, 1) := by decide +kernel
theorem d_Mo_weight_91 : decode c_Mo_weight 91 = .ok (.iadd, 1) := by decide +kernel
theorem d_Mo_weight_92 : decode c_Mo_weight 92 = .ok (.ireturn, 1) := by decide +kernel
set_option maxHeartbeats 4000000 in
set_option maxRecDepth 100000 in
theorem sn_Mo_weight_68 {l : Launch} {Γ : gk_G} {p : Program} {e : Env} {s : State} {m : MethodId} {args : Array Value} {below : List Frame} {meth : Method} {c : Code} (B : gk_B p s m args meth c gk_Y Γ c_Mo_weight 5 "StageDispatcherModel") (hr : meth.sig.returnType = (some .int)) {ρ : Int32 × gk_M} {k12 : Option Nat → Int32 → Int32 → Int32 → gk_M → Option (Int32 × gk_M)} (H12 : ∀ (a0 : Option Nat) (x2 : Int32) (x3 : Int32) (x4 : Int32) (M : gk_M), k12 a0 x2 x3 x4 M = some ρ → Gk p l e rm_Mo_weight s m args below meth c gk_Y Γ 5 (MQ below (gk_Q gk_Y Γ (some (.int ρ.1)) ρ.2) args s rm_Mo_weight.cells rm_Mo_weight.slots (fun q => Γ.2.2 ≤ q)) 0 0 M 12 [some (va_rf a0), none, some (.int x2), some (.int x3), some (.int x4)] []) {a0 : Option Nat} {x2 : Int32} {x4 : Int32} {s0 : Int32} {s1 : Int32} {M : gk_M} (h : fn_Mo_weight_68 k12 a0 x2 x4 s0 s1 M = some ρ) : Gk p l e rm_Mo_weight s m args below meth c gk_Y Γ 5 (MQ below (gk_Q gk_Y Γ (some (.int ρ.1)) ρ.2) args s rm_Mo_weight.cells rm_Mo_weight.slots (fun q => Γ.2.2 ≤ q)) 0 0 M 68 [some (va_rf a0), none, some (.int x2), none, some (.int x4)] [.int s1, .int s0] := by
  unfold fn_Mo_weight_68 at h
  refine Gk_iadd B d_Mo_weight_68 ?_
  refine Gk_istore_n (i := 3) (L' := [some (va_rf a0), none, some (.int x2), some (.int (s0 + s1)), some (.int x4)]) B d_Mo_weight_69 rfl (by decide) (gk_c1_i rfl) rfl ?_
  refine Gk_iinc (x := x4) (v := (x4 + 1)) (L' := [some (va_rf a0), none, some (.int x2), some (.int (s0 + s1)), some (.int (x4 + 1))]) B d_Mo_weight_70 rfl (congrArg (fun z => x4 + z) (by decide : Int32.ofInt 1 = 1)) (by decide) (gk_c1_i rfl) rfl ?_
  refine Gk_goto (tgt := 12) B d_Mo_weight_73 rfl ?_
  exact H12 a0 x2 (s0 + s1) (x4 + 1) M h
set_option maxHeartbeats 4000000 in
set_option maxRecDepth 100000 in
theorem sn_Mo_weight_63 {l : Launch} {Γ : gk_G} {p : Program} {e : Env} {s : State} {m : MethodId} {args : Array Value} {below : List Frame} {meth : Method} {c : Code} (B : gk_B p s m args meth c gk_Y Γ c_Mo_weight 5 "StageDispatcherModel") (hr : meth.sig.returnType = (some .int)) {ρ : Int32 × gk_M} {k12 : Option Nat → Int32 → Int32 → Int32 → gk_M → Option (Int32 × gk_M)} (H12 : ∀ (a0 : Option Nat) (x2 : Int32) (x3 : Int32) (x4 : Int32) (M : gk_M), k12 a0 x2 x3 x4 M = some ρ → Gk p l e rm_Mo_weight s m args below meth c gk_Y Γ 5 (MQ below (gk_Q gk_Y Γ (some (.int ρ.1)) ρ.2) args s rm_Mo_weight.cells rm_Mo_weight.slots (fun q => Γ.2.2 ≤ q)) 0 0 M 12 [some (va_rf a0), none, some (.int x2), some (.int x3), some (.int x4)] []) {a0 : Option Nat} {x2 : Int32} {x4 : Int32} {s0 : Int32} {M : gk_M} (h : fn_Mo_weight_63 k12 a0 x2 x4 s0 M = some ρ) : Gk p l e rm_Mo_weight s m args below meth c gk_Y Γ 5 (MQ below (gk_Q gk_Y Γ (some (.int ρ.1)) ρ.2) args s rm_Mo_weight.cells rm_Mo_weight.slots (fun q => Γ.2.2 ≤ q)) 0 0 M 63 [some (va_rf a0), none, some (.int x2), none, some (.int x4)] [.int s0] := by
  unfold fn_Mo_weight_63 at h
  refine Gk_iconst (v := 1) B d_Mo_weight_63 (by decide) ?_
  refine Gk_goto (tgt := 68) B d_Mo_weight_64 rfl ?_
  exact sn_Mo_weight_68 B hr H12 h
set_option maxHeartbeats 4000000 in
set_option maxRecDepth 100000 in
theorem sn_Mo_weight_38 {l : Launch} {Γ : gk_G} {p : Program} {e : Env} {s : State} {m : MethodId} {args : Array Value} {below : List Frame} {meth : Method} {c : Code} (B : gk_B p s m args meth c gk_Y Γ c_Mo_weight 5 "StageDispatcherModel") (hr : meth.sig.returnType = (some .int)) {ρ : Int32 × gk_M} {k12 : Option Nat → Int32 → Int32 → Int32 → gk_M → Option (Int32 × gk_M)} (H12 : ∀ (a0 : Option Nat) (x2 : Int32) (x3 : Int32) (x4 : Int32) (M : gk_M), k12 a0 x2 x3 x4 M = some ρ → Gk p l e rm_Mo_weight s m args below meth c gk_Y Γ 5 (MQ below (gk_Q gk_Y Γ (some (.int ρ.1)) ρ.2) args s rm_Mo_weight.cells rm_Mo_weight.slots (fun q => Γ.2.2 ≤ q)) 0 0 M 12 [some (va_rf a0), none, some (.int x2), some (.int x3), some (.int x4)] []) {a0 : Option Nat} {x3 : Int32} {x4 : Int32} {s0 : Int32} {s1 : Int32} {M : gk_M} (h : fn_Mo_weight_38 k12 a0 x3 x4 s0 s1 M = some ρ) : Gk p l e rm_Mo_weight s m args below meth c gk_Y Γ 5 (MQ below (gk_Q gk_Y Γ (some (.int ρ.1)) ρ.2) args s rm_Mo_weight.cells rm_Mo_weight.slots (fun q => Γ.2.2 ≤ q)) 0 0 M 38 [some (va_rf a0), none, none, some (.int x3), some (.int x4)] [.int s1, .int s0] := by
  unfold fn_Mo_weight_38 at h
  refine Gk_iadd B d_Mo_weight_38 ?_
  refine Gk_istore_n (i := 2) (L' := [some (va_rf a0), none, some (.int (s0 + s1)), some (.int x3), some (.int x4)]) B d_Mo_weight_39 rfl (by decide) (gk_c1_n rfl) rfl ?_
  refine Gk_iload_n (i := 3) (x := x3) B d_Mo_weight_40 rfl rfl ?_
  refine Gk_aload_n (i := 0) (r := a0) B d_Mo_weight_41 rfl rfl ?_
  obtain ⟨v42, h42, h⟩ := gk_bind h
  refine Gk_getR (j := 48) B d_Mo_weight_42 in_Mo cl_Mo (by decide) tw_803 rfl h42 ?_
  refine Gk_iload (x := x4) B d_Mo_weight_45 rfl ?_
  obtain ⟨v47, h47, h⟩ := gk_bind h
  refine Gk_iaload B d_Mo_weight_47 ty_0 h47 ?_
  refine Gk_iconst (v := 2) B d_Mo_weight_48 (by decide) ?_
  refine Gk_icmp_eq (tgt := 63) B d_Mo_weight_49 rfl (fun c49 => ?_) (fun c49 => ?_)
  · rw [if_pos c49] at h
    refine Gk_weak [true, false, true, false, true] (L' := [some (va_rf a0), none, some (.int (s0 + s1)), none, some (.int x4)]) rfl ?_
    exact sn_Mo_weight_63 B hr H12 h
  rw [if_neg c49] at h
  refine Gk_aload_n (i := 0) (r := a0) B d_Mo_weight_52 rfl rfl ?_
  obtain ⟨v53, h53, h⟩ := gk_bind h
  refine Gk_getR (j := 48) B d_Mo_weight_53 in_Mo cl_Mo (by decide) tw_803 rfl h53 ?_
  refine Gk_iload (x := x4) B d_Mo_weight_56 rfl ?_
  obtain ⟨v58, h58, h⟩ := gk_bind h
  refine Gk_iaload B d_Mo_weight_58 ty_0 h58 ?_
  refine Gk_iconst (v := 3) B d_Mo_weight_59 (by decide) ?_
  refine Gk_icmp_ne (tgt := 67) B d_Mo_weight_60 rfl (fun c60 => ?_) (fun c60 => ?_)
  · rw [if_neg c60] at h
    refine Gk_iconst (v := 0) B d_Mo_weight_67 (by decide) ?_
    refine Gk_weak [true, false, true, false, true] (L' := [some (va_rf a0), none, some (.int (s0 + s1)), none, some (.int x4)]) rfl ?_
    exact sn_Mo_weight_68 B hr H12 h
  rw [if_pos c60] at h
  refine Gk_weak [true, false, true, false, true] (L' := [some (va_rf a0), none, some (.int (s0 + s1)), none, some (.int x4)]) rfl ?_
  exact sn_Mo_weight_63 B hr H12 h
set_option maxHeartbeats 4000000 in
set_option maxRecDepth 100000 in
theorem sn_Mo_weight_12_bd {l : Launch} {Γ : gk_G} {p : Program} {e : Env} {s : State} {m : MethodId} {args : Array Value} {below : List Frame} {meth : Method} {c : Code} (B : gk_B p s m args meth c gk_Y Γ c_Mo_weight 5 "StageDispatcherModel") (hr : meth.sig.returnType = (some .int)) {ρ : Int32 × gk_M} {k12 : Option Nat → Int32 → Int32 → Int32 → gk_M → Option (Int32 × gk_M)} (H12 : ∀ (a0 : Option Nat) (x2 : Int32) (x3 : Int32) (x4 : Int32) (M : gk_M), k12 a0 x2 x3 x4 M = some ρ → Gk p l e rm_Mo_weight s m args below meth c gk_Y Γ 5 (MQ below (gk_Q gk_Y Γ (some (.int ρ.1)) ρ.2) args s rm_Mo_weight.cells rm_Mo_weight.slots (fun q => Γ.2.2 ≤ q)) 0 0 M 12 [some (va_rf a0), none, some (.int x2), some (.int x3), some (.int x4)] []) {a0 : Option Nat} {x2 : Int32} {x3 : Int32} {x4 : Int32} {M : gk_M} (h : fn_Mo_weight_12_bd k12 a0 x2 x3 x4 M = some ρ) : Gk p l e rm_Mo_weight s m args below meth c gk_Y Γ 5 (MQ below (gk_Q gk_Y Γ (some (.int ρ.1)) ρ.2) args s rm_Mo_weight.cells rm_Mo_weight.slots (fun q => Γ.2.2 ≤ q)) 0 0 M 12 [some (va_rf a0), none, some (.int x2), some (.int x3), some (.int x4)] [] := by
  unfold fn_Mo_weight_12_bd at h
  refine Gk_iload (x := x4) B d_Mo_weight_12 rfl ?_
  refine Gk_aload_n (i := 0) (r := a0) B d_Mo_weight_14 rfl rfl ?_
  obtain ⟨v15, h15, h⟩ := gk_bind h
  refine Gk_getI (j := 47) B d_Mo_weight_15 in_Mo cl_Mo (by decide) tw_802 rfl h15 ?_
  refine Gk_icmp_ge (tgt := 76) B d_Mo_weight_18 rfl (fun c18 => ?_) (fun c18 => ?_)
  · rw [if_pos c18] at h
    refine Gk_bipush (v := 100) B d_Mo_weight_76 (by decide) ?_
    refine Gk_iload_n (i := 2) (x := x2) B d_Mo_weight_78 rfl rfl ?_
    refine Gk_imul B d_Mo_weight_79 ?_
    refine Gk_bipush (v := 10) B d_Mo_weight_80 (by decide) ?_
    refine Gk_aload_n (i := 0) (r := a0) B d_Mo_weight_82 rfl rfl ?_
    obtain ⟨v83, h83, h⟩ := gk_bind h
    refine Gk_getI (j := 47) B d_Mo_weight_83 in_Mo cl_Mo (by decide) tw_802 rfl h83 ?_
    refine Gk_iload_n (i := 2) (x := x2) B d_Mo_weight_86 rfl rfl ?_
    refine Gk_isub B d_Mo_weight_87 ?_
    refine Gk_imul B d_Mo_weight_88 ?_
    refine Gk_iadd B d_Mo_weight_89 ?_
    refine Gk_iload_n (i := 3) (x := x3) B d_Mo_weight_90 rfl rfl ?_
    refine Gk_iadd B d_Mo_weight_91 ?_
    cases h
    exact Gk_iret B hr d_Mo_weight_92 rfl (by decide) (by decide) rfl
  rw [if_neg c18] at h
  refine Gk_iload_n (i := 2) (x := x2) B d_Mo_weight_21 rfl rfl ?_
  refine Gk_aload_n (i := 0) (r := a0) B d_Mo_weight_22 rfl rfl ?_
  obtain ⟨v23, h23, h⟩ := gk_bind h
  refine Gk_getR (j := 48) B d_Mo_weight_23 in_Mo cl_Mo (by decide) tw_803 rfl h23 ?_
  refine Gk_iload (x := x4) B d_Mo_weight_26 rfl ?_
  obtain ⟨v28, h28, h⟩ := gk_bind h
  refine Gk_iaload B d_Mo_weight_28 ty_0 h28 ?_
  refine Gk_iconst (v := 3) B d_Mo_weight_29 (by decide) ?_
  refine Gk_icmp_le (tgt := 37) B d_Mo_weight_30 rfl (fun c30 => ?_) (fun c30 => ?_)
  · rw [if_pos c30] at h
    refine Gk_iconst (v := 0) B d_Mo_weight_37 (by decide) ?_
    refine Gk_weak [true, false, false, true, true] (L' := [some (va_rf a0), none, none, some (.int x3), some (.int x4)]) rfl ?_
    exact sn_Mo_weight_38 B hr H12 h
  rw [if_neg c30] at h
  refine Gk_iconst (v := 1) B d_Mo_weight_33 (by decide) ?_
  refine Gk_goto (tgt := 38) B d_Mo_weight_34 rfl ?_
  refine Gk_weak [true, false, false, true, true] (L' := [some (va_rf a0), none, none, some (.int x3), some (.int x4)]) rfl ?_
  exact sn_Mo_weight_38 B hr H12 h
set_option maxHeartbeats 4000000 in
set_option maxRecDepth 100000 in
theorem sn_Mo_weight_12 {l : Launch} {Γ : gk_G} {p : Program} {e : Env} {s : State} {m : MethodId} {args : Array Value} {below : List Frame} {meth : Method} {c : Code} (B : gk_B p s m args meth c gk_Y Γ c_Mo_weight 5 "StageDispatcherModel") (hr : meth.sig.returnType = (some .int)) {ρ : Int32 × gk_M}   {a0 : Option Nat} {x2 : Int32} {x3 : Int32} {x4 : Int32} {M : gk_M} (h : fn_Mo_weight_12  a0 x2 x3 x4 M = some ρ) : Gk p l e rm_Mo_weight s m args below meth c gk_Y Γ 5 (MQ below (gk_Q gk_Y Γ (some (.int ρ.1)) ρ.2) args s rm_Mo_weight.cells rm_Mo_weight.slots (fun q => Γ.2.2 ≤ q)) 0 0 M 12 [some (va_rf a0), none, some (.int x2), some (.int x3), some (.int x4)] [] := by
  unfold fn_Mo_weight_12 at h
  exact gk_loop_sound (α := Option Nat × Int32 × Int32 × Int32 × gk_M) (P := fun a => Gk p l e rm_Mo_weight s m args below meth c gk_Y Γ 5 (MQ below (gk_Q gk_Y Γ (some (.int ρ.1)) ρ.2) args s rm_Mo_weight.cells rm_Mo_weight.slots (fun q => Γ.2.2 ≤ q)) 0 0 a.2.2.2.2 12 [some (va_rf a.1), none, some (.int a.2.1), some (.int a.2.2.1), some (.int a.2.2.2.1)] []) (fun kk a Hk hb => sn_Mo_weight_12_bd B hr (fun a0 x2 x3 x4 M hh => Hk (a0, x2, x3, x4, M) hh) hb) _ _ h
set_option maxHeartbeats 4000000 in
set_option maxRecDepth 100000 in
theorem sn_Mo_weight_0 {l : Launch} {Γ : gk_G} {p : Program} {e : Env} {s : State} {m : MethodId} {args : Array Value} {below : List Frame} {meth : Method} {c : Code} (B : gk_B p s m args meth c gk_Y Γ c_Mo_weight 5 "StageDispatcherModel") (hr : meth.sig.returnType = (some .int)) {ρ : Int32 × gk_M}   {a0 : Option Nat} {x1 : Int32} {M : gk_M} (h : fn_Mo_weight  a0 x1 M = some ρ) : Gk p l e rm_Mo_weight s m args below meth c gk_Y Γ 5 (MQ below (gk_Q gk_Y Γ (some (.int ρ.1)) ρ.2) args s rm_Mo_weight.cells rm_Mo_weight.slots (fun q => Γ.2.2 ≤ q)) 0 0 M 0 [some (va_rf a0), some (.int x1), none, none, none] [] := by
  unfold fn_Mo_weight at h
  refine Gk_aload_n (i := 0) (r := a0) B d_Mo_weight_0 rfl rfl ?_
  refine Gk_iload_n (i := 1) (x := x1) B d_Mo_weight_1 rfl rfl ?_
  obtain ⟨o2, g2, h⟩ := gk_bind h
  obtain ⟨w2, h2, h⟩ := gk_bind h
  refine Gk_callV (As := [.int x1]) (rest := []) (st1 := []) (k1 := 0) (n1 := 0) B gk_hG d_Mo_weight_2 (sn_Mo_cut h2) g2 cl_Mo tw_1009 tw_1006 tw_1008 tw_22 tw_48 nm_Mo_cut rfl (by decide) ⟨by decide, by decide⟩ ⟨by decide, by decide⟩ rfl rfl rfl rfl ?_
  refine Gk_iconst (v := 0) B d_Mo_weight_5 (by decide) ?_
  refine Gk_istore_n (i := 2) (L' := [some (va_rf a0), some (.int x1), some (.int 0), none, none]) B d_Mo_weight_6 rfl (by decide) (gk_c1_i rfl) rfl ?_
  refine Gk_iconst (v := 0) B d_Mo_weight_7 (by decide) ?_
  refine Gk_istore_n (i := 3) (L' := [some (va_rf a0), some (.int x1), some (.int 0), some (.int 0), none]) B d_Mo_weight_8 rfl (by decide) (gk_c1_i rfl) rfl ?_
  refine Gk_iconst (v := 0) B d_Mo_weight_9 (by decide) ?_
  refine Gk_istore (L' := [some (va_rf a0), some (.int x1), some (.int 0), some (.int 0), some (.int 0)]) B d_Mo_weight_10 (by decide) (gk_c1_i rfl) rfl ?_
  refine Gk_weak [true, false, true, true, true] (L' := [some (va_rf a0), none, some (.int 0), some (.int 0), some (.int 0)]) rfl ?_
  exact sn_Mo_weight_12 B hr h
theorem sn_Mo_weight {l : Launch} {Γ : gk_G} {a0 : Option Nat} {x1 : Int32} {M : gk_M} {ρ : Int32 × gk_M} (h : fn_Mo_weight a0 x1 M = some ρ) : gk_Met l gk_Y Γ y_Mo_weight (.code y_Mo_weight c_Mo_weight 5 (some .int) :: gk_Y.2.2.2) rm_Mo_weight [va_rf a0, .int x1] M (some (.int ρ.1)) ρ.2 :=
  gk_start (by decide) (by simp [lg_sl, gk_rc, gk_ic, gk_jc]) [some (va_rf a0), some (.int x1), none, none, none] (by simp [gk_as, lv_args, gk_rc, gk_ic, gk_jc]) (fun p e s m args below meth c B hr hin => sn_Mo_weight_0 B hr h)
theorem d_Mo_same_0 : decode c_Mo_same 0 = .ok (.aload_n 0, 1) := by decide +kernel
theorem d_Mo_same_1 : decode c_Mo_same 1 = .ok (.getfield 16, 3) := by decide +kernel
theorem d_Mo_same_4 : decode c_Mo_same 4 = .ok (.iload_n 1, 1) := by decide +kernel
theorem d_Mo_same_5 : decode c_Mo_same 5 = .ok (.iaload, 1) := by decide +kernel
theorem d_Mo_same_6 : decode c_Mo_same 6 = .ok (.aload_n 0, 1) := by decide +kernel
theorem d_Mo_same_7 : decode c_Mo_same 7 = .ok (.getfield 16, 3) := by decide +kernel
theorem d_Mo_same_10 : decode c_Mo_same 10 = .ok (.iload_n 2, 1) := by decide +kernel
theorem d_Mo_same_11 : decode c_Mo_same 11 = .ok (.iaload, 1) := by decide +kernel
theorem d_Mo_same_12 : decode c_Mo_same 12 = .ok (.if_icmp .ne 7, 3) := by decide +kernel
theorem d_Mo_same_15 : decode c_Mo_same 15 = .ok (.iconst 1, 1) := by decide +kernel
theorem d_Mo_same_16 : decode c_Mo_same 16 = .ok (.goto 4, 3) := by decide +kernel
theorem d_Mo_same_19 : decode c_Mo_same 19 = .ok (.iconst 0, 1) := by decide +kernel
theorem d_Mo_same_20 : decode c_Mo_same 20 = .ok (.istore_n 3, 1) := by decide +kernel
theorem d_Mo_same_21 : decode c_Mo_same 21 = .ok (.iconst 0, 1) := by decide +kernel
theorem d_Mo_same_22 : decode c_Mo_same 22 = .ok (.istore 4, 2) := by decide +kernel
theorem d_Mo_same_24 : decode c_Mo_same 24 = .ok (.iload 4, 2) := by decide +kernel
theorem d_Mo_same_26 : decode c_Mo_same 26 = .ok (.aload_n 0, 1) := by decide +kernel
theorem d_Mo_same_27 : decode c_Mo_same 27 = .ok (.getfield 16, 3) := by decide +kernel
theorem d_Mo_same_30 : decode c_Mo_same 30 = .ok (.iload_n 1, 1) := by decide +kernel
theorem d_Mo_same_31 : decode c_Mo_same 31 = .ok (.iaload, 1) := by decide +kernel
theorem d_Mo_same_32 : decode c_Mo_same 32 = .ok (.if_icmp .ge 46, 3) := by decide +kernel
theorem d_Mo_same_35 : decode c_Mo_same 35 = .ok (.iload_n 3, 1) := by decide +kernel
theorem d_Mo_same_36 : decode c_Mo_same 36 = .ok (.ifCond .eq 42, 3) := by decide +kernel
theorem d_Mo_same_39 : decode c_Mo_same 39 = .ok (.aload_n 0, 1) := by decide +kernel
theorem d_Mo_same_40 : decode c_Mo_same 40 = .ok (.getfield 13, 3) := by decide +kernel
theorem d_Mo_same_43 : decode c_Mo_same 43 = .ok (.bipush 24, 2) := by decide +kernel
theorem d_Mo_same_45 : decode c_Mo_same 45 = .ok (.iload_n 1, 1) := by decide +kernel
theorem d_Mo_same_46 : decode c_Mo_same 46 = .ok (.imul, 1) := by decide +kernel
theorem d_Mo_same_47 : decode c_Mo_same 47 = .ok (.iload 4, 2) := by decide +kernel
theorem d_Mo_same_49 : decode c_Mo_same 49 = .ok (.iadd, 1) := by decide +kernel
theorem d_Mo_same_50 : decode c_Mo_same 50 = .ok (.caload, 1) := by decide +kernel
theorem d_Mo_same_51 : decode c_Mo_same 51 = .ok (.aload_n 0, 1) := by decide +kernel
theorem d_Mo_same_52 : decode c_Mo_same 52 = .ok (.getfield 13, 3) := by decide +kernel
theorem d_Mo_same_55 : decode c_Mo_same 55 = .ok (.bipush 24, 2) := by decide +kernel
theorem d_Mo_same_57 : decode c_Mo_same 57 = .ok (.iload_n 2, 1) := by decide +kernel
theorem d_Mo_same_58 : decode c_Mo_same 58 = .ok (.imul, 1) := by decide +kernel
theorem d_Mo_same_59 : decode c_Mo_same 59 = .ok (.iload 4, 2) := by decide +kernel
theorem d_Mo_same_61 : decode c_Mo_same 61 = .ok (.iadd, 1) := by decide +kernel
theorem d_Mo_same_62 : decode c_Mo_same 62 = .ok (.caload, 1) := by decide +kernel
theorem d_Mo_same_63 : decode c_Mo_same 63 = .ok (.if_icmp .ne 7, 3) := by decide +kernel
theorem d_Mo_same_66 : decode c_Mo_same 66 = .ok (.iconst 1, 1) := by decide +kernel
theorem d_Mo_same_67 : decode c_Mo_same 67 = .ok (.goto 4, 3) := by decide +kernel
theorem d_Mo_same_70 : decode c_Mo_same 70 = .ok (.iconst 0, 1) := by decide +kernel
theorem d_Mo_same_71 : decode c_Mo_same 71 = .ok (.istore_n 3, 1) := by decide +kernel
theorem d_Mo_same_72 : decode c_Mo_same 72 = .ok (.iinc 4 1, 3) := by decide +kernel
theorem d_Mo_same_75 : decode c_Mo_same 75 = .ok (.goto (-51), 3) := by decide +kernel
theorem d_Mo_same_78 : decode c_Mo_same 78 = .ok (.iload_n 3, 1) := by decide +kernel
theorem d_Mo_same_79 : decode c_Mo_same 79 = .ok (.ireturn, 1) := by decide +kernel
set_option maxHeartbeats 4000000 in
set_option maxRecDepth 100000 in
theorem sn_Mo_same_78 {l : Launch} {Γ : gk_G} {p : Program} {e : Env} {s : State} {m : MethodId} {args : Array Value} {below : List Frame} {meth : Method} {c : Code} (B : gk_B p s m args meth c gk_Y Γ c_Mo_same 5 "StageDispatcherModel") (hr : meth.sig.returnType = (some .boolean)) {ρ : Int32 × gk_M}   {x3 : Int32} {M : gk_M} (h : fn_Mo_same_78  x3 M = some ρ) : Gk p l e rm_Mo_same s m args below meth c gk_Y Γ 5 (MQ below (gk_Q gk_Y Γ (some (.int ρ.1)) ρ.2) args s rm_Mo_same.cells rm_Mo_same.slots (fun q => Γ.2.2 ≤ q)) 0 0 M 78 [none, none, none, some (.int x3), none] [] := by
  unfold fn_Mo_same_78 at h
  refine Gk_iload_n (i := 3) (x := x3) B d_Mo_same_78 rfl rfl ?_
  obtain ⟨z, hz, h⟩ := gk_bind h
  obtain ⟨hz1, hz2⟩ := gk_z_eq hz
  cases h
  subst hz1
  exact Gk_iret B hr d_Mo_same_79 (gk_nz hz2) (by decide) (by decide) rfl
set_option maxHeartbeats 4000000 in
set_option maxRecDepth 100000 in
theorem sn_Mo_same_71 {l : Launch} {Γ : gk_G} {p : Program} {e : Env} {s : State} {m : MethodId} {args : Array Value} {below : List Frame} {meth : Method} {c : Code} (B : gk_B p s m args meth c gk_Y Γ c_Mo_same 5 "StageDispatcherModel") (hr : meth.sig.returnType = (some .boolean)) {ρ : Int32 × gk_M} {k24 : Option Nat → Int32 → Int32 → Int32 → Int32 → gk_M → Option (Int32 × gk_M)} (H24 : ∀ (a0 : Option Nat) (x1 : Int32) (x2 : Int32) (x3 : Int32) (x4 : Int32) (M : gk_M), k24 a0 x1 x2 x3 x4 M = some ρ → Gk p l e rm_Mo_same s m args below meth c gk_Y Γ 5 (MQ below (gk_Q gk_Y Γ (some (.int ρ.1)) ρ.2) args s rm_Mo_same.cells rm_Mo_same.slots (fun q => Γ.2.2 ≤ q)) 0 0 M 24 [some (va_rf a0), some (.int x1), some (.int x2), some (.int x3), some (.int x4)] []) {a0 : Option Nat} {x1 : Int32} {x2 : Int32} {x4 : Int32} {s0 : Int32} {M : gk_M} (h : fn_Mo_same_71 k24 a0 x1 x2 x4 s0 M = some ρ) : Gk p l e rm_Mo_same s m args below meth c gk_Y Γ 5 (MQ below (gk_Q gk_Y Γ (some (.int ρ.1)) ρ.2) args s rm_Mo_same.cells rm_Mo_same.slots (fun q => Γ.2.2 ≤ q)) 0 0 M 71 [some (va_rf a0), some (.int x1), some (.int x2), none, some (.int x4)] [.int s0] := by
  unfold fn_Mo_same_71 at h
  refine Gk_istore_n (i := 3) (L' := [some (va_rf a0), some (.int x1), some (.int x2), some (.int s0), some (.int x4)]) B d_Mo_same_71 rfl (by decide) (gk_c1_i rfl) rfl ?_
  refine Gk_iinc (x := x4) (v := (x4 + 1)) (L' := [some (va_rf a0), some (.int x1), some (.int x2), some (.int s0), some (.int (x4 + 1))]) B d_Mo_same_72 rfl (congrArg (fun z => x4 + z) (by decide : Int32.ofInt 1 = 1)) (by decide) (gk_c1_i rfl) rfl ?_
  refine Gk_goto (tgt := 24) B d_Mo_same_75 rfl ?_
  exact H24 a0 x1 x2 s0 (x4 + 1) M h
set_option maxHeartbeats 4000000 in
set_option maxRecDepth 100000 in
theorem sn_Mo_same_24_bd {l : Launch} {Γ : gk_G} {p : Program} {e : Env} {s : State} {m : MethodId} {args : Array Value} {below : List Frame} {meth : Method} {c : Code} (B : gk_B p s m args meth c gk_Y Γ c_Mo_same 5 "StageDispatcherModel") (hr : meth.sig.returnType = (some .boolean)) {ρ : Int32 × gk_M} {k24 : Option Nat → Int32 → Int32 → Int32 → Int32 → gk_M → Option (Int32 × gk_M)} (H24 : ∀ (a0 : Option Nat) (x1 : Int32) (x2 : Int32) (x3 : Int32) (x4 : Int32) (M : gk_M), k24 a0 x1 x2 x3 x4 M = some ρ → Gk p l e rm_Mo_same s m args below meth c gk_Y Γ 5 (MQ below (gk_Q gk_Y Γ (some (.int ρ.1)) ρ.2) args s rm_Mo_same.cells rm_Mo_same.slots (fun q => Γ.2.2 ≤ q)) 0 0 M 24 [some (va_rf a0), some (.int x1), some (.int x2), some (.int x3), some (.int x4)] []) {a0 : Option Nat} {x1 : Int32} {x2 : Int32} {x3 : Int32} {x4 : Int32} {M : gk_M} (h : fn_Mo_same_24_bd k24 a0 x1 x2 x3 x4 M = some ρ) : Gk p l e rm_Mo_same s m args below meth c gk_Y Γ 5 (MQ below (gk_Q gk_Y Γ (some (.int ρ.1)) ρ.2) args s rm_Mo_same.cells rm_Mo_same.slots (fun q => Γ.2.2 ≤ q)) 0 0 M 24 [some (va_rf a0), some (.int x1), some (.int x2), some (.int x3), some (.int x4)] [] := by
  unfold fn_Mo_same_24_bd at h
  refine Gk_iload (x := x4) B d_Mo_same_24 rfl ?_
  refine Gk_aload_n (i := 0) (r := a0) B d_Mo_same_26 rfl rfl ?_
  obtain ⟨v27, h27, h⟩ := gk_bind h
  refine Gk_getR (j := 3) B d_Mo_same_27 in_Mo cl_Mo (by decide) tw_758 rfl h27 ?_
  refine Gk_iload_n (i := 1) (x := x1) B d_Mo_same_30 rfl rfl ?_
  obtain ⟨v31, h31, h⟩ := gk_bind h
  refine Gk_iaload B d_Mo_same_31 ty_0 h31 ?_
  refine Gk_icmp_ge (tgt := 78) B d_Mo_same_32 rfl (fun c32 => ?_) (fun c32 => ?_)
  · rw [if_pos c32] at h
    refine Gk_weak [false, false, false, true, false] (L' := [none, none, none, some (.int x3), none]) rfl ?_
    exact sn_Mo_same_78 B hr h
  rw [if_neg c32] at h
  refine Gk_iload_n (i := 3) (x := x3) B d_Mo_same_35 rfl rfl ?_
  refine Gk_if_eq (tgt := 78) B d_Mo_same_36 rfl (fun c36 => ?_) (fun c36 => ?_)
  · rw [if_pos c36] at h
    refine Gk_weak [false, false, false, true, false] (L' := [none, none, none, some (.int x3), none]) rfl ?_
    exact sn_Mo_same_78 B hr h
  rw [if_neg c36] at h
  refine Gk_aload_n (i := 0) (r := a0) B d_Mo_same_39 rfl rfl ?_
  obtain ⟨v40, h40, h⟩ := gk_bind h
  refine Gk_getR (j := 2) B d_Mo_same_40 in_Mo cl_Mo (by decide) tw_757 rfl h40 ?_
  refine Gk_bipush (v := 24) B d_Mo_same_43 (by decide) ?_
  refine Gk_iload_n (i := 1) (x := x1) B d_Mo_same_45 rfl rfl ?_
  refine Gk_imul B d_Mo_same_46 ?_
  refine Gk_iload (x := x4) B d_Mo_same_47 rfl ?_
  refine Gk_iadd B d_Mo_same_49 ?_
  obtain ⟨v50, h50, h⟩ := gk_bind h
  refine Gk_caload B d_Mo_same_50 ty_1 h50 ?_
  refine Gk_aload_n (i := 0) (r := a0) B d_Mo_same_51 rfl rfl ?_
  obtain ⟨v52, h52, h⟩ := gk_bind h
  refine Gk_getR (j := 2) B d_Mo_same_52 in_Mo cl_Mo (by decide) tw_757 rfl h52 ?_
  refine Gk_bipush (v := 24) B d_Mo_same_55 (by decide) ?_
  refine Gk_iload_n (i := 2) (x := x2) B d_Mo_same_57 rfl rfl ?_
  refine Gk_imul B d_Mo_same_58 ?_
  refine Gk_iload (x := x4) B d_Mo_same_59 rfl ?_
  refine Gk_iadd B d_Mo_same_61 ?_
  obtain ⟨v62, h62, h⟩ := gk_bind h
  refine Gk_caload B d_Mo_same_62 ty_1 h62 ?_
  refine Gk_icmp_ne (tgt := 70) B d_Mo_same_63 rfl (fun c63 => ?_) (fun c63 => ?_)
  · rw [if_neg c63] at h
    refine Gk_iconst (v := 0) B d_Mo_same_70 (by decide) ?_
    refine Gk_weak [true, true, true, false, true] (L' := [some (va_rf a0), some (.int x1), some (.int x2), none, some (.int x4)]) rfl ?_
    exact sn_Mo_same_71 B hr H24 h
  rw [if_pos c63] at h
  refine Gk_iconst (v := 1) B d_Mo_same_66 (by decide) ?_
  refine Gk_goto (tgt := 71) B d_Mo_same_67 rfl ?_
  refine Gk_weak [true, true, true, false, true] (L' := [some (va_rf a0), some (.int x1), some (.int x2), none, some (.int x4)]) rfl ?_
  exact sn_Mo_same_71 B hr H24 h
set_option maxHeartbeats 4000000 in
set_option maxRecDepth 100000 in
theorem sn_Mo_same_24 {l : Launch} {Γ : gk_G} {p : Program} {e : Env} {s : State} {m : MethodId} {args : Array Value} {below : List Frame} {meth : Method} {c : Code} (B : gk_B p s m args meth c gk_Y Γ c_Mo_same 5 "StageDispatcherModel") (hr : meth.sig.returnType = (some .boolean)) {ρ : Int32 × gk_M}   {a0 : Option Nat} {x1 : Int32} {x2 : Int32} {x3 : Int32} {x4 : Int32} {M : gk_M} (h : fn_Mo_same_24  a0 x1 x2 x3 x4 M = some ρ) : Gk p l e rm_Mo_same s m args below meth c gk_Y Γ 5 (MQ below (gk_Q gk_Y Γ (some (.int ρ.1)) ρ.2) args s rm_Mo_same.cells rm_Mo_same.slots (fun q => Γ.2.2 ≤ q)) 0 0 M 24 [some (va_rf a0), some (.int x1), some (.int x2), some (.int x3), some (.int x4)] [] := by
  unfold fn_Mo_same_24 at h
  exact gk_loop_sound (α := Option Nat × Int32 × Int32 × Int32 × Int32 × gk_M) (P := fun a => Gk p l e rm_Mo_same s m args below meth c gk_Y Γ 5 (MQ below (gk_Q gk_Y Γ (some (.int ρ.1)) ρ.2) args s rm_Mo_same.cells rm_Mo_same.slots (fun q => Γ.2.2 ≤ q)) 0 0 a.2.2.2.2.2 24 [some (va_rf a.1), some (.int a.2.1), some (.int a.2.2.1), some (.int a.2.2.2.1), some (.int a.2.2.2.2.1)] []) (fun kk a Hk hb => sn_Mo_same_24_bd B hr (fun a0 x1 x2 x3 x4 M hh => Hk (a0, x1, x2, x3, x4, M) hh) hb) _ _ h
set_option maxHeartbeats 4000000 in
set_option maxRecDepth 100000 in
theorem sn_Mo_same_20 {l : Launch} {Γ : gk_G} {p : Program} {e : Env} {s : State} {m : MethodId} {args : Array Value} {below : List Frame} {meth : Method} {c : Code} (B : gk_B p s m args meth c gk_Y Γ c_Mo_same 5 "StageDispatcherModel") (hr : meth.sig.returnType = (some .boolean)) {ρ : Int32 × gk_M}   {a0 : Option Nat} {x1 : Int32} {x2 : Int32} {s0 : Int32} {M : gk_M} (h : fn_Mo_same_20  a0 x1 x2 s0 M = some ρ) : Gk p l e rm_Mo_same s m args below meth c gk_Y Γ 5 (MQ below (gk_Q gk_Y Γ (some (.int ρ.1)) ρ.2) args s rm_Mo_same.cells rm_Mo_same.slots (fun q => Γ.2.2 ≤ q)) 0 0 M 20 [some (va_rf a0), some (.int x1), some (.int x2), none, none] [.int s0] := by
  unfold fn_Mo_same_20 at h
  refine Gk_istore_n (i := 3) (L' := [some (va_rf a0), some (.int x1), some (.int x2), some (.int s0), none]) B d_Mo_same_20 rfl (by decide) (gk_c1_i rfl) rfl ?_
  refine Gk_iconst (v := 0) B d_Mo_same_21 (by decide) ?_
  refine Gk_istore (L' := [some (va_rf a0), some (.int x1), some (.int x2), some (.int s0), some (.int 0)]) B d_Mo_same_22 (by decide) (gk_c1_i rfl) rfl ?_
  exact sn_Mo_same_24 B hr h
set_option maxHeartbeats 4000000 in
set_option maxRecDepth 100000 in
theorem sn_Mo_same_0 {l : Launch} {Γ : gk_G} {p : Program} {e : Env} {s : State} {m : MethodId} {args : Array Value} {below : List Frame} {meth : Method} {c : Code} (B : gk_B p s m args meth c gk_Y Γ c_Mo_same 5 "StageDispatcherModel") (hr : meth.sig.returnType = (some .boolean)) {ρ : Int32 × gk_M}   {a0 : Option Nat} {x1 : Int32} {x2 : Int32} {M : gk_M} (h : fn_Mo_same  a0 x1 x2 M = some ρ) : Gk p l e rm_Mo_same s m args below meth c gk_Y Γ 5 (MQ below (gk_Q gk_Y Γ (some (.int ρ.1)) ρ.2) args s rm_Mo_same.cells rm_Mo_same.slots (fun q => Γ.2.2 ≤ q)) 0 0 M 0 [some (va_rf a0), some (.int x1), some (.int x2), none, none] [] := by
  unfold fn_Mo_same at h
  refine Gk_aload_n (i := 0) (r := a0) B d_Mo_same_0 rfl rfl ?_
  obtain ⟨v1, h1, h⟩ := gk_bind h
  refine Gk_getR (j := 3) B d_Mo_same_1 in_Mo cl_Mo (by decide) tw_758 rfl h1 ?_
  refine Gk_iload_n (i := 1) (x := x1) B d_Mo_same_4 rfl rfl ?_
  obtain ⟨v5, h5, h⟩ := gk_bind h
  refine Gk_iaload B d_Mo_same_5 ty_0 h5 ?_
  refine Gk_aload_n (i := 0) (r := a0) B d_Mo_same_6 rfl rfl ?_
  obtain ⟨v7, h7, h⟩ := gk_bind h
  refine Gk_getR (j := 3) B d_Mo_same_7 in_Mo cl_Mo (by decide) tw_758 rfl h7 ?_
  refine Gk_iload_n (i := 2) (x := x2) B d_Mo_same_10 rfl rfl ?_
  obtain ⟨v11, h11, h⟩ := gk_bind h
  refine Gk_iaload B d_Mo_same_11 ty_0 h11 ?_
  refine Gk_icmp_ne (tgt := 19) B d_Mo_same_12 rfl (fun c12 => ?_) (fun c12 => ?_)
  · rw [if_neg c12] at h
    refine Gk_iconst (v := 0) B d_Mo_same_19 (by decide) ?_
    exact sn_Mo_same_20 B hr h
  rw [if_pos c12] at h
  refine Gk_iconst (v := 1) B d_Mo_same_15 (by decide) ?_
  refine Gk_goto (tgt := 20) B d_Mo_same_16 rfl ?_
  exact sn_Mo_same_20 B hr h
theorem sn_Mo_same {l : Launch} {Γ : gk_G} {a0 : Option Nat} {x1 : Int32} {x2 : Int32} {M : gk_M} {ρ : Int32 × gk_M} (h : fn_Mo_same a0 x1 x2 M = some ρ) : gk_Met l gk_Y Γ y_Mo_same (.code y_Mo_same c_Mo_same 5 (some .boolean) :: gk_Y.2.2.2) rm_Mo_same [va_rf a0, .int x1, .int x2] M (some (.int ρ.1)) ρ.2 :=
  gk_start (by decide) (by simp [lg_sl, gk_rc, gk_ic, gk_jc]) [some (va_rf a0), some (.int x1), some (.int x2), none, none] (by simp [gk_as, lv_args, gk_rc, gk_ic, gk_jc]) (fun p e s m args below meth c B hr hin => sn_Mo_same_0 B hr h)
theorem d_Mo_count_0 : decode c_Mo_count 0 = .ok (.aload_n 0, 1) := by decide +kernel
theorem d_Mo_count_1 : decode c_Mo_count 1 = .ok (.iload_n 1, 1) := by decide +kernel
theorem d_Mo_count_2 : decode c_Mo_count 2 = .ok (.iload_n 2, 1) := by decide +kernel
theorem d_Mo_count_3 : decode c_Mo_count 3 = .ok (.invokevirtual 146, 3) := by decide +kernel
theorem d_Mo_count_6 : decode c_Mo_count 6 = .ok (.istore_n 3, 1) := by decide +kernel
theorem d_Mo_count_7 : decode c_Mo_count 7 = .ok (.iconst 0, 1) := by decide +kernel
theorem d_Mo_count_8 : decode c_Mo_count 8 = .ok (.istore 4, 2) := by decide +kernel
theorem d_Mo_count_10 : decode c_Mo_count 10 = .ok (.iload 4, 2) := by decide +kernel
theorem d_Mo_count_12 : decode c_Mo_count 12 = .ok (.aload_n 0, 1) := by decide +kernel
theorem d_Mo_count_13 : decode c_Mo_count 13 = .ok (.getfield 143, 3) := by decide +kernel
theorem d_Mo_count_16 : decode c_Mo_count 16 = .ok (.if_icmp .ge 51, 3) := by decide +kernel
theorem d_Mo_count_19 : decode c_Mo_count 19 = .ok (.aload_n 0, 1) := by decide +kernel
theorem d_Mo_count_20 : decode c_Mo_count 20 = .ok (.getfield 84, 3) := by decide +kernel
theorem d_Mo_count_23 : decode c_Mo_count 23 = .ok (.aload_n 0, 1) := by decide +kernel
theorem d_Mo_count_24 : decode c_Mo_count 24 = .ok (.getfield 149, 3) := by decide +kernel
theorem d_Mo_count_27 : decode c_Mo_count 27 = .ok (.aload_n 0, 1) := by decide +kernel
theorem d_Mo_count_28 : decode c_Mo_count 28 = .ok (.getfield 99, 3) := by decide +kernel
theorem d_Mo_count_31 : decode c_Mo_count 31 = .ok (.iload 4, 2) := by decide +kernel
theorem d_Mo_count_33 : decode c_Mo_count 33 = .ok (.iaload, 1) := by decide +kernel
theorem d_Mo_count_34 : decode c_Mo_count 34 = .ok (.iastore, 1) := by decide +kernel
theorem d_Mo_count_35 : decode c_Mo_count 35 = .ok (.aload_n 0, 1) := by decide +kernel
theorem d_Mo_count_36 : decode c_Mo_count 36 = .ok (.getfield 87, 3) := by decide +kernel
theorem d_Mo_count_39 : decode c_Mo_count 39 = .ok (.aload_n 0, 1) := by decide +kernel
theorem d_Mo_count_40 : decode c_Mo_count 40 = .ok (.getfield 149, 3) := by decide +kernel
theorem d_Mo_count_43 : decode c_Mo_count 43 = .ok (.aload_n 0, 1) := by decide +kernel
theorem d_Mo_count_44 : decode c_Mo_count 44 = .ok (.getfield 102, 3) := by decide +kernel
theorem d_Mo_count_47 : decode c_Mo_count 47 = .ok (.iload 4, 2) := by decide +kernel
theorem d_Mo_count_49 : decode c_Mo_count 49 = .ok (.iaload, 1) := by decide +kernel
theorem d_Mo_count_50 : decode c_Mo_count 50 = .ok (.iastore, 1) := by decide +kernel
theorem d_Mo_count_51 : decode c_Mo_count 51 = .ok (.aload_n 0, 1) := by decide +kernel
theorem d_Mo_count_52 : decode c_Mo_count 52 = .ok (.dup, 1) := by decide +kernel
theorem d_Mo_count_53 : decode c_Mo_count 53 = .ok (.getfield 149, 3) := by decide +kernel
theorem d_Mo_count_56 : decode c_Mo_count 56 = .ok (.iconst 1, 1) := by decide +kernel
theorem d_Mo_count_57 : decode c_Mo_count 57 = .ok (.iadd, 1) := by decide +kernel
theorem d_Mo_count_58 : decode c_Mo_count 58 = .ok (.putfield 149, 3) := by decide +kernel
theorem d_Mo_count_61 : decode c_Mo_count 61 = .ok (.iinc 4 1, 3) := by decide +kernel
theorem d_Mo_count_64 : decode c_Mo_count 64 = .ok (.goto (-54), 3) := by decide +kernel
theorem d_Mo_count_67 : decode c_Mo_count 67 = .ok (.iload_n 3, 1) := by decide +kernel
theorem d_Mo_count_68 : decode c_Mo_count 68 = .ok (.ireturn, 1) := by decide +kernel
set_option maxHeartbeats 4000000 in
set_option maxRecDepth 100000 in
theorem sn_Mo_count_10_bd {l : Launch} {Γ : gk_G} {p : Program} {e : Env} {s : State} {m : MethodId} {args : Array Value} {below : List Frame} {meth : Method} {c : Code} (B : gk_B p s m args meth c gk_Y Γ c_Mo_count 5 "StageDispatcherModel") (hr : meth.sig.returnType = (some .int)) {ρ : Int32 × gk_M} {k10 : Option Nat → Int32 → Int32 → gk_M → Option (Int32 × gk_M)} (H10 : ∀ (a0 : Option Nat) (x3 : Int32) (x4 : Int32) (M : gk_M), k10 a0 x3 x4 M = some ρ → Gk p l e rm_Mo_count s m args below meth c gk_Y Γ 5 (MQ below (gk_Q gk_Y Γ (some (.int ρ.1)) ρ.2) args s rm_Mo_count.cells rm_Mo_count.slots (fun q => Γ.2.2 ≤ q)) 0 0 M 10 [some (va_rf a0), none, none, some (.int x3), some (.int x4)] []) {a0 : Option Nat} {x3 : Int32} {x4 : Int32} {M : gk_M} (h : fn_Mo_count_10_bd k10 a0 x3 x4 M = some ρ) : Gk p l e rm_Mo_count s m args below meth c gk_Y Γ 5 (MQ below (gk_Q gk_Y Γ (some (.int ρ.1)) ρ.2) args s rm_Mo_count.cells rm_Mo_count.slots (fun q => Γ.2.2 ≤ q)) 0 0 M 10 [some (va_rf a0), none, none, some (.int x3), some (.int x4)] [] := by
  unfold fn_Mo_count_10_bd at h
  refine Gk_iload (x := x4) B d_Mo_count_10 rfl ?_
  refine Gk_aload_n (i := 0) (r := a0) B d_Mo_count_12 rfl rfl ?_
  obtain ⟨v13, h13, h⟩ := gk_bind h
  refine Gk_getI (j := 50) B d_Mo_count_13 in_Mo cl_Mo (by decide) tw_805 rfl h13 ?_
  refine Gk_icmp_ge (tgt := 67) B d_Mo_count_16 rfl (fun c16 => ?_) (fun c16 => ?_)
  · rw [if_pos c16] at h
    refine Gk_iload_n (i := 3) (x := x3) B d_Mo_count_67 rfl rfl ?_
    cases h
    exact Gk_iret B hr d_Mo_count_68 rfl (by decide) (by decide) rfl
  rw [if_neg c16] at h
  refine Gk_aload_n (i := 0) (r := a0) B d_Mo_count_19 rfl rfl ?_
  obtain ⟨v20, h20, h⟩ := gk_bind h
  refine Gk_getR (j := 43) B d_Mo_count_20 in_Mo cl_Mo (by decide) tw_798 rfl h20 ?_
  refine Gk_aload_n (i := 0) (r := a0) B d_Mo_count_23 rfl rfl ?_
  obtain ⟨v24, h24, h⟩ := gk_bind h
  refine Gk_getI (j := 42) B d_Mo_count_24 in_Mo cl_Mo (by decide) tw_797 rfl h24 ?_
  refine Gk_aload_n (i := 0) (r := a0) B d_Mo_count_27 rfl rfl ?_
  obtain ⟨v28, h28, h⟩ := gk_bind h
  refine Gk_getR (j := 51) B d_Mo_count_28 in_Mo cl_Mo (by decide) tw_806 rfl h28 ?_
  refine Gk_iload (x := x4) B d_Mo_count_31 rfl ?_
  obtain ⟨v33, h33, h⟩ := gk_bind h
  refine Gk_iaload B d_Mo_count_33 ty_0 h33 ?_
  obtain ⟨M34, h34, h⟩ := gk_bind h
  refine Gk_iastore B d_Mo_count_34 ty_0 h34 ?_
  refine Gk_aload_n (i := 0) (r := a0) B d_Mo_count_35 rfl rfl ?_
  obtain ⟨v36, h36, h⟩ := gk_bind h
  refine Gk_getR (j := 44) B d_Mo_count_36 in_Mo cl_Mo (by decide) tw_799 rfl h36 ?_
  refine Gk_aload_n (i := 0) (r := a0) B d_Mo_count_39 rfl rfl ?_
  obtain ⟨v40, h40, h⟩ := gk_bind h
  refine Gk_getI (j := 42) B d_Mo_count_40 in_Mo cl_Mo (by decide) tw_797 rfl h40 ?_
  refine Gk_aload_n (i := 0) (r := a0) B d_Mo_count_43 rfl rfl ?_
  obtain ⟨v44, h44, h⟩ := gk_bind h
  refine Gk_getR (j := 52) B d_Mo_count_44 in_Mo cl_Mo (by decide) tw_807 rfl h44 ?_
  refine Gk_iload (x := x4) B d_Mo_count_47 rfl ?_
  obtain ⟨v49, h49, h⟩ := gk_bind h
  refine Gk_iaload B d_Mo_count_49 ty_0 h49 ?_
  obtain ⟨M50, h50, h⟩ := gk_bind h
  refine Gk_iastore B d_Mo_count_50 ty_0 h50 ?_
  refine Gk_aload_n (i := 0) (r := a0) B d_Mo_count_51 rfl rfl ?_
  refine Gk_dup B d_Mo_count_52 (gk_rc _) ?_
  obtain ⟨v53, h53, h⟩ := gk_bind h
  refine Gk_getI (j := 42) B d_Mo_count_53 in_Mo cl_Mo (by decide) tw_797 rfl h53 ?_
  refine Gk_iconst (v := 1) B d_Mo_count_56 (by decide) ?_
  refine Gk_iadd B d_Mo_count_57 ?_
  obtain ⟨M58, h58, h⟩ := gk_bind h
  refine Gk_put (j := 42) (ty := .int) B d_Mo_count_58 in_Mo t_Mo t_Mo_ok n_Mo cl_Mo (by decide) tw_797 rfl rfl rfl rfl rfl h58 ?_
  refine Gk_iinc (x := x4) (v := (x4 + 1)) (L' := [some (va_rf a0), none, none, some (.int x3), some (.int (x4 + 1))]) B d_Mo_count_61 rfl (congrArg (fun z => x4 + z) (by decide : Int32.ofInt 1 = 1)) (by decide) (gk_c1_i rfl) rfl ?_
  refine Gk_goto (tgt := 10) B d_Mo_count_64 rfl ?_
  exact H10 a0 x3 (x4 + 1) M58 h
set_option maxHeartbeats 4000000 in
set_option maxRecDepth 100000 in
theorem sn_Mo_count_10 {l : Launch} {Γ : gk_G} {p : Program} {e : Env} {s : State} {m : MethodId} {args : Array Value} {below : List Frame} {meth : Method} {c : Code} (B : gk_B p s m args meth c gk_Y Γ c_Mo_count 5 "StageDispatcherModel") (hr : meth.sig.returnType = (some .int)) {ρ : Int32 × gk_M}   {a0 : Option Nat} {x3 : Int32} {x4 : Int32} {M : gk_M} (h : fn_Mo_count_10  a0 x3 x4 M = some ρ) : Gk p l e rm_Mo_count s m args below meth c gk_Y Γ 5 (MQ below (gk_Q gk_Y Γ (some (.int ρ.1)) ρ.2) args s rm_Mo_count.cells rm_Mo_count.slots (fun q => Γ.2.2 ≤ q)) 0 0 M 10 [some (va_rf a0), none, none, some (.int x3), some (.int x4)] [] := by
  unfold fn_Mo_count_10 at h
  exact gk_loop_sound (α := Option Nat × Int32 × Int32 × gk_M) (P := fun a => Gk p l e rm_Mo_count s m args below meth c gk_Y Γ 5 (MQ below (gk_Q gk_Y Γ (some (.int ρ.1)) ρ.2) args s rm_Mo_count.cells rm_Mo_count.slots (fun q => Γ.2.2 ≤ q)) 0 0 a.2.2.2 10 [some (va_rf a.1), none, none, some (.int a.2.1), some (.int a.2.2.1)] []) (fun kk a Hk hb => sn_Mo_count_10_bd B hr (fun a0 x3 x4 M hh => Hk (a0, x3, x4, M) hh) hb) _ _ h
set_option maxHeartbeats 4000000 in
set_option maxRecDepth 100000 in
theorem sn_Mo_count_0 {l : Launch} {Γ : gk_G} {p : Program} {e : Env} {s : State} {m : MethodId} {args : Array Value} {below : List Frame} {meth : Method} {c : Code} (B : gk_B p s m args meth c gk_Y Γ c_Mo_count 5 "StageDispatcherModel") (hr : meth.sig.returnType = (some .int)) {ρ : Int32 × gk_M}   {a0 : Option Nat} {x1 : Int32} {x2 : Int32} {M : gk_M} (h : fn_Mo_count  a0 x1 x2 M = some ρ) : Gk p l e rm_Mo_count s m args below meth c gk_Y Γ 5 (MQ below (gk_Q gk_Y Γ (some (.int ρ.1)) ρ.2) args s rm_Mo_count.cells rm_Mo_count.slots (fun q => Γ.2.2 ≤ q)) 0 0 M 0 [some (va_rf a0), some (.int x1), some (.int x2), none, none] [] := by
  unfold fn_Mo_count at h
  refine Gk_aload_n (i := 0) (r := a0) B d_Mo_count_0 rfl rfl ?_
  refine Gk_iload_n (i := 1) (x := x1) B d_Mo_count_1 rfl rfl ?_
  refine Gk_iload_n (i := 2) (x := x2) B d_Mo_count_2 rfl rfl ?_
  obtain ⟨o3, g3, h⟩ := gk_bind h
  obtain ⟨w3, h3, h⟩ := gk_bind h
  refine Gk_callV (As := [.int x1, .int x2]) (rest := []) (st1 := [.int w3.1]) (k1 := 0) (n1 := 0) B gk_hG d_Mo_count_3 (sn_Mo_match h3) g3 cl_Mo tw_1005 tw_1002 tw_1004 tw_21 tw_48 nm_Mo_match rfl (by decide) ⟨by decide, by decide⟩ ⟨by decide, by decide⟩ rfl rfl rfl rfl ?_
  refine Gk_istore_n (i := 3) (L' := [some (va_rf a0), some (.int x1), some (.int x2), some (.int w3.1), none]) B d_Mo_count_6 rfl (by decide) (gk_c1_i rfl) rfl ?_
  refine Gk_iconst (v := 0) B d_Mo_count_7 (by decide) ?_
  refine Gk_istore (L' := [some (va_rf a0), some (.int x1), some (.int x2), some (.int w3.1), some (.int 0)]) B d_Mo_count_8 (by decide) (gk_c1_i rfl) rfl ?_
  refine Gk_weak [true, false, false, true, true] (L' := [some (va_rf a0), none, none, some (.int w3.1), some (.int 0)]) rfl ?_
  exact sn_Mo_count_10 B hr h
theorem sn_Mo_count {l : Launch} {Γ : gk_G} {a0 : Option Nat} {x1 : Int32} {x2 : Int32} {M : gk_M} {ρ : Int32 × gk_M} (h : fn_Mo_count a0 x1 x2 M = some ρ) : gk_Met l gk_Y Γ y_Mo_count (.code y_Mo_count c_Mo_count 5 (some .int) :: gk_Y.2.2.2) rm_Mo_count [va_rf a0, .int x1, .int x2] M (some (.int ρ.1)) ρ.2 :=
  gk_start (by decide) (by simp [lg_sl, gk_rc, gk_ic, gk_jc]) [some (va_rf a0), some (.int x1), some (.int x2), none, none] (by simp [gk_as, lv_args, gk_rc, gk_ic, gk_jc]) (fun p e s m args below meth c B hr hin => sn_Mo_count_0 B hr h)
theorem d_Mo_stageOne_0 : decode c_Mo_stageOne 0 = .ok (.iconst (-1), 1) := by decide +kernel
theorem d_Mo_stageOne_1 : decode c_Mo_stageOne 1 = .ok (.istore_n 1, 1) := by decide +kernel
theorem d_Mo_stageOne_2 : decode c_Mo_stageOne 2 = .ok (.iconst 0, 1) := by decide +kernel
theorem d_Mo_stageOne_3 : decode c_Mo_stageOne 3 = .ok (.istore_n 2, 1) := by decide +kernel
theorem d_Mo_stageOne_4 : decode c_Mo_stageOne 4 = .ok (.iload_n 2, 1) := by decide +kernel
theorem d_Mo_stageOne_5 : decode c_Mo_stageOne 5 = .ok (.aload_n 0, 1) := by decide +kernel
theorem d_Mo_stageOne_6 : decode c_Mo_stageOne 6 = .ok (.getfield 156, 3) := by decide +kernel
theorem d_Mo_stageOne_9 : decode c_Mo_stageOne 9 = .ok (.if_icmp .ge 67, 3) := by decide +kernel
theorem d_Mo_stageOne_12 : decode c_Mo_stageOne 12 = .ok (.aload_n 0, 1) := by decide +kernel
theorem d_Mo_stageOne_13 : decode c_Mo_stageOne 13 = .ok (.iload_n 2, 1) := by decide +kernel
theorem d_Mo_stageOne_14 : decode c_Mo_stageOne 14 = .ok (.iconst 0, 1) := by decide +kernel
theorem d_Mo_stageOne_15 : decode c_Mo_stageOne 15 = .ok (.invokevirtual 146, 3) := by decide +kernel
theorem d_Mo_stageOne_18 : decode c_Mo_stageOne 18 = .ok (.istore_n 3, 1) := by decide +kernel
theorem d_Mo_stageOne_19 : decode c_Mo_stageOne 19 = .ok (.iload_n 3, 1) := by decide +kernel
theorem d_Mo_stageOne_20 : decode c_Mo_stageOne 20 = .ok (.ifCond .lt 23, 3) := by decide +kernel
theorem d_Mo_stageOne_23 : decode c_Mo_stageOne 23 = .ok (.aload_n 0, 1) := by decide +kernel
theorem d_Mo_stageOne_24 : decode c_Mo_stageOne 24 = .ok (.iload_n 3, 1) := by decide +kernel
theorem d_Mo_stageOne_25 : decode c_Mo_stageOne 25 = .ok (.invokevirtual 187, 3) := by decide +kernel
theorem d_Mo_stageOne_28 : decode c_Mo_stageOne 28 = .ok (.ifCond .ne 11, 3) := by decide +kernel
theorem d_Mo_stageOne_31 : decode c_Mo_stageOne 31 = .ok (.aload_n 0, 1) := by decide +kernel
theorem d_Mo_stageOne_32 : decode c_Mo_stageOne 32 = .ok (.iload_n 2, 1) := by decide +kernel
theorem d_Mo_stageOne_33 : decode c_Mo_stageOne 33 = .ok (.invokevirtual 190, 3) := by decide +kernel
theorem d_Mo_stageOne_36 : decode c_Mo_stageOne 36 = .ok (.ifCond .eq 7, 3) := by decide +kernel
theorem d_Mo_stageOne_39 : decode c_Mo_stageOne 39 = .ok (.iconst 1, 1) := by decide +kernel
theorem d_Mo_stageOne_40 : decode c_Mo_stageOne 40 = .ok (.goto 4, 3) := by decide +kernel
theorem d_Mo_stageOne_43 : decode c_Mo_stageOne 43 = .ok (.iconst 0, 1) := by decide +kernel
theorem d_Mo_stageOne_44 : decode c_Mo_stageOne 44 = .ok (.istore 4, 2) := by decide +kernel
theorem d_Mo_stageOne_46 : decode c_Mo_stageOne 46 = .ok (.iload 4, 2) := by decide +kernel
theorem d_Mo_stageOne_48 : decode c_Mo_stageOne 48 = .ok (.ifCond .eq 22, 3) := by decide +kernel
theorem d_Mo_stageOne_51 : decode c_Mo_stageOne 51 = .ok (.iload_n 1, 1) := by decide +kernel
theorem d_Mo_stageOne_52 : decode c_Mo_stageOne 52 = .ok (.ifCond .lt 16, 3) := by decide +kernel
theorem d_Mo_stageOne_55 : decode c_Mo_stageOne 55 = .ok (.aload_n 0, 1) := by decide +kernel
theorem d_Mo_stageOne_56 : decode c_Mo_stageOne 56 = .ok (.iload_n 2, 1) := by decide +kernel
theorem d_Mo_stageOne_57 : decode c_Mo_stageOne 57 = .ok (.invokevirtual 193, 3) := by decide +kernel
theorem d_Mo_stageOne_60 : decode c_Mo_stageOne 60 = .ok (.aload_n 0, 1) := by decide +kernel
theorem d_Mo_stageOne_61 : decode c_Mo_stageOne 61 = .ok (.iload_n 1, 1) := by decide +kernel
theorem d_Mo_stageOne_62 : decode c_Mo_stageOne 62 = .ok (.invokevirtual 193, 3) := by decide +kernel
theorem d_Mo_stageOne_65 : decode c_Mo_stageOne 65 = .ok (.if_icmp .le 5, 3) := by decide +kernel
theorem d_Mo_stageOne_68 : decode c_Mo_stageOne 68 = .ok (.iload_n 2, 1) := by decide +kernel
theorem d_Mo_stageOne_69 : decode c_Mo_stageOne 69 = .ok (.istore_n 1, 1) := by decide +kernel
theorem d_Mo_stageOne_70 : decode c_Mo_stageOne 70 = .ok (.iinc 2 1, 3) := by decide +kernel
theorem d_Mo_stageOne_73 : decode c_Mo_stageOne 73 = .ok (.goto (-69), 3) := by decide +kernel
theorem d_Mo_stageOne_76 : decode c_Mo_stageOne 76 = .ok (.iload_n 1, 1) := by decide +kernel
theorem d_Mo_stageOne_77 : decode c_Mo_stageOne 77 = .ok (.ifCond .ge 6, 3) := by decide +kernel
theorem d_Mo_stageOne_80 : decode c_Mo_stageOne 80 = .ok (.bipush 8, 2) := by decide +kernel
theorem d_Mo_stageOne_82 : decode c_Mo_stageOne 82 = .ok (.ireturn, 1) := by decide +kernel
theorem d_Mo_stageOne_83 : decode c_Mo_stageOne 83 = .ok (.iconst 0, 1) := by decide +kernel
theorem d_Mo_stageOne_84 : decode c_Mo_stageOne 84 = .ok (.istore_n 2, 1) := by decide +kernel
theorem d_Mo_stageOne_85 : decode c_Mo_stageOne 85 = .ok (.iload_n 2, 1) := by decide +kernel
theorem d_Mo_stageOne_86 : decode c_Mo_stageOne 86 = .ok (.bipush 6, 2) := by decide +kernel
theorem d_Mo_stageOne_88 : decode c_Mo_stageOne 88 = .ok (.if_icmp .ge 46, 3) := by decide +kernel
theorem d_Mo_stageOne_91 : decode c_Mo_stageOne 91 = .ok (.aload_n 0, 1) := by decide +kernel
theorem d_Mo_stageOne_92 : decode c_Mo_stageOne 92 = .ok (.getfield 105, 3) := by decide +kernel
theorem d_Mo_stageOne_95 : decode c_Mo_stageOne 95 = .ok (.iload_n 2, 1) := by decide +kernel
theorem d_Mo_stageOne_96 : decode c_Mo_stageOne 96 = .ok (.iload_n 2, 1) := by decide +kernel
theorem d_Mo_stageOne_97 : decode c_Mo_stageOne 97 = .ok (.aload_n 0, 1) := by decide +kernel
theorem d_Mo_stageOne_98 : decode c_Mo_stageOne 98 = .ok (.getfield 156, 3) := by decide +kernel
theorem d_Mo_stageOne_101 : decode c_Mo_stageOne 101 = .ok (.if_icmp .ge 25, 3) := by decide +kernel
theorem d_Mo_stageOne_104 : decode c_Mo_stageOne 104 = .ok (.aload_n 0, 1) := by decide +kernel
theorem d_Mo_stageOne_105 : decode c_Mo_stageOne 105 = .ok (.getfield 16, 3) := by decide +kernel
theorem d_Mo_stageOne_108 : decode c_Mo_stageOne 108 = .ok (.iload_n 2, 1) := by decide +kernel
theorem d_Mo_stageOne_109 : decode c_Mo_stageOne 109 = .ok (.iaload, 1) := by decide +kernel
theorem d_Mo_stageOne_110 : decode c_Mo_stageOne 110 = .ok (.ifCond .le 16, 3) := by decide +kernel
theorem d_Mo_stageOne_113 : decode c_Mo_stageOne 113 = .ok (.aload_n 0, 1) := by decide +kernel
theorem d_Mo_stageOne_114 : decode c_Mo_stageOne 114 = .ok (.iload_n 2, 1) := by decide +kernel
theorem d_Mo_stageOne_115 : decode c_Mo_stageOne 115 = .ok (.iload_n 1, 1) := by decide +kernel
theorem d_Mo_stageOne_116 : decode c_Mo_stageOne 116 = .ok (.invokevirtual 196, 3) := by decide +kernel
theorem d_Mo_stageOne_119 : decode c_Mo_stageOne 119 = .ok (.ifCond .eq 7, 3) := by decide +kernel
theorem d_Mo_stageOne_122 : decode c_Mo_stageOne 122 = .ok (.iconst 1, 1) := by decide +kernel
theorem d_Mo_stageOne_123 : decode c_Mo_stageOne 123 = .ok (.goto 4, 3) := by decide +kernel
theorem d_Mo_stageOne_126 : decode c_Mo_stageOne 126 = .ok (.iconst 0, 1) := by decide +kernel
theorem d_Mo_stageOne_127 : decode c_Mo_stageOne 127 = .ok (.bastore, 1) := by decide +kernel
theorem d_Mo_stageOne_128 : decode c_Mo_stageOne 128 = .ok (.iinc 2 1, 3) := by decide +kernel
theorem d_Mo_stageOne_131 : decode c_Mo_stageOne 131 = .ok (.goto (-46), 3) := by decide +kernel
theorem d_Mo_stageOne_134 : decode c_Mo_stageOne 134 = .ok (.aload_n 0, 1) := by decide +kernel
theorem d_Mo_stageOne_135 : decode c_Mo_stageOne 135 = .ok (.aload_n 0, 1) := by decide +kernel
theorem d_Mo_stageOne_136 : decode c_Mo_stageOne 136 = .ok (.iload_n 1, 1) := by decide +kernel
theorem d_Mo_stageOne_137 : decode c_Mo_stageOne 137 = .ok (.iconst 0, 1) := by decide +kernel
theorem d_Mo_stageOne_138 : decode c_Mo_stageOne 138 = .ok (.invokevirtual 199, 3) := by decide +kernel
theorem d_Mo_stageOne_141 : decode c_Mo_stageOne 141 = .ok (.putfield 202, 3) := by decide +kernel
theorem d_Mo_stageOne_144 : decode c_Mo_stageOne 144 = .ok (.iconst 0, 1) := by decide +kernel
theorem d_Mo_stageOne_145 : decode c_Mo_stageOne 145 = .ok (.ireturn, 1) := by decide +kernel
set_option maxHeartbeats 4000000 in
set_option maxRecDepth 100000 in
theorem sn_Mo_stageOne_70 {l : Launch} {Γ : gk_G} {p : Program} {e : Env} {s : State} {m : MethodId} {args : Array Value} {below : List Frame} {meth : Method} {c : Code} (B : gk_B p s m args meth c gk_Y Γ c_Mo_stageOne 5 "StageDispatcherModel") (hr : meth.sig.returnType = (some .int)) {ρ : Int32 × gk_M} {k4 : Option Nat → Int32 → Int32 → gk_M → Option (Int32 × gk_M)} (H4 : ∀ (a0 : Option Nat) (x1 : Int32) (x2 : Int32) (M : gk_M), k4 a0 x1 x2 M = some ρ → Gk p l e rm_Mo_stageOne s m args below meth c gk_Y Γ 5 (MQ below (gk_Q gk_Y Γ (some (.int ρ.1)) ρ.2) args s rm_Mo_stageOne.cells rm_Mo_stageOne.slots (fun q => Γ.2.2 ≤ q)) 0 0 M 4 [some (va_rf a0), some (.int x1), some (.int x2), none, none] []) {a0 : Option Nat} {x1 : Int32} {x2 : Int32} {M : gk_M} (h : fn_Mo_stageOne_70 k4 a0 x1 x2 M = some ρ) : Gk p l e rm_Mo_stageOne s m args below meth c gk_Y Γ 5 (MQ below (gk_Q gk_Y Γ (some (.int ρ.1)) ρ.2) args s rm_Mo_stageOne.cells rm_Mo_stageOne.slots (fun q => Γ.2.2 ≤ q)) 0 0 M 70 [some (va_rf a0), some (.int x1), some (.int x2), none, none] [] := by
  unfold fn_Mo_stageOne_70 at h
  refine Gk_iinc (x := x2) (v := (x2 + 1)) (L' := [some (va_rf a0), some (.int x1), some (.int (x2 + 1)), none, none]) B d_Mo_stageOne_70 rfl (congrArg (fun z => x2 + z) (by decide : Int32.ofInt 1 = 1)) (by decide) (gk_c1_i rfl) rfl ?_
  refine Gk_goto (tgt := 4) B d_Mo_stageOne_73 rfl ?_
  exact H4 a0 x1 (x2 + 1) M h
set_option maxHeartbeats 4000000 in
set_option maxRecDepth 100000 in
theorem sn_Mo_stageOne_68 {l : Launch} {Γ : gk_G} {p : Program} {e : Env} {s : State} {m : MethodId} {args : Array Value} {below : List Frame} {meth : Method} {c : Code} (B : gk_B p s m args meth c gk_Y Γ c_Mo_stageOne 5 "StageDispatcherModel") (hr : meth.sig.returnType = (some .int)) {ρ : Int32 × gk_M} {k4 : Option Nat → Int32 → Int32 → gk_M → Option (Int32 × gk_M)} (H4 : ∀ (a0 : Option Nat) (x1 : Int32) (x2 : Int32) (M : gk_M), k4 a0 x1 x2 M = some ρ → Gk p l e rm_Mo_stageOne s m args below meth c gk_Y Γ 5 (MQ below (gk_Q gk_Y Γ (some (.int ρ.1)) ρ.2) args s rm_Mo_stageOne.cells rm_Mo_stageOne.slots (fun q => Γ.2.2 ≤ q)) 0 0 M 4 [some (va_rf a0), some (.int x1), some (.int x2), none, none] []) {a0 : Option Nat} {x2 : Int32} {M : gk_M} (h : fn_Mo_stageOne_68 k4 a0 x2 M = some ρ) : Gk p l e rm_Mo_stageOne s m args below meth c gk_Y Γ 5 (MQ below (gk_Q gk_Y Γ (some (.int ρ.1)) ρ.2) args s rm_Mo_stageOne.cells rm_Mo_stageOne.slots (fun q => Γ.2.2 ≤ q)) 0 0 M 68 [some (va_rf a0), none, some (.int x2), none, none] [] := by
  unfold fn_Mo_stageOne_68 at h
  refine Gk_iload_n (i := 2) (x := x2) B d_Mo_stageOne_68 rfl rfl ?_
  refine Gk_istore_n (i := 1) (L' := [some (va_rf a0), some (.int x2), some (.int x2), none, none]) B d_Mo_stageOne_69 rfl (by decide) (gk_c1_r rfl) rfl ?_
  exact sn_Mo_stageOne_70 B hr H4 h
set_option maxHeartbeats 4000000 in
set_option maxRecDepth 100000 in
theorem sn_Mo_stageOne_44 {l : Launch} {Γ : gk_G} {p : Program} {e : Env} {s : State} {m : MethodId} {args : Array Value} {below : List Frame} {meth : Method} {c : Code} (B : gk_B p s m args meth c gk_Y Γ c_Mo_stageOne 5 "StageDispatcherModel") (hr : meth.sig.returnType = (some .int)) {ρ : Int32 × gk_M} {k4 : Option Nat → Int32 → Int32 → gk_M → Option (Int32 × gk_M)} (H4 : ∀ (a0 : Option Nat) (x1 : Int32) (x2 : Int32) (M : gk_M), k4 a0 x1 x2 M = some ρ → Gk p l e rm_Mo_stageOne s m args below meth c gk_Y Γ 5 (MQ below (gk_Q gk_Y Γ (some (.int ρ.1)) ρ.2) args s rm_Mo_stageOne.cells rm_Mo_stageOne.slots (fun q => Γ.2.2 ≤ q)) 0 0 M 4 [some (va_rf a0), some (.int x1), some (.int x2), none, none] []) {a0 : Option Nat} {x1 : Int32} {x2 : Int32} {s0 : Int32} {M : gk_M} (h : fn_Mo_stageOne_44 k4 a0 x1 x2 s0 M = some ρ) : Gk p l e rm_Mo_stageOne s m args below meth c gk_Y Γ 5 (MQ below (gk_Q gk_Y Γ (some (.int ρ.1)) ρ.2) args s rm_Mo_stageOne.cells rm_Mo_stageOne.slots (fun q => Γ.2.2 ≤ q)) 0 0 M 44 [some (va_rf a0), some (.int x1), some (.int x2), none, none] [.int s0] := by
  unfold fn_Mo_stageOne_44 at h
  refine Gk_istore (L' := [some (va_rf a0), some (.int x1), some (.int x2), none, some (.int s0)]) B d_Mo_stageOne_44 (by decide) (gk_c1_n rfl) rfl ?_
  refine Gk_iload (x := s0) B d_Mo_stageOne_46 rfl ?_
  refine Gk_if_eq (tgt := 70) B d_Mo_stageOne_48 rfl (fun c48 => ?_) (fun c48 => ?_)
  · rw [if_pos c48] at h
    refine Gk_weak [true, true, true, false, false] (L' := [some (va_rf a0), some (.int x1), some (.int x2), none, none]) rfl ?_
    exact sn_Mo_stageOne_70 B hr H4 h
  rw [if_neg c48] at h
  refine Gk_iload_n (i := 1) (x := x1) B d_Mo_stageOne_51 rfl rfl ?_
  refine Gk_if_lt (tgt := 68) B d_Mo_stageOne_52 rfl (fun c52 => ?_) (fun c52 => ?_)
  · rw [if_pos c52] at h
    refine Gk_weak [true, false, true, false, false] (L' := [some (va_rf a0), none, some (.int x2), none, none]) rfl ?_
    exact sn_Mo_stageOne_68 B hr H4 h
  rw [if_neg c52] at h
  refine Gk_aload_n (i := 0) (r := a0) B d_Mo_stageOne_55 rfl rfl ?_
  refine Gk_iload_n (i := 2) (x := x2) B d_Mo_stageOne_56 rfl rfl ?_
  obtain ⟨o57, g57, h⟩ := gk_bind h
  obtain ⟨w57, h57, h⟩ := gk_bind h
  refine Gk_callV (As := [.int x2]) (rest := []) (st1 := [.int w57.1]) (k1 := 0) (n1 := 0) B gk_hG d_Mo_stageOne_57 (sn_Mo_weight h57) g57 cl_Mo tw_1028 tw_1025 tw_1027 tw_26 tw_48 nm_Mo_weight rfl (by decide) ⟨by decide, by decide⟩ ⟨by decide, by decide⟩ rfl rfl rfl rfl ?_
  refine Gk_aload_n (i := 0) (r := a0) B d_Mo_stageOne_60 rfl rfl ?_
  refine Gk_iload_n (i := 1) (x := x1) B d_Mo_stageOne_61 rfl rfl ?_
  obtain ⟨o62, g62, h⟩ := gk_bind h
  obtain ⟨w62, h62, h⟩ := gk_bind h
  refine Gk_callV (As := [.int x1]) (rest := [.int w57.1]) (st1 := [.int w62.1, .int w57.1]) (k1 := 0) (n1 := 0) B gk_hG d_Mo_stageOne_62 (sn_Mo_weight h62) g62 cl_Mo tw_1028 tw_1025 tw_1027 tw_26 tw_48 nm_Mo_weight rfl (by simp [gk_rc, gk_ic, gk_jc, rm_Mo_stageOne]) ⟨by decide, by decide⟩ ⟨by decide, by decide⟩ rfl rfl rfl rfl ?_
  refine Gk_icmp_le (tgt := 70) B d_Mo_stageOne_65 rfl (fun c65 => ?_) (fun c65 => ?_)
  · rw [if_pos c65] at h
    refine Gk_weak [true, true, true, false, false] (L' := [some (va_rf a0), some (.int x1), some (.int x2), none, none]) rfl ?_
    exact sn_Mo_stageOne_70 B hr H4 h
  rw [if_neg c65] at h
  refine Gk_weak [true, false, true, false, false] (L' := [some (va_rf a0), none, some (.int x2), none, none]) rfl ?_
  exact sn_Mo_stageOne_68 B hr H4 h
set_option maxHeartbeats 4000000 in
set_option maxRecDepth 100000 in
theorem sn_Mo_stageOne_43 {l : Launch} {Γ : gk_G} {p : Program} {e : Env} {s : State} {m : MethodId} {args : Array Value} {below : List Frame} {meth : Method} {c : Code} (B : gk_B p s m args meth c gk_Y Γ c_Mo_stageOne 5 "StageDispatcherModel") (hr : meth.sig.returnType = (some .int)) {ρ : Int32 × gk_M} {k4 : Option Nat → Int32 → Int32 → gk_M → Option (Int32 × gk_M)} (H4 : ∀ (a0 : Option Nat) (x1 : Int32) (x2 : Int32) (M : gk_M), k4 a0 x1 x2 M = some ρ → Gk p l e rm_Mo_stageOne s m args below meth c gk_Y Γ 5 (MQ below (gk_Q gk_Y Γ (some (.int ρ.1)) ρ.2) args s rm_Mo_stageOne.cells rm_Mo_stageOne.slots (fun q => Γ.2.2 ≤ q)) 0 0 M 4 [some (va_rf a0), some (.int x1), some (.int x2), none, none] []) {a0 : Option Nat} {x1 : Int32} {x2 : Int32} {M : gk_M} (h : fn_Mo_stageOne_43 k4 a0 x1 x2 M = some ρ) : Gk p l e rm_Mo_stageOne s m args below meth c gk_Y Γ 5 (MQ below (gk_Q gk_Y Γ (some (.int ρ.1)) ρ.2) args s rm_Mo_stageOne.cells rm_Mo_stageOne.slots (fun q => Γ.2.2 ≤ q)) 0 0 M 43 [some (va_rf a0), some (.int x1), some (.int x2), none, none] [] := by
  unfold fn_Mo_stageOne_43 at h
  refine Gk_iconst (v := 0) B d_Mo_stageOne_43 (by decide) ?_
  exact sn_Mo_stageOne_44 B hr H4 h
set_option maxHeartbeats 4000000 in
set_option maxRecDepth 100000 in
theorem sn_Mo_stageOne_39 {l : Launch} {Γ : gk_G} {p : Program} {e : Env} {s : State} {m : MethodId} {args : Array Value} {below : List Frame} {meth : Method} {c : Code} (B : gk_B p s m args meth c gk_Y Γ c_Mo_stageOne 5 "StageDispatcherModel") (hr : meth.sig.returnType = (some .int)) {ρ : Int32 × gk_M} {k4 : Option Nat → Int32 → Int32 → gk_M → Option (Int32 × gk_M)} (H4 : ∀ (a0 : Option Nat) (x1 : Int32) (x2 : Int32) (M : gk_M), k4 a0 x1 x2 M = some ρ → Gk p l e rm_Mo_stageOne s m args below meth c gk_Y Γ 5 (MQ below (gk_Q gk_Y Γ (some (.int ρ.1)) ρ.2) args s rm_Mo_stageOne.cells rm_Mo_stageOne.slots (fun q => Γ.2.2 ≤ q)) 0 0 M 4 [some (va_rf a0), some (.int x1), some (.int x2), none, none] []) {a0 : Option Nat} {x1 : Int32} {x2 : Int32} {M : gk_M} (h : fn_Mo_stageOne_39 k4 a0 x1 x2 M = some ρ) : Gk p l e rm_Mo_stageOne s m args below meth c gk_Y Γ 5 (MQ below (gk_Q gk_Y Γ (some (.int ρ.1)) ρ.2) args s rm_Mo_stageOne.cells rm_Mo_stageOne.slots (fun q => Γ.2.2 ≤ q)) 0 0 M 39 [some (va_rf a0), some (.int x1), some (.int x2), none, none] [] := by
  unfold fn_Mo_stageOne_39 at h
  refine Gk_iconst (v := 1) B d_Mo_stageOne_39 (by decide) ?_
  refine Gk_goto (tgt := 44) B d_Mo_stageOne_40 rfl ?_
  exact sn_Mo_stageOne_44 B hr H4 h
set_option maxHeartbeats 4000000 in
set_option maxRecDepth 100000 in
theorem sn_Mo_stageOne_127 {l : Launch} {Γ : gk_G} {p : Program} {e : Env} {s : State} {m : MethodId} {args : Array Value} {below : List Frame} {meth : Method} {c : Code} (B : gk_B p s m args meth c gk_Y Γ c_Mo_stageOne 5 "StageDispatcherModel") (hr : meth.sig.returnType = (some .int)) {ρ : Int32 × gk_M} {k85 : Option Nat → Int32 → Int32 → gk_M → Option (Int32 × gk_M)} (H85 : ∀ (a0 : Option Nat) (x1 : Int32) (x2 : Int32) (M : gk_M), k85 a0 x1 x2 M = some ρ → Gk p l e rm_Mo_stageOne s m args below meth c gk_Y Γ 5 (MQ below (gk_Q gk_Y Γ (some (.int ρ.1)) ρ.2) args s rm_Mo_stageOne.cells rm_Mo_stageOne.slots (fun q => Γ.2.2 ≤ q)) 0 0 M 85 [some (va_rf a0), some (.int x1), some (.int x2), none, none] []) {a0 : Option Nat} {x1 : Int32} {x2 : Int32} {s0 : Option Nat} {s1 : Int32} {s2 : Int32} {M : gk_M} (h : fn_Mo_stageOne_127 k85 a0 x1 x2 s0 s1 s2 M = some ρ) : Gk p l e rm_Mo_stageOne s m args below meth c gk_Y Γ 5 (MQ below (gk_Q gk_Y Γ (some (.int ρ.1)) ρ.2) args s rm_Mo_stageOne.cells rm_Mo_stageOne.slots (fun q => Γ.2.2 ≤ q)) 0 0 M 127 [some (va_rf a0), some (.int x1), some (.int x2), none, none] [.int s2, .int s1, va_rf s0] := by
  unfold fn_Mo_stageOne_127 at h
  obtain ⟨M127, h127, h⟩ := gk_bind h
  refine Gk_zastore B d_Mo_stageOne_127 ty_2 h127 ?_
  refine Gk_iinc (x := x2) (v := (x2 + 1)) (L' := [some (va_rf a0), some (.int x1), some (.int (x2 + 1)), none, none]) B d_Mo_stageOne_128 rfl (congrArg (fun z => x2 + z) (by decide : Int32.ofInt 1 = 1)) (by decide) (gk_c1_i rfl) rfl ?_
  refine Gk_goto (tgt := 85) B d_Mo_stageOne_131 rfl ?_
  exact H85 a0 x1 (x2 + 1) M127 h
set_option maxHeartbeats 4000000 in
set_option maxRecDepth 100000 in
theorem sn_Mo_stageOne_126 {l : Launch} {Γ : gk_G} {p : Program} {e : Env} {s : State} {m : MethodId} {args : Array Value} {below : List Frame} {meth : Method} {c : Code} (B : gk_B p s m args meth c gk_Y Γ c_Mo_stageOne 5 "StageDispatcherModel") (hr : meth.sig.returnType = (some .int)) {ρ : Int32 × gk_M} {k85 : Option Nat → Int32 → Int32 → gk_M → Option (Int32 × gk_M)} (H85 : ∀ (a0 : Option Nat) (x1 : Int32) (x2 : Int32) (M : gk_M), k85 a0 x1 x2 M = some ρ → Gk p l e rm_Mo_stageOne s m args below meth c gk_Y Γ 5 (MQ below (gk_Q gk_Y Γ (some (.int ρ.1)) ρ.2) args s rm_Mo_stageOne.cells rm_Mo_stageOne.slots (fun q => Γ.2.2 ≤ q)) 0 0 M 85 [some (va_rf a0), some (.int x1), some (.int x2), none, none] []) {a0 : Option Nat} {x1 : Int32} {x2 : Int32} {s0 : Option Nat} {s1 : Int32} {M : gk_M} (h : fn_Mo_stageOne_126 k85 a0 x1 x2 s0 s1 M = some ρ) : Gk p l e rm_Mo_stageOne s m args below meth c gk_Y Γ 5 (MQ below (gk_Q gk_Y Γ (some (.int ρ.1)) ρ.2) args s rm_Mo_stageOne.cells rm_Mo_stageOne.slots (fun q => Γ.2.2 ≤ q)) 0 0 M 126 [some (va_rf a0), some (.int x1), some (.int x2), none, none] [.int s1, va_rf s0] := by
  unfold fn_Mo_stageOne_126 at h
  refine Gk_iconst (v := 0) B d_Mo_stageOne_126 (by decide) ?_
  exact sn_Mo_stageOne_127 B hr H85 h
set_option maxHeartbeats 4000000 in
set_option maxRecDepth 100000 in
theorem sn_Mo_stageOne_85_bd {l : Launch} {Γ : gk_G} {p : Program} {e : Env} {s : State} {m : MethodId} {args : Array Value} {below : List Frame} {meth : Method} {c : Code} (B : gk_B p s m args meth c gk_Y Γ c_Mo_stageOne 5 "StageDispatcherModel") (hr : meth.sig.returnType = (some .int)) {ρ : Int32 × gk_M} {k85 : Option Nat → Int32 → Int32 → gk_M → Option (Int32 × gk_M)} (H85 : ∀ (a0 : Option Nat) (x1 : Int32) (x2 : Int32) (M : gk_M), k85 a0 x1 x2 M = some ρ → Gk p l e rm_Mo_stageOne s m args below meth c gk_Y Γ 5 (MQ below (gk_Q gk_Y Γ (some (.int ρ.1)) ρ.2) args s rm_Mo_stageOne.cells rm_Mo_stageOne.slots (fun q => Γ.2.2 ≤ q)) 0 0 M 85 [some (va_rf a0), some (.int x1), some (.int x2), none, none] []) {a0 : Option Nat} {x1 : Int32} {x2 : Int32} {M : gk_M} (h : fn_Mo_stageOne_85_bd k85 a0 x1 x2 M = some ρ) : Gk p l e rm_Mo_stageOne s m args below meth c gk_Y Γ 5 (MQ below (gk_Q gk_Y Γ (some (.int ρ.1)) ρ.2) args s rm_Mo_stageOne.cells rm_Mo_stageOne.slots (fun q => Γ.2.2 ≤ q)) 0 0 M 85 [some (va_rf a0), some (.int x1), some (.int x2), none, none] [] := by
  unfold fn_Mo_stageOne_85_bd at h
  refine Gk_iload_n (i := 2) (x := x2) B d_Mo_stageOne_85 rfl rfl ?_
  refine Gk_bipush (v := 6) B d_Mo_stageOne_86 (by decide) ?_
  refine Gk_icmp_ge (tgt := 134) B d_Mo_stageOne_88 rfl (fun c88 => ?_) (fun c88 => ?_)
  · rw [if_pos c88] at h
    refine Gk_aload_n (i := 0) (r := a0) B d_Mo_stageOne_134 rfl rfl ?_
    refine Gk_aload_n (i := 0) (r := a0) B d_Mo_stageOne_135 rfl rfl ?_
    refine Gk_iload_n (i := 1) (x := x1) B d_Mo_stageOne_136 rfl rfl ?_
    refine Gk_iconst (v := 0) B d_Mo_stageOne_137 (by decide) ?_
    obtain ⟨o138, g138, h⟩ := gk_bind h
    obtain ⟨w138, h138, h⟩ := gk_bind h
    refine Gk_callV (As := [.int x1, .int 0]) (rest := [va_rf a0]) (st1 := [.int w138.1, va_rf a0]) (k1 := 0) (n1 := 0) B gk_hG d_Mo_stageOne_138 (sn_Mo_count h138) g138 cl_Mo tw_1036 tw_1033 tw_1035 tw_28 tw_48 nm_Mo_count rfl (by simp [gk_rc, gk_ic, gk_jc, rm_Mo_stageOne]) ⟨by decide, by decide⟩ ⟨by decide, by decide⟩ rfl rfl rfl rfl ?_
    obtain ⟨M141, h141, h⟩ := gk_bind h
    refine Gk_put (j := 34) (ty := .int) B d_Mo_stageOne_141 in_Mo t_Mo t_Mo_ok n_Mo cl_Mo (by decide) tw_789 rfl rfl rfl rfl rfl h141 ?_
    refine Gk_iconst (v := 0) B d_Mo_stageOne_144 (by decide) ?_
    cases h
    exact Gk_iret B hr d_Mo_stageOne_145 rfl (by decide) (by decide) rfl
  rw [if_neg c88] at h
  refine Gk_aload_n (i := 0) (r := a0) B d_Mo_stageOne_91 rfl rfl ?_
  obtain ⟨v92, h92, h⟩ := gk_bind h
  refine Gk_getR (j := 53) B d_Mo_stageOne_92 in_Mo cl_Mo (by decide) tw_808 rfl h92 ?_
  refine Gk_iload_n (i := 2) (x := x2) B d_Mo_stageOne_95 rfl rfl ?_
  refine Gk_iload_n (i := 2) (x := x2) B d_Mo_stageOne_96 rfl rfl ?_
  refine Gk_aload_n (i := 0) (r := a0) B d_Mo_stageOne_97 rfl rfl ?_
  obtain ⟨v98, h98, h⟩ := gk_bind h
  refine Gk_getI (j := 4) B d_Mo_stageOne_98 in_Mo cl_Mo (by decide) tw_759 rfl h98 ?_
  refine Gk_icmp_ge (tgt := 126) B d_Mo_stageOne_101 rfl (fun c101 => ?_) (fun c101 => ?_)
  · rw [if_pos c101] at h
    exact sn_Mo_stageOne_126 B hr H85 h
  rw [if_neg c101] at h
  refine Gk_aload_n (i := 0) (r := a0) B d_Mo_stageOne_104 rfl rfl ?_
  obtain ⟨v105, h105, h⟩ := gk_bind h
  refine Gk_getR (j := 3) B d_Mo_stageOne_105 in_Mo cl_Mo (by decide) tw_758 rfl h105 ?_
  refine Gk_iload_n (i := 2) (x := x2) B d_Mo_stageOne_108 rfl rfl ?_
  obtain ⟨v109, h109, h⟩ := gk_bind h
  refine Gk_iaload B d_Mo_stageOne_109 ty_0 h109 ?_
  refine Gk_if_le (tgt := 126) B d_Mo_stageOne_110 rfl (fun c110 => ?_) (fun c110 => ?_)
  · rw [if_pos c110] at h
    exact sn_Mo_stageOne_126 B hr H85 h
  rw [if_neg c110] at h
  refine Gk_aload_n (i := 0) (r := a0) B d_Mo_stageOne_113 rfl rfl ?_
  refine Gk_iload_n (i := 2) (x := x2) B d_Mo_stageOne_114 rfl rfl ?_
  refine Gk_iload_n (i := 1) (x := x1) B d_Mo_stageOne_115 rfl rfl ?_
  obtain ⟨o116, g116, h⟩ := gk_bind h
  obtain ⟨w116, h116, h⟩ := gk_bind h
  refine Gk_callV (As := [.int x2, .int x1]) (rest := [.int x2, va_rf v92]) (st1 := [.int w116.1, .int x2, va_rf v92]) (k1 := 0) (n1 := 0) B gk_hG d_Mo_stageOne_116 (sn_Mo_same h116) g116 cl_Mo tw_1032 tw_1029 tw_1031 tw_27 tw_48 nm_Mo_same rfl (by simp [gk_rc, gk_ic, gk_jc, rm_Mo_stageOne]) ⟨by decide, by decide⟩ ⟨by decide, by decide⟩ rfl rfl rfl rfl ?_
  refine Gk_if_eq (tgt := 126) B d_Mo_stageOne_119 rfl (fun c119 => ?_) (fun c119 => ?_)
  · rw [if_pos c119] at h
    exact sn_Mo_stageOne_126 B hr H85 h
  rw [if_neg c119] at h
  refine Gk_iconst (v := 1) B d_Mo_stageOne_122 (by decide) ?_
  refine Gk_goto (tgt := 127) B d_Mo_stageOne_123 rfl ?_
  exact sn_Mo_stageOne_127 B hr H85 h
set_option maxHeartbeats 4000000 in
set_option maxRecDepth 100000 in
theorem sn_Mo_stageOne_85 {l : Launch} {Γ : gk_G} {p : Program} {e : Env} {s : State} {m : MethodId} {args : Array Value} {below : List Frame} {meth : Method} {c : Code} (B : gk_B p s m args meth c gk_Y Γ c_Mo_stageOne 5 "StageDispatcherModel") (hr : meth.sig.returnType = (some .int)) {ρ : Int32 × gk_M}   {a0 : Option Nat} {x1 : Int32} {x2 : Int32} {M : gk_M} (h : fn_Mo_stageOne_85  a0 x1 x2 M = some ρ) : Gk p l e rm_Mo_stageOne s m args below meth c gk_Y Γ 5 (MQ below (gk_Q gk_Y Γ (some (.int ρ.1)) ρ.2) args s rm_Mo_stageOne.cells rm_Mo_stageOne.slots (fun q => Γ.2.2 ≤ q)) 0 0 M 85 [some (va_rf a0), some (.int x1), some (.int x2), none, none] [] := by
  unfold fn_Mo_stageOne_85 at h
  exact gk_loop_sound (α := Option Nat × Int32 × Int32 × gk_M) (P := fun a => Gk p l e rm_Mo_stageOne s m args below meth c gk_Y Γ 5 (MQ below (gk_Q gk_Y Γ (some (.int ρ.1)) ρ.2) args s rm_Mo_stageOne.cells rm_Mo_stageOne.slots (fun q => Γ.2.2 ≤ q)) 0 0 a.2.2.2 85 [some (va_rf a.1), some (.int a.2.1), some (.int a.2.2.1), none, none] []) (fun kk a Hk hb => sn_Mo_stageOne_85_bd B hr (fun a0 x1 x2 M hh => Hk (a0, x1, x2, M) hh) hb) _ _ h
set_option maxHeartbeats 4000000 in
set_option maxRecDepth 100000 in
theorem sn_Mo_stageOne_4_bd {l : Launch} {Γ : gk_G} {p : Program} {e : Env} {s : State} {m : MethodId} {args : Array Value} {below : List Frame} {meth : Method} {c : Code} (B : gk_B p s m args meth c gk_Y Γ c_Mo_stageOne 5 "StageDispatcherModel") (hr : meth.sig.returnType = (some .int)) {ρ : Int32 × gk_M} {k4 : Option Nat → Int32 → Int32 → gk_M → Option (Int32 × gk_M)} (H4 : ∀ (a0 : Option Nat) (x1 : Int32) (x2 : Int32) (M : gk_M), k4 a0 x1 x2 M = some ρ → Gk p l e rm_Mo_stageOne s m args below meth c gk_Y Γ 5 (MQ below (gk_Q gk_Y Γ (some (.int ρ.1)) ρ.2) args s rm_Mo_stageOne.cells rm_Mo_stageOne.slots (fun q => Γ.2.2 ≤ q)) 0 0 M 4 [some (va_rf a0), some (.int x1), some (.int x2), none, none] []) {a0 : Option Nat} {x1 : Int32} {x2 : Int32} {M : gk_M} (h : fn_Mo_stageOne_4_bd k4 a0 x1 x2 M = some ρ) : Gk p l e rm_Mo_stageOne s m args below meth c gk_Y Γ 5 (MQ below (gk_Q gk_Y Γ (some (.int ρ.1)) ρ.2) args s rm_Mo_stageOne.cells rm_Mo_stageOne.slots (fun q => Γ.2.2 ≤ q)) 0 0 M 4 [some (va_rf a0), some (.int x1), some (.int x2), none, none] [] := by
  unfold fn_Mo_stageOne_4_bd at h
  refine Gk_iload_n (i := 2) (x := x2) B d_Mo_stageOne_4 rfl rfl ?_
  refine Gk_aload_n (i := 0) (r := a0) B d_Mo_stageOne_5 rfl rfl ?_
  obtain ⟨v6, h6, h⟩ := gk_bind h
  refine Gk_getI (j := 4) B d_Mo_stageOne_6 in_Mo cl_Mo (by decide) tw_759 rfl h6 ?_
  refine Gk_icmp_ge (tgt := 76) B d_Mo_stageOne_9 rfl (fun c9 => ?_) (fun c9 => ?_)
  · rw [if_pos c9] at h
    refine Gk_iload_n (i := 1) (x := x1) B d_Mo_stageOne_76 rfl rfl ?_
    refine Gk_if_ge (tgt := 83) B d_Mo_stageOne_77 rfl (fun c77 => ?_) (fun c77 => ?_)
    · rw [if_pos c77] at h
      refine Gk_iconst (v := 0) B d_Mo_stageOne_83 (by decide) ?_
      refine Gk_istore_n (i := 2) (L' := [some (va_rf a0), some (.int x1), some (.int 0), none, none]) B d_Mo_stageOne_84 rfl (by decide) (gk_c1_i rfl) rfl ?_
      exact sn_Mo_stageOne_85 B hr h
    rw [if_neg c77] at h
    refine Gk_bipush (v := 8) B d_Mo_stageOne_80 (by decide) ?_
    cases h
    exact Gk_iret B hr d_Mo_stageOne_82 rfl (by decide) (by decide) rfl
  rw [if_neg c9] at h
  refine Gk_aload_n (i := 0) (r := a0) B d_Mo_stageOne_12 rfl rfl ?_
  refine Gk_iload_n (i := 2) (x := x2) B d_Mo_stageOne_13 rfl rfl ?_
  refine Gk_iconst (v := 0) B d_Mo_stageOne_14 (by decide) ?_
  obtain ⟨o15, g15, h⟩ := gk_bind h
  obtain ⟨w15, h15, h⟩ := gk_bind h
  refine Gk_callV (As := [.int x2, .int 0]) (rest := []) (st1 := [.int w15.1]) (k1 := 0) (n1 := 0) B gk_hG d_Mo_stageOne_15 (sn_Mo_match h15) g15 cl_Mo tw_1005 tw_1002 tw_1004 tw_21 tw_48 nm_Mo_match rfl (by decide) ⟨by decide, by decide⟩ ⟨by decide, by decide⟩ rfl rfl rfl rfl ?_
  refine Gk_istore_n (i := 3) (L' := [some (va_rf a0), some (.int x1), some (.int x2), some (.int w15.1), none]) B d_Mo_stageOne_18 rfl (by decide) (gk_c1_i rfl) rfl ?_
  refine Gk_iload_n (i := 3) (x := w15.1) B d_Mo_stageOne_19 rfl rfl ?_
  refine Gk_if_lt (tgt := 43) B d_Mo_stageOne_20 rfl (fun c20 => ?_) (fun c20 => ?_)
  · rw [if_pos c20] at h
    refine Gk_weak [true, true, true, false, false] (L' := [some (va_rf a0), some (.int x1), some (.int x2), none, none]) rfl ?_
    exact sn_Mo_stageOne_43 B hr H4 h
  rw [if_neg c20] at h
  refine Gk_aload_n (i := 0) (r := a0) B d_Mo_stageOne_23 rfl rfl ?_
  refine Gk_iload_n (i := 3) (x := w15.1) B d_Mo_stageOne_24 rfl rfl ?_
  obtain ⟨o25, g25, h⟩ := gk_bind h
  obtain ⟨w25, h25, h⟩ := gk_bind h
  refine Gk_callV (As := [.int w15.1]) (rest := []) (st1 := [.int w25.1]) (k1 := 0) (n1 := 0) B gk_hG d_Mo_stageOne_25 (sn_Mo_ends h25) g25 cl_Mo tw_1020 tw_1017 tw_1019 tw_24 tw_48 nm_Mo_ends rfl (by decide) ⟨by decide, by decide⟩ ⟨by decide, by decide⟩ rfl rfl rfl rfl ?_
  refine Gk_if_ne (tgt := 39) B d_Mo_stageOne_28 rfl (fun c28 => ?_) (fun c28 => ?_)
  · rw [if_neg c28] at h
    refine Gk_weak [true, true, true, false, false] (L' := [some (va_rf a0), some (.int x1), some (.int x2), none, none]) rfl ?_
    exact sn_Mo_stageOne_39 B hr H4 h
  rw [if_pos c28] at h
  refine Gk_aload_n (i := 0) (r := a0) B d_Mo_stageOne_31 rfl rfl ?_
  refine Gk_iload_n (i := 2) (x := x2) B d_Mo_stageOne_32 rfl rfl ?_
  obtain ⟨o33, g33, h⟩ := gk_bind h
  obtain ⟨w33, h33, h⟩ := gk_bind h
  refine Gk_callV (As := [.int x2]) (rest := []) (st1 := [.int w33.1]) (k1 := 0) (n1 := 0) B gk_hG d_Mo_stageOne_33 (sn_Mo_hasTemplates h33) g33 cl_Mo tw_1024 tw_1021 tw_1023 tw_25 tw_48 nm_Mo_hasTemplates rfl (by decide) ⟨by decide, by decide⟩ ⟨by decide, by decide⟩ rfl rfl rfl rfl ?_
  refine Gk_if_eq (tgt := 43) B d_Mo_stageOne_36 rfl (fun c36 => ?_) (fun c36 => ?_)
  · rw [if_pos c36] at h
    refine Gk_weak [true, true, true, false, false] (L' := [some (va_rf a0), some (.int x1), some (.int x2), none, none]) rfl ?_
    exact sn_Mo_stageOne_43 B hr H4 h
  rw [if_neg c36] at h
  refine Gk_weak [true, true, true, false, false] (L' := [some (va_rf a0), some (.int x1), some (.int x2), none, none]) rfl ?_
  exact sn_Mo_stageOne_39 B hr H4 h
set_option maxHeartbeats 4000000 in
set_option maxRecDepth 100000 in
theorem sn_Mo_stageOne_4 {l : Launch} {Γ : gk_G} {p : Program} {e : Env} {s : State} {m : MethodId} {args : Array Value} {below : List Frame} {meth : Method} {c : Code} (B : gk_B p s m args meth c gk_Y Γ c_Mo_stageOne 5 "StageDispatcherModel") (hr : meth.sig.returnType = (some .int)) {ρ : Int32 × gk_M}   {a0 : Option Nat} {x1 : Int32} {x2 : Int32} {M : gk_M} (h : fn_Mo_stageOne_4  a0 x1 x2 M = some ρ) : Gk p l e rm_Mo_stageOne s m args below meth c gk_Y Γ 5 (MQ below (gk_Q gk_Y Γ (some (.int ρ.1)) ρ.2) args s rm_Mo_stageOne.cells rm_Mo_stageOne.slots (fun q => Γ.2.2 ≤ q)) 0 0 M 4 [some (va_rf a0), some (.int x1), some (.int x2), none, none] [] := by
  unfold fn_Mo_stageOne_4 at h
  exact gk_loop_sound (α := Option Nat × Int32 × Int32 × gk_M) (P := fun a => Gk p l e rm_Mo_stageOne s m args below meth c gk_Y Γ 5 (MQ below (gk_Q gk_Y Γ (some (.int ρ.1)) ρ.2) args s rm_Mo_stageOne.cells rm_Mo_stageOne.slots (fun q => Γ.2.2 ≤ q)) 0 0 a.2.2.2 4 [some (va_rf a.1), some (.int a.2.1), some (.int a.2.2.1), none, none] []) (fun kk a Hk hb => sn_Mo_stageOne_4_bd B hr (fun a0 x1 x2 M hh => Hk (a0, x1, x2, M) hh) hb) _ _ h
set_option maxHeartbeats 4000000 in
set_option maxRecDepth 100000 in
theorem sn_Mo_stageOne_0 {l : Launch} {Γ : gk_G} {p : Program} {e : Env} {s : State} {m : MethodId} {args : Array Value} {below : List Frame} {meth : Method} {c : Code} (B : gk_B p s m args meth c gk_Y Γ c_Mo_stageOne 5 "StageDispatcherModel") (hr : meth.sig.returnType = (some .int)) {ρ : Int32 × gk_M}   {a0 : Option Nat} {M : gk_M} (h : fn_Mo_stageOne  a0 M = some ρ) : Gk p l e rm_Mo_stageOne s m args below meth c gk_Y Γ 5 (MQ below (gk_Q gk_Y Γ (some (.int ρ.1)) ρ.2) args s rm_Mo_stageOne.cells rm_Mo_stageOne.slots (fun q => Γ.2.2 ≤ q)) 0 0 M 0 [some (va_rf a0), none, none, none, none] [] := by
  unfold fn_Mo_stageOne at h
  refine Gk_iconst (v := (-1)) B d_Mo_stageOne_0 (by decide) ?_
  refine Gk_istore_n (i := 1) (L' := [some (va_rf a0), some (.int (-1)), none, none, none]) B d_Mo_stageOne_1 rfl (by decide) (gk_c1_r rfl) rfl ?_
  refine Gk_iconst (v := 0) B d_Mo_stageOne_2 (by decide) ?_
  refine Gk_istore_n (i := 2) (L' := [some (va_rf a0), some (.int (-1)), some (.int 0), none, none]) B d_Mo_stageOne_3 rfl (by decide) (gk_c1_i rfl) rfl ?_
  exact sn_Mo_stageOne_4 B hr h
theorem sn_Mo_stageOne {l : Launch} {Γ : gk_G} {a0 : Option Nat} {M : gk_M} {ρ : Int32 × gk_M} (h : fn_Mo_stageOne a0 M = some ρ) : gk_Met l gk_Y Γ y_Mo_stageOne (.code y_Mo_stageOne c_Mo_stageOne 5 (some .int) :: gk_Y.2.2.2) rm_Mo_stageOne [va_rf a0] M (some (.int ρ.1)) ρ.2 :=
  gk_start (by decide) (by simp [lg_sl, gk_rc, gk_ic, gk_jc]) [some (va_rf a0), none, none, none, none] (by simp [gk_as, lv_args, gk_rc, gk_ic, gk_jc]) (fun p e s m args below meth c B hr hin => sn_Mo_stageOne_0 B hr h)
