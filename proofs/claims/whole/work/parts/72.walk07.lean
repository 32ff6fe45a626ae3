theorem d_Accepted_bestFor_0 : decode c_Accepted_bestFor 0 = .ok (.iconst (-1), 1) := by decide +kernel
theorem d_Accepted_bestFor_1 : decode c_Accepted_bestFor 1 = .ok (.istore_n 2, 1) := by decide +kernel
theorem d_Accepted_bestFor_2 : decode c_Accepted_bestFor 2 = .ok (.iconst (-1), 1) := by decide +kernel
theorem d_Accepted_bestFor_3 : decode c_Accepted_bestFor 3 = .ok (.istore_n 3, 1) := by decide +kernel
theorem d_Accepted_bestFor_4 : decode c_Accepted_bestFor 4 = .ok (.iconst 0, 1) := by decide +kernel
theorem d_Accepted_bestFor_5 : decode c_Accepted_bestFor 5 = .ok (.istore 4, 2) := by decide +kernel
theorem d_Accepted_bestFor_7 : decode c_Accepted_bestFor 7 = .ok (.iload 4, 2) := by decide +kernel
theorem d_Accepted_bestFor_9 : decode c_Accepted_bestFor 9 = .ok (.aload_n 0, 1) := by decide +kernel
theorem d_Accepted_bestFor_10 : decode c_Accepted_bestFor 10 = .ok (.getfield 18, 3) := by decide +kernel
theorem d_Accepted_bestFor_13 : decode c_Accepted_bestFor 13 = .ok (.if_icmp .ge 30, 3) := by decide +kernel
theorem d_Accepted_bestFor_16 : decode c_Accepted_bestFor 16 = .ok (.aload_n 0, 1) := by decide +kernel
theorem d_Accepted_bestFor_17 : decode c_Accepted_bestFor 17 = .ok (.iload 4, 2) := by decide +kernel
theorem d_Accepted_bestFor_19 : decode c_Accepted_bestFor 19 = .ok (.aload_n 1, 1) := by decide +kernel
theorem d_Accepted_bestFor_20 : decode c_Accepted_bestFor 20 = .ok (.invokevirtual 26, 3) := by decide +kernel
theorem d_Accepted_bestFor_23 : decode c_Accepted_bestFor 23 = .ok (.istore 5, 2) := by decide +kernel
theorem d_Accepted_bestFor_25 : decode c_Accepted_bestFor 25 = .ok (.iload 5, 2) := by decide +kernel
theorem d_Accepted_bestFor_27 : decode c_Accepted_bestFor 27 = .ok (.iload_n 3, 1) := by decide +kernel
theorem d_Accepted_bestFor_28 : decode c_Accepted_bestFor 28 = .ok (.if_icmp .le 9, 3) := by decide +kernel
theorem d_Accepted_bestFor_31 : decode c_Accepted_bestFor 31 = .ok (.iload 5, 2) := by decide +kernel
theorem d_Accepted_bestFor_33 : decode c_Accepted_bestFor 33 = .ok (.istore_n 3, 1) := by decide +kernel
theorem d_Accepted_bestFor_34 : decode c_Accepted_bestFor 34 = .ok (.iload 4, 2) := by decide +kernel
theorem d_Accepted_bestFor_36 : decode c_Accepted_bestFor 36 = .ok (.istore_n 2, 1) := by decide +kernel
theorem d_Accepted_bestFor_37 : decode c_Accepted_bestFor 37 = .ok (.iinc 4 1, 3) := by decide +kernel
theorem d_Accepted_bestFor_40 : decode c_Accepted_bestFor 40 = .ok (.goto (-33), 3) := by decide +kernel
theorem d_Accepted_bestFor_43 : decode c_Accepted_bestFor 43 = .ok (.iload_n 2, 1) := by decide +kernel
theorem d_Accepted_bestFor_44 : decode c_Accepted_bestFor 44 = .ok (.ireturn, 1) := by decide +kernel
set_option maxHeartbeats 4000000 in
set_option maxRecDepth 100000 in
theorem sn_Accepted_bestFor_37 {l : Launch} {Γ : gk_G} {p : Program} {e : Env} {s : State} {m : MethodId} {args : Array Value} {below : List Frame} {meth : Method} {c : Code} (B : gk_B p s m args meth c gk_Y Γ c_Accepted_bestFor 6 "StageDispatcher$Accepted") (hr : meth.sig.returnType = (some .int)) {ρ : Int32 × gk_M} {k7 : Option Nat → Option Nat → Int32 → Int32 → Int32 → gk_M → Option (Int32 × gk_M)} (H7 : ∀ (a0 : Option Nat) (a1 : Option Nat) (x2 : Int32) (x3 : Int32) (x4 : Int32) (M : gk_M), k7 a0 a1 x2 x3 x4 M = some ρ → Gk p l e rm_Accepted_bestFor s m args below meth c gk_Y Γ 6 (MQ below (gk_Q gk_Y Γ (some (.int ρ.1)) ρ.2) args s rm_Accepted_bestFor.cells rm_Accepted_bestFor.slots (fun q => Γ.2.2 ≤ q)) 0 0 M 7 [some (va_rf a0), some (va_rf a1), some (.int x2), some (.int x3), some (.int x4), none] []) {a0 : Option Nat} {a1 : Option Nat} {x2 : Int32} {x3 : Int32} {x4 : Int32} {M : gk_M} (h : fn_Accepted_bestFor_37 k7 a0 a1 x2 x3 x4 M = some ρ) : Gk p l e rm_Accepted_bestFor s m args below meth c gk_Y Γ 6 (MQ below (gk_Q gk_Y Γ (some (.int ρ.1)) ρ.2) args s rm_Accepted_bestFor.cells rm_Accepted_bestFor.slots (fun q => Γ.2.2 ≤ q)) 0 0 M 37 [some (va_rf a0), some (va_rf a1), some (.int x2), some (.int x3), some (.int x4), none] [] := by
  unfold fn_Accepted_bestFor_37 at h
  refine Gk_iinc (x := x4) (v := (x4 + 1)) (L' := [some (va_rf a0), some (va_rf a1), some (.int x2), some (.int x3), some (.int (x4 + 1)), none]) B d_Accepted_bestFor_37 rfl (congrArg (fun z => x4 + z) (by decide : Int32.ofInt 1 = 1)) (by decide) (gk_c1_i rfl) rfl ?_
  refine Gk_goto (tgt := 7) B d_Accepted_bestFor_40 rfl ?_
  exact H7 a0 a1 x2 x3 (x4 + 1) M h
set_option maxHeartbeats 4000000 in
set_option maxRecDepth 100000 in
theorem sn_Accepted_bestFor_7_bd {l : Launch} {Γ : gk_G} {p : Program} {e : Env} {s : State} {m : MethodId} {args : Array Value} {below : List Frame} {meth : Method} {c : Code} (B : gk_B p s m args meth c gk_Y Γ c_Accepted_bestFor 6 "StageDispatcher$Accepted") (hr : meth.sig.returnType = (some .int)) {ρ : Int32 × gk_M} {k7 : Option Nat → Option Nat → Int32 → Int32 → Int32 → gk_M → Option (Int32 × gk_M)} (H7 : ∀ (a0 : Option Nat) (a1 : Option Nat) (x2 : Int32) (x3 : Int32) (x4 : Int32) (M : gk_M), k7 a0 a1 x2 x3 x4 M = some ρ → Gk p l e rm_Accepted_bestFor s m args below meth c gk_Y Γ 6 (MQ below (gk_Q gk_Y Γ (some (.int ρ.1)) ρ.2) args s rm_Accepted_bestFor.cells rm_Accepted_bestFor.slots (fun q => Γ.2.2 ≤ q)) 0 0 M 7 [some (va_rf a0), some (va_rf a1), some (.int x2), some (.int x3), some (.int x4), none] []) {a0 : Option Nat} {a1 : Option Nat} {x2 : Int32} {x3 : Int32} {x4 : Int32} {M : gk_M} (h : fn_Accepted_bestFor_7_bd k7 a0 a1 x2 x3 x4 M = some ρ) : Gk p l e rm_Accepted_bestFor s m args below meth c gk_Y Γ 6 (MQ below (gk_Q gk_Y Γ (some (.int ρ.1)) ρ.2) args s rm_Accepted_bestFor.cells rm_Accepted_bestFor.slots (fun q => Γ.2.2 ≤ q)) 0 0 M 7 [some (va_rf a0), some (va_rf a1), some (.int x2), some (.int x3), some (.int x4), none] [] := by
  unfold fn_Accepted_bestFor_7_bd at h
  refine Gk_iload (x := x4) B d_Accepted_bestFor_7 rfl ?_
  refine Gk_aload_n (i := 0) (r := a0) B d_Accepted_bestFor_9 rfl rfl ?_
  obtain ⟨v10, h10, h⟩ := gk_bind h
  refine Gk_getI (j := 2) B d_Accepted_bestFor_10 in_Accepted cl_Accepted (by decide) tw_161 rfl h10 ?_
  refine Gk_icmp_ge (tgt := 43) B d_Accepted_bestFor_13 rfl (fun c13 => ?_) (fun c13 => ?_)
  · rw [if_pos c13] at h
    refine Gk_iload_n (i := 2) (x := x2) B d_Accepted_bestFor_43 rfl rfl ?_
    cases h
    exact Gk_iret B hr d_Accepted_bestFor_44 rfl (by decide) (by decide) rfl
  rw [if_neg c13] at h
  refine Gk_aload_n (i := 0) (r := a0) B d_Accepted_bestFor_16 rfl rfl ?_
  refine Gk_iload (x := x4) B d_Accepted_bestFor_17 rfl ?_
  refine Gk_aload_n (i := 1) (r := a1) B d_Accepted_bestFor_19 rfl rfl ?_
  obtain ⟨o20, g20, h⟩ := gk_bind h
  obtain ⟨w20, h20, h⟩ := gk_bind h
  refine Gk_callV (As := [.int x4, va_rf a1]) (rest := []) (st1 := [.int w20.1]) (k1 := 0) (n1 := 0) B gk_hG d_Accepted_bestFor_20 (sn_Accepted_worth h20) g20 cl_Accepted tw_675 tw_672 tw_673 tw_674 tw_44 nm_Accepted_worth rfl (by decide) ⟨by decide, by decide⟩ ⟨by decide, by decide⟩ rfl rfl rfl rfl ?_
  refine Gk_istore (L' := [some (va_rf a0), some (va_rf a1), some (.int x2), some (.int x3), some (.int x4), some (.int w20.1)]) B d_Accepted_bestFor_23 (by decide) (gk_c1_i rfl) rfl ?_
  refine Gk_iload (x := w20.1) B d_Accepted_bestFor_25 rfl ?_
  refine Gk_iload_n (i := 3) (x := x3) B d_Accepted_bestFor_27 rfl rfl ?_
  refine Gk_icmp_le (tgt := 37) B d_Accepted_bestFor_28 rfl (fun c28 => ?_) (fun c28 => ?_)
  · rw [if_pos c28] at h
    refine Gk_weak [true, true, true, true, true, false] (L' := [some (va_rf a0), some (va_rf a1), some (.int x2), some (.int x3), some (.int x4), none]) rfl ?_
    exact sn_Accepted_bestFor_37 B hr H7 h
  rw [if_neg c28] at h
  refine Gk_iload (x := w20.1) B d_Accepted_bestFor_31 rfl ?_
  refine Gk_istore_n (i := 3) (L' := [some (va_rf a0), some (va_rf a1), some (.int x2), some (.int w20.1), some (.int x4), some (.int w20.1)]) B d_Accepted_bestFor_33 rfl (by decide) (gk_c1_i rfl) rfl ?_
  refine Gk_iload (x := x4) B d_Accepted_bestFor_34 rfl ?_
  refine Gk_istore_n (i := 2) (L' := [some (va_rf a0), some (va_rf a1), some (.int x4), some (.int w20.1), some (.int x4), some (.int w20.1)]) B d_Accepted_bestFor_36 rfl (by decide) (gk_c1_r rfl) rfl ?_
  refine Gk_weak [true, true, true, true, true, false] (L' := [some (va_rf a0), some (va_rf a1), some (.int x4), some (.int w20.1), some (.int x4), none]) rfl ?_
  exact sn_Accepted_bestFor_37 B hr H7 h
set_option maxHeartbeats 4000000 in
set_option maxRecDepth 100000 in
theorem sn_Accepted_bestFor_7 {l : Launch} {Γ : gk_G} {p : Program} {e : Env} {s : State} {m : MethodId} {args : Array Value} {below : List Frame} {meth : Method} {c : Code} (B : gk_B p s m args meth c gk_Y Γ c_Accepted_bestFor 6 "StageDispatcher$Accepted") (hr : meth.sig.returnType = (some .int)) {ρ : Int32 × gk_M}   {a0 : Option Nat} {a1 : Option Nat} {x2 : Int32} {x3 : Int32} {x4 : Int32} {M : gk_M} (h : fn_Accepted_bestFor_7  a0 a1 x2 x3 x4 M = some ρ) : Gk p l e rm_Accepted_bestFor s m args below meth c gk_Y Γ 6 (MQ below (gk_Q gk_Y Γ (some (.int ρ.1)) ρ.2) args s rm_Accepted_bestFor.cells rm_Accepted_bestFor.slots (fun q => Γ.2.2 ≤ q)) 0 0 M 7 [some (va_rf a0), some (va_rf a1), some (.int x2), some (.int x3), some (.int x4), none] [] := by
  unfold fn_Accepted_bestFor_7 at h
  exact gk_loop_sound (α := Option Nat × Option Nat × Int32 × Int32 × Int32 × gk_M) (P := fun a => Gk p l e rm_Accepted_bestFor s m args below meth c gk_Y Γ 6 (MQ below (gk_Q gk_Y Γ (some (.int ρ.1)) ρ.2) args s rm_Accepted_bestFor.cells rm_Accepted_bestFor.slots (fun q => Γ.2.2 ≤ q)) 0 0 a.2.2.2.2.2 7 [some (va_rf a.1), some (va_rf a.2.1), some (.int a.2.2.1), some (.int a.2.2.2.1), some (.int a.2.2.2.2.1), none] []) (fun kk a Hk hb => sn_Accepted_bestFor_7_bd B hr (fun a0 a1 x2 x3 x4 M hh => Hk (a0, a1, x2, x3, x4, M) hh) hb) _ _ h
set_option maxHeartbeats 4000000 in
set_option maxRecDepth 100000 in
theorem sn_Accepted_bestFor_0 {l : Launch} {Γ : gk_G} {p : Program} {e : Env} {s : State} {m : MethodId} {args : Array Value} {below : List Frame} {meth : Method} {c : Code} (B : gk_B p s m args meth c gk_Y Γ c_Accepted_bestFor 6 "StageDispatcher$Accepted") (hr : meth.sig.returnType = (some .int)) {ρ : Int32 × gk_M}   {a0 : Option Nat} {a1 : Option Nat} {M : gk_M} (h : fn_Accepted_bestFor  a0 a1 M = some ρ) : Gk p l e rm_Accepted_bestFor s m args below meth c gk_Y Γ 6 (MQ below (gk_Q gk_Y Γ (some (.int ρ.1)) ρ.2) args s rm_Accepted_bestFor.cells rm_Accepted_bestFor.slots (fun q => Γ.2.2 ≤ q)) 0 0 M 0 [some (va_rf a0), some (va_rf a1), none, none, none, none] [] := by
  unfold fn_Accepted_bestFor at h
  refine Gk_iconst (v := (-1)) B d_Accepted_bestFor_0 (by decide) ?_
  refine Gk_istore_n (i := 2) (L' := [some (va_rf a0), some (va_rf a1), some (.int (-1)), none, none, none]) B d_Accepted_bestFor_1 rfl (by decide) (gk_c1_r rfl) rfl ?_
  refine Gk_iconst (v := (-1)) B d_Accepted_bestFor_2 (by decide) ?_
  refine Gk_istore_n (i := 3) (L' := [some (va_rf a0), some (va_rf a1), some (.int (-1)), some (.int (-1)), none, none]) B d_Accepted_bestFor_3 rfl (by decide) (gk_c1_i rfl) rfl ?_
  refine Gk_iconst (v := 0) B d_Accepted_bestFor_4 (by decide) ?_
  refine Gk_istore (L' := [some (va_rf a0), some (va_rf a1), some (.int (-1)), some (.int (-1)), some (.int 0), none]) B d_Accepted_bestFor_5 (by decide) (gk_c1_i rfl) rfl ?_
  exact sn_Accepted_bestFor_7 B hr h
theorem sn_Accepted_bestFor {l : Launch} {Γ : gk_G} {a0 : Option Nat} {a1 : Option Nat} {M : gk_M} {ρ : Int32 × gk_M} (h : fn_Accepted_bestFor a0 a1 M = some ρ) : gk_Met l gk_Y Γ y_Accepted_bestFor (.code y_Accepted_bestFor c_Accepted_bestFor 6 (some .int) :: gk_Y.2.2.2) rm_Accepted_bestFor [va_rf a0, va_rf a1] M (some (.int ρ.1)) ρ.2 :=
  gk_start (by decide) (by simp [lg_sl, gk_rc, gk_ic, gk_jc]) [some (va_rf a0), some (va_rf a1), none, none, none, none] (by simp [gk_as, lv_args, gk_rc, gk_ic, gk_jc]) (fun p e s m args below meth c B hr hin => sn_Accepted_bestFor_0 B hr h)
theorem d_SD_bestOf_0 : decode c_SD_bestOf 0 = .ok (.iconst (-1), 1) := by decide +kernel
theorem d_SD_bestOf_1 : decode c_SD_bestOf 1 = .ok (.istore_n 3, 1) := by decide +kernel
theorem d_SD_bestOf_2 : decode c_SD_bestOf 2 = .ok (.iconst (-1), 1) := by decide +kernel
theorem d_SD_bestOf_3 : decode c_SD_bestOf 3 = .ok (.istore 4, 2) := by decide +kernel
theorem d_SD_bestOf_5 : decode c_SD_bestOf 5 = .ok (.iconst 0, 1) := by decide +kernel
theorem d_SD_bestOf_6 : decode c_SD_bestOf 6 = .ok (.istore 5, 2) := by decide +kernel
theorem d_SD_bestOf_8 : decode c_SD_bestOf 8 = .ok (.iload 5, 2) := by decide +kernel
theorem d_SD_bestOf_10 : decode c_SD_bestOf 10 = .ok (.aload_n 0, 1) := by decide +kernel
theorem d_SD_bestOf_11 : decode c_SD_bestOf 11 = .ok (.getfield 19, 3) := by decide +kernel
theorem d_SD_bestOf_14 : decode c_SD_bestOf 14 = .ok (.getfield 79, 3) := by decide +kernel
theorem d_SD_bestOf_17 : decode c_SD_bestOf 17 = .ok (.if_icmp .ge 103, 3) := by decide +kernel
theorem d_SD_bestOf_20 : decode c_SD_bestOf 20 = .ok (.aload_n 0, 1) := by decide +kernel
theorem d_SD_bestOf_21 : decode c_SD_bestOf 21 = .ok (.getfield 19, 3) := by decide +kernel
theorem d_SD_bestOf_24 : decode c_SD_bestOf 24 = .ok (.getfield 111, 3) := by decide +kernel
theorem d_SD_bestOf_27 : decode c_SD_bestOf 27 = .ok (.iload 5, 2) := by decide +kernel
theorem d_SD_bestOf_29 : decode c_SD_bestOf 29 = .ok (.aaload, 1) := by decide +kernel
theorem d_SD_bestOf_30 : decode c_SD_bestOf 30 = .ok (.astore 6, 2) := by decide +kernel
theorem d_SD_bestOf_32 : decode c_SD_bestOf 32 = .ok (.iload_n 1, 1) := by decide +kernel
theorem d_SD_bestOf_33 : decode c_SD_bestOf 33 = .ok (.iload 5, 2) := by decide +kernel
theorem d_SD_bestOf_35 : decode c_SD_bestOf 35 = .ok (.invokestatic 287, 3) := by decide +kernel
theorem d_SD_bestOf_38 : decode c_SD_bestOf 38 = .ok (.ifCond .eq 15, 3) := by decide +kernel
theorem d_SD_bestOf_41 : decode c_SD_bestOf 41 = .ok (.aload_n 0, 1) := by decide +kernel
theorem d_SD_bestOf_42 : decode c_SD_bestOf 42 = .ok (.getfield 33, 3) := by decide +kernel
theorem d_SD_bestOf_45 : decode c_SD_bestOf 45 = .ok (.aload 6, 2) := by decide +kernel
theorem d_SD_bestOf_47 : decode c_SD_bestOf 47 = .ok (.invokevirtual 291, 3) := by decide +kernel
theorem d_SD_bestOf_50 : decode c_SD_bestOf 50 = .ok (.goto 4, 3) := by decide +kernel
theorem d_SD_bestOf_53 : decode c_SD_bestOf 53 = .ok (.iconst (-1), 1) := by decide +kernel
theorem d_SD_bestOf_54 : decode c_SD_bestOf 54 = .ok (.istore 7, 2) := by decide +kernel
theorem d_SD_bestOf_56 : decode c_SD_bestOf 56 = .ok (.iload 7, 2) := by decide +kernel
theorem d_SD_bestOf_58 : decode c_SD_bestOf 58 = .ok (.iconst (-1), 1) := by decide +kernel
theorem d_SD_bestOf_59 : decode c_SD_bestOf 59 = .ok (.if_icmp .eq 55, 3) := by decide +kernel
theorem d_SD_bestOf_62 : decode c_SD_bestOf 62 = .ok (.iload_n 2, 1) := by decide +kernel
theorem d_SD_bestOf_63 : decode c_SD_bestOf 63 = .ok (.ifCond .eq 14, 3) := by decide +kernel
theorem d_SD_bestOf_66 : decode c_SD_bestOf 66 = .ok (.aload 6, 2) := by decide +kernel
theorem d_SD_bestOf_68 : decode c_SD_bestOf 68 = .ok (.getfield 294, 3) := by decide +kernel
theorem d_SD_bestOf_71 : decode c_SD_bestOf 71 = .ok (.invokestatic 297, 3) := by decide +kernel
theorem d_SD_bestOf_74 : decode c_SD_bestOf 74 = .ok (.goto 4, 3) := by decide +kernel
theorem d_SD_bestOf_77 : decode c_SD_bestOf 77 = .ok (.iconst 0, 1) := by decide +kernel
theorem d_SD_bestOf_78 : decode c_SD_bestOf 78 = .ok (.istore 8, 2) := by decide +kernel
theorem d_SD_bestOf_80 : decode c_SD_bestOf 80 = .ok (.iload 8, 2) := by decide +kernel
theorem d_SD_bestOf_82 : decode c_SD_bestOf 82 = .ok (.ldc_w 300, 3) := by decide +kernel
theorem d_SD_bestOf_85 : decode c_SD_bestOf 85 = .ok (.imul, 1) := by decide +kernel
theorem d_SD_bestOf_86 : decode c_SD_bestOf 86 = .ok (.aload_n 0, 1) := by decide +kernel
theorem d_SD_bestOf_87 : decode c_SD_bestOf 87 = .ok (.getfield 33, 3) := by decide +kernel
theorem d_SD_bestOf_90 : decode c_SD_bestOf 90 = .ok (.iload 7, 2) := by decide +kernel
theorem d_SD_bestOf_92 : decode c_SD_bestOf 92 = .ok (.aload 6, 2) := by decide +kernel
theorem d_SD_bestOf_94 : decode c_SD_bestOf 94 = .ok (.invokevirtual 301, 3) := by decide +kernel
theorem d_SD_bestOf_97 : decode c_SD_bestOf 97 = .ok (.iadd, 1) := by decide +kernel
theorem d_SD_bestOf_98 : decode c_SD_bestOf 98 = .ok (.istore 9, 2) := by decide +kernel
theorem d_SD_bestOf_100 : decode c_SD_bestOf 100 = .ok (.iload 9, 2) := by decide +kernel
theorem d_SD_bestOf_102 : decode c_SD_bestOf 102 = .ok (.iload 4, 2) := by decide +kernel
theorem d_SD_bestOf_104 : decode c_SD_bestOf 104 = .ok (.if_icmp .le 10, 3) := by decide +kernel
theorem d_SD_bestOf_107 : decode c_SD_bestOf 107 = .ok (.iload 9, 2) := by decide +kernel
theorem d_SD_bestOf_109 : decode c_SD_bestOf 109 = .ok (.istore 4, 2) := by decide +kernel
theorem d_SD_bestOf_111 : decode c_SD_bestOf 111 = .ok (.iload 5, 2) := by decide +kernel
theorem d_SD_bestOf_113 : decode c_SD_bestOf 113 = .ok (.istore_n 3, 1) := by decide +kernel
theorem d_SD_bestOf_114 : decode c_SD_bestOf 114 = .ok (.iinc 5 1, 3) := by decide +kernel
theorem d_SD_bestOf_117 : decode c_SD_bestOf 117 = .ok (.goto (-109), 3) := by decide +kernel
theorem d_SD_bestOf_120 : decode c_SD_bestOf 120 = .ok (.iload_n 3, 1) := by decide +kernel
theorem d_SD_bestOf_121 : decode c_SD_bestOf 121 = .ok (.ireturn, 1) := by decide +kernel
set_option maxHeartbeats 4000000 in
set_option maxRecDepth 100000 in
theorem sn_SD_bestOf_114 {l : Launch} {Γ : gk_G} {p : Program} {e : Env} {s : State} {m : MethodId} {args : Array Value} {below : List Frame} {meth : Method} {c : Code} (B : gk_B p s m args meth c gk_Y Γ c_SD_bestOf 10 "StageDispatcher") (hr : meth.sig.returnType = (some .int)) {ρ : Int32 × gk_M} {k8 : Option Nat → Int32 → Int32 → Int32 → Int32 → Int32 → gk_M → Option (Int32 × gk_M)} (H8 : ∀ (a0 : Option Nat) (x1 : Int32) (x2 : Int32) (x3 : Int32) (x4 : Int32) (x5 : Int32) (M : gk_M), k8 a0 x1 x2 x3 x4 x5 M = some ρ → Gk p l e rm_SD_bestOf s m args below meth c gk_Y Γ 10 (MQ below (gk_Q gk_Y Γ (some (.int ρ.1)) ρ.2) args s rm_SD_bestOf.cells rm_SD_bestOf.slots (fun q => Γ.2.2 ≤ q)) 0 0 M 8 [some (va_rf a0), some (.int x1), some (.int x2), some (.int x3), some (.int x4), some (.int x5), none, none, none, none] []) {a0 : Option Nat} {x1 : Int32} {x2 : Int32} {x3 : Int32} {x4 : Int32} {x5 : Int32} {M : gk_M} (h : fn_SD_bestOf_114 k8 a0 x1 x2 x3 x4 x5 M = some ρ) : Gk p l e rm_SD_bestOf s m args below meth c gk_Y Γ 10 (MQ below (gk_Q gk_Y Γ (some (.int ρ.1)) ρ.2) args s rm_SD_bestOf.cells rm_SD_bestOf.slots (fun q => Γ.2.2 ≤ q)) 0 0 M 114 [some (va_rf a0), some (.int x1), some (.int x2), some (.int x3), some (.int x4), some (.int x5), none, none, none, none] [] := by
  unfold fn_SD_bestOf_114 at h
  refine Gk_iinc (x := x5) (v := (x5 + 1)) (L' := [some (va_rf a0), some (.int x1), some (.int x2), some (.int x3), some (.int x4), some (.int (x5 + 1)), none, none, none, none]) B d_SD_bestOf_114 rfl (congrArg (fun z => x5 + z) (by decide : Int32.ofInt 1 = 1)) (by decide) (gk_c1_i rfl) rfl ?_
  refine Gk_goto (tgt := 8) B d_SD_bestOf_117 rfl ?_
  exact H8 a0 x1 x2 x3 x4 (x5 + 1) M h
set_option maxHeartbeats 4000000 in
set_option maxRecDepth 100000 in
theorem sn_SD_bestOf_78 {l : Launch} {Γ : gk_G} {p : Program} {e : Env} {s : State} {m : MethodId} {args : Array Value} {below : List Frame} {meth : Method} {c : Code} (B : gk_B p s m args meth c gk_Y Γ c_SD_bestOf 10 "StageDispatcher") (hr : meth.sig.returnType = (some .int)) {ρ : Int32 × gk_M} {k8 : Option Nat → Int32 → Int32 → Int32 → Int32 → Int32 → gk_M → Option (Int32 × gk_M)} (H8 : ∀ (a0 : Option Nat) (x1 : Int32) (x2 : Int32) (x3 : Int32) (x4 : Int32) (x5 : Int32) (M : gk_M), k8 a0 x1 x2 x3 x4 x5 M = some ρ → Gk p l e rm_SD_bestOf s m args below meth c gk_Y Γ 10 (MQ below (gk_Q gk_Y Γ (some (.int ρ.1)) ρ.2) args s rm_SD_bestOf.cells rm_SD_bestOf.slots (fun q => Γ.2.2 ≤ q)) 0 0 M 8 [some (va_rf a0), some (.int x1), some (.int x2), some (.int x3), some (.int x4), some (.int x5), none, none, none, none] []) {a0 : Option Nat} {x1 : Int32} {x2 : Int32} {x3 : Int32} {x4 : Int32} {x5 : Int32} {a6 : Option Nat} {x7 : Int32} {s0 : Int32} {M : gk_M} (h : fn_SD_bestOf_78 k8 a0 x1 x2 x3 x4 x5 a6 x7 s0 M = some ρ) : Gk p l e rm_SD_bestOf s m args below meth c gk_Y Γ 10 (MQ below (gk_Q gk_Y Γ (some (.int ρ.1)) ρ.2) args s rm_SD_bestOf.cells rm_SD_bestOf.slots (fun q => Γ.2.2 ≤ q)) 0 0 M 78 [some (va_rf a0), some (.int x1), some (.int x2), some (.int x3), some (.int x4), some (.int x5), some (va_rf a6), some (.int x7), none, none] [.int s0] := by
  unfold fn_SD_bestOf_78 at h
  refine Gk_istore (L' := [some (va_rf a0), some (.int x1), some (.int x2), some (.int x3), some (.int x4), some (.int x5), some (va_rf a6), some (.int x7), some (.int s0), none]) B d_SD_bestOf_78 (by decide) (gk_c1_i rfl) rfl ?_
  refine Gk_iload (x := s0) B d_SD_bestOf_80 rfl ?_
  refine Gk_ldcw (v := 9018009) B d_SD_bestOf_82 tw_687 ?_
  refine Gk_imul B d_SD_bestOf_85 ?_
  refine Gk_aload_n (i := 0) (r := a0) B d_SD_bestOf_86 rfl rfl ?_
  obtain ⟨v87, h87, h⟩ := gk_bind h
  refine Gk_getR (j := 3) B d_SD_bestOf_87 in_SD cl_SD (by decide) tw_281 rfl h87 ?_
  refine Gk_iload (x := x7) B d_SD_bestOf_90 rfl ?_
  refine Gk_aload (r := a6) B d_SD_bestOf_92 rfl ?_
  obtain ⟨o94, g94, h⟩ := gk_bind h
  obtain ⟨w94, h94, h⟩ := gk_bind h
  refine Gk_callV (As := [.int x7, va_rf a6]) (rest := [.int (s0 * (9018009 : Int32))]) (st1 := [.int w94.1, .int (s0 * (9018009 : Int32))]) (k1 := 0) (n1 := 0) B gk_hG d_SD_bestOf_94 (sn_Accepted_worth h94) g94 cl_Accepted tw_675 tw_688 tw_673 tw_674 tw_44 nm_Accepted_worth rfl (by simp [gk_rc, gk_ic, gk_jc, rm_SD_bestOf]) ⟨by decide, by decide⟩ ⟨by decide, by decide⟩ rfl rfl rfl rfl ?_
  refine Gk_iadd B d_SD_bestOf_97 ?_
  refine Gk_istore (L' := [some (va_rf a0), some (.int x1), some (.int x2), some (.int x3), some (.int x4), some (.int x5), some (va_rf a6), some (.int x7), some (.int s0), some (.int ((s0 * (9018009 : Int32)) + w94.1))]) B d_SD_bestOf_98 (by decide) (gk_c1_i rfl) rfl ?_
  refine Gk_iload (x := ((s0 * (9018009 : Int32)) + w94.1)) B d_SD_bestOf_100 rfl ?_
  refine Gk_iload (x := x4) B d_SD_bestOf_102 rfl ?_
  refine Gk_icmp_le (tgt := 114) B d_SD_bestOf_104 rfl (fun c104 => ?_) (fun c104 => ?_)
  · rw [if_pos c104] at h
    refine Gk_weak [true, true, true, true, true, true, false, false, false, false] (L' := [some (va_rf a0), some (.int x1), some (.int x2), some (.int x3), some (.int x4), some (.int x5), none, none, none, none]) rfl ?_
    exact sn_SD_bestOf_114 B hr H8 h
  rw [if_neg c104] at h
  refine Gk_iload (x := ((s0 * (9018009 : Int32)) + w94.1)) B d_SD_bestOf_107 rfl ?_
  refine Gk_istore (L' := [some (va_rf a0), some (.int x1), some (.int x2), some (.int x3), some (.int ((s0 * (9018009 : Int32)) + w94.1)), some (.int x5), some (va_rf a6), some (.int x7), some (.int s0), some (.int ((s0 * (9018009 : Int32)) + w94.1))]) B d_SD_bestOf_109 (by decide) (gk_c1_i rfl) rfl ?_
  refine Gk_iload (x := x5) B d_SD_bestOf_111 rfl ?_
  refine Gk_istore_n (i := 3) (L' := [some (va_rf a0), some (.int x1), some (.int x2), some (.int x5), some (.int ((s0 * (9018009 : Int32)) + w94.1)), some (.int x5), some (va_rf a6), some (.int x7), some (.int s0), some (.int ((s0 * (9018009 : Int32)) + w94.1))]) B d_SD_bestOf_113 rfl (by decide) (gk_c1_i rfl) rfl ?_
  refine Gk_weak [true, true, true, true, true, true, false, false, false, false] (L' := [some (va_rf a0), some (.int x1), some (.int x2), some (.int x5), some (.int ((s0 * (9018009 : Int32)) + w94.1)), some (.int x5), none, none, none, none]) rfl ?_
  exact sn_SD_bestOf_114 B hr H8 h
set_option maxHeartbeats 4000000 in
set_option maxRecDepth 100000 in
theorem sn_SD_bestOf_54 {l : Launch} {Γ : gk_G} {p : Program} {e : Env} {s : State} {m : MethodId} {args : Array Value} {below : List Frame} {meth : Method} {c : Code} (B : gk_B p s m args meth c gk_Y Γ c_SD_bestOf 10 "StageDispatcher") (hr : meth.sig.returnType = (some .int)) {ρ : Int32 × gk_M} {k8 : Option Nat → Int32 → Int32 → Int32 → Int32 → Int32 → gk_M → Option (Int32 × gk_M)} (H8 : ∀ (a0 : Option Nat) (x1 : Int32) (x2 : Int32) (x3 : Int32) (x4 : Int32) (x5 : Int32) (M : gk_M), k8 a0 x1 x2 x3 x4 x5 M = some ρ → Gk p l e rm_SD_bestOf s m args below meth c gk_Y Γ 10 (MQ below (gk_Q gk_Y Γ (some (.int ρ.1)) ρ.2) args s rm_SD_bestOf.cells rm_SD_bestOf.slots (fun q => Γ.2.2 ≤ q)) 0 0 M 8 [some (va_rf a0), some (.int x1), some (.int x2), some (.int x3), some (.int x4), some (.int x5), none, none, none, none] []) {a0 : Option Nat} {x1 : Int32} {x2 : Int32} {x3 : Int32} {x4 : Int32} {x5 : Int32} {a6 : Option Nat} {s0 : Int32} {M : gk_M} (h : fn_SD_bestOf_54 k8 a0 x1 x2 x3 x4 x5 a6 s0 M = some ρ) : Gk p l e rm_SD_bestOf s m args below meth c gk_Y Γ 10 (MQ below (gk_Q gk_Y Γ (some (.int ρ.1)) ρ.2) args s rm_SD_bestOf.cells rm_SD_bestOf.slots (fun q => Γ.2.2 ≤ q)) 0 0 M 54 [some (va_rf a0), some (.int x1), some (.int x2), some (.int x3), some (.int x4), some (.int x5), some (va_rf a6), none, none, none] [.int s0] := by
  unfold fn_SD_bestOf_54 at h
  refine Gk_istore (L' := [some (va_rf a0), some (.int x1), some (.int x2), some (.int x3), some (.int x4), some (.int x5), some (va_rf a6), some (.int s0), none, none]) B d_SD_bestOf_54 (by decide) (gk_c1_r rfl) rfl ?_
  refine Gk_iload (x := s0) B d_SD_bestOf_56 rfl ?_
  refine Gk_iconst (v := (-1)) B d_SD_bestOf_58 (by decide) ?_
  refine Gk_icmp_eq (tgt := 114) B d_SD_bestOf_59 rfl (fun c59 => ?_) (fun c59 => ?_)
  · rw [if_pos c59] at h
    refine Gk_weak [true, true, true, true, true, true, false, false, false, false] (L' := [some (va_rf a0), some (.int x1), some (.int x2), some (.int x3), some (.int x4), some (.int x5), none, none, none, none]) rfl ?_
    exact sn_SD_bestOf_114 B hr H8 h
  rw [if_neg c59] at h
  refine Gk_iload_n (i := 2) (x := x2) B d_SD_bestOf_62 rfl rfl ?_
  refine Gk_if_eq (tgt := 77) B d_SD_bestOf_63 rfl (fun c63 => ?_) (fun c63 => ?_)
  · rw [if_pos c63] at h
    refine Gk_iconst (v := 0) B d_SD_bestOf_77 (by decide) ?_
    exact sn_SD_bestOf_78 B hr H8 h
  rw [if_neg c63] at h
  refine Gk_aload (r := a6) B d_SD_bestOf_66 rfl ?_
  obtain ⟨v68, h68, h⟩ := gk_bind h
  refine Gk_getI (j := 3) B d_SD_bestOf_68 in_Method cl_Method (by decide) tw_397 rfl h68 ?_
  obtain ⟨w71, h71, h⟩ := gk_bind h
  refine Gk_callS (As := [.int v68]) (rest := []) (st1 := [.int w71.1]) (k1 := 0) (n1 := 0) B gk_hG d_SD_bestOf_71 (sn_SD_rankOf h71) tw_682 tw_686 tw_681 tw_40 nm_SD_rankOf rfl (by decide) ⟨by decide, by decide⟩ ⟨by decide, by decide⟩ rfl rfl rfl rfl ?_
  refine Gk_goto (tgt := 78) B d_SD_bestOf_74 rfl ?_
  exact sn_SD_bestOf_78 B hr H8 h
set_option maxHeartbeats 4000000 in
set_option maxRecDepth 100000 in
theorem sn_SD_bestOf_8_bd {l : Launch} {Γ : gk_G} {p : Program} {e : Env} {s : State} {m : MethodId} {args : Array Value} {below : List Frame} {meth : Method} {c : Code} (B : gk_B p s m args meth c gk_Y Γ c_SD_bestOf 10 "StageDispatcher") (hr : meth.sig.returnType = (some .int)) {ρ : Int32 × gk_M} {k8 : Option Nat → Int32 → Int32 → Int32 → Int32 → Int32 → gk_M → Option (Int32 × gk_M)} (H8 : ∀ (a0 : Option Nat) (x1 : Int32) (x2 : Int32) (x3 : Int32) (x4 : Int32) (x5 : Int32) (M : gk_M), k8 a0 x1 x2 x3 x4 x5 M = some ρ → Gk p l e rm_SD_bestOf s m args below meth c gk_Y Γ 10 (MQ below (gk_Q gk_Y Γ (some (.int ρ.1)) ρ.2) args s rm_SD_bestOf.cells rm_SD_bestOf.slots (fun q => Γ.2.2 ≤ q)) 0 0 M 8 [some (va_rf a0), some (.int x1), some (.int x2), some (.int x3), some (.int x4), some (.int x5), none, none, none, none] []) {a0 : Option Nat} {x1 : Int32} {x2 : Int32} {x3 : Int32} {x4 : Int32} {x5 : Int32} {M : gk_M} (h : fn_SD_bestOf_8_bd k8 a0 x1 x2 x3 x4 x5 M = some ρ) : Gk p l e rm_SD_bestOf s m args below meth c gk_Y Γ 10 (MQ below (gk_Q gk_Y Γ (some (.int ρ.1)) ρ.2) args s rm_SD_bestOf.cells rm_SD_bestOf.slots (fun q => Γ.2.2 ≤ q)) 0 0 M 8 [some (va_rf a0), some (.int x1), some (.int x2), some (.int x3), some (.int x4), some (.int x5), none, none, none, none] [] := by
  unfold fn_SD_bestOf_8_bd at h
  refine Gk_iload (x := x5) B d_SD_bestOf_8 rfl ?_
  refine Gk_aload_n (i := 0) (r := a0) B d_SD_bestOf_10 rfl rfl ?_
  obtain ⟨v11, h11, h⟩ := gk_bind h
  refine Gk_getR (j := 1) B d_SD_bestOf_11 in_SD cl_SD (by decide) tw_279 rfl h11 ?_
  obtain ⟨v14, h14, h⟩ := gk_bind h
  refine Gk_getI (j := 4) B d_SD_bestOf_14 in_Catalog cl_Catalog (by decide) tw_108 rfl h14 ?_
  refine Gk_icmp_ge (tgt := 120) B d_SD_bestOf_17 rfl (fun c17 => ?_) (fun c17 => ?_)
  · rw [if_pos c17] at h
    refine Gk_iload_n (i := 3) (x := x3) B d_SD_bestOf_120 rfl rfl ?_
    cases h
    exact Gk_iret B hr d_SD_bestOf_121 rfl (by decide) (by decide) rfl
  rw [if_neg c17] at h
  refine Gk_aload_n (i := 0) (r := a0) B d_SD_bestOf_20 rfl rfl ?_
  obtain ⟨v21, h21, h⟩ := gk_bind h
  refine Gk_getR (j := 1) B d_SD_bestOf_21 in_SD cl_SD (by decide) tw_279 rfl h21 ?_
  obtain ⟨v24, h24, h⟩ := gk_bind h
  refine Gk_getR (j := 1) B d_SD_bestOf_24 in_Catalog cl_Catalog (by decide) tw_101 rfl h24 ?_
  refine Gk_iload (x := x5) B d_SD_bestOf_27 rfl ?_
  obtain ⟨v29, h29, h⟩ := gk_bind h
  refine Gk_aaload B d_SD_bestOf_29 ty_4 h29 ?_
  refine Gk_astore (L' := [some (va_rf a0), some (.int x1), some (.int x2), some (.int x3), some (.int x4), some (.int x5), some (va_rf v29), none, none, none]) B d_SD_bestOf_30 (by decide) (gk_c1_i rfl) rfl ?_
  refine Gk_iload_n (i := 1) (x := x1) B d_SD_bestOf_32 rfl rfl ?_
  refine Gk_iload (x := x5) B d_SD_bestOf_33 rfl ?_
  obtain ⟨w35, h35, h⟩ := gk_bind h
  refine Gk_callS (As := [.int x1, .int x5]) (rest := []) (st1 := [.int w35.1]) (k1 := 0) (n1 := 0) B gk_hG d_SD_bestOf_35 (sn_SD_holds h35) tw_593 tw_667 tw_592 tw_40 nm_SD_holds rfl (by decide) ⟨by decide, by decide⟩ ⟨by decide, by decide⟩ rfl rfl rfl rfl ?_
  refine Gk_if_eq (tgt := 53) B d_SD_bestOf_38 rfl (fun c38 => ?_) (fun c38 => ?_)
  · rw [if_pos c38] at h
    refine Gk_iconst (v := (-1)) B d_SD_bestOf_53 (by decide) ?_
    exact sn_SD_bestOf_54 B hr H8 h
  rw [if_neg c38] at h
  refine Gk_aload_n (i := 0) (r := a0) B d_SD_bestOf_41 rfl rfl ?_
  obtain ⟨v42, h42, h⟩ := gk_bind h
  refine Gk_getR (j := 3) B d_SD_bestOf_42 in_SD cl_SD (by decide) tw_281 rfl h42 ?_
  refine Gk_aload (r := v29) B d_SD_bestOf_45 rfl ?_
  obtain ⟨o47, g47, h⟩ := gk_bind h
  obtain ⟨w47, h47, h⟩ := gk_bind h
  refine Gk_callV (As := [va_rf v29]) (rest := []) (st1 := [.int w47.1]) (k1 := 0) (n1 := 0) B gk_hG d_SD_bestOf_47 (sn_Accepted_bestFor h47) g47 cl_Accepted tw_671 tw_668 tw_669 tw_670 tw_44 nm_Accepted_bestFor rfl (by decide) ⟨by decide, by decide⟩ ⟨by decide, by decide⟩ rfl rfl rfl rfl ?_
  refine Gk_goto (tgt := 54) B d_SD_bestOf_50 rfl ?_
  exact sn_SD_bestOf_54 B hr H8 h
set_option maxHeartbeats 4000000 in
set_option maxRecDepth 100000 in
theorem sn_SD_bestOf_8 {l : Launch} {Γ : gk_G} {p : Program} {e : Env} {s : State} {m : MethodId} {args : Array Value} {below : List Frame} {meth : Method} {c : Code} (B : gk_B p s m args meth c gk_Y Γ c_SD_bestOf 10 "StageDispatcher") (hr : meth.sig.returnType = (some .int)) {ρ : Int32 × gk_M}   {a0 : Option Nat} {x1 : Int32} {x2 : Int32} {x3 : Int32} {x4 : Int32} {x5 : Int32} {M : gk_M} (h : fn_SD_bestOf_8  a0 x1 x2 x3 x4 x5 M = some ρ) : Gk p l e rm_SD_bestOf s m args below meth c gk_Y Γ 10 (MQ below (gk_Q gk_Y Γ (some (.int ρ.1)) ρ.2) args s rm_SD_bestOf.cells rm_SD_bestOf.slots (fun q => Γ.2.2 ≤ q)) 0 0 M 8 [some (va_rf a0), some (.int x1), some (.int x2), some (.int x3), some (.int x4), some (.int x5), none, none, none, none] [] := by
  unfold fn_SD_bestOf_8 at h
  exact gk_loop_sound (α := Option Nat × Int32 × Int32 × Int32 × Int32 × Int32 × gk_M) (P := fun a => Gk p l e rm_SD_bestOf s m args below meth c gk_Y Γ 10 (MQ below (gk_Q gk_Y Γ (some (.int ρ.1)) ρ.2) args s rm_SD_bestOf.cells rm_SD_bestOf.slots (fun q => Γ.2.2 ≤ q)) 0 0 a.2.2.2.2.2.2 8 [some (va_rf a.1), some (.int a.2.1), some (.int a.2.2.1), some (.int a.2.2.2.1), some (.int a.2.2.2.2.1), some (.int a.2.2.2.2.2.1), none, none, none, none] []) (fun kk a Hk hb => sn_SD_bestOf_8_bd B hr (fun a0 x1 x2 x3 x4 x5 M hh => Hk (a0, x1, x2, x3, x4, x5, M) hh) hb) _ _ h
set_option maxHeartbeats 4000000 in
set_option maxRecDepth 100000 in
theorem sn_SD_bestOf_0 {l : Launch} {Γ : gk_G} {p : Program} {e : Env} {s : State} {m : MethodId} {args : Array Value} {below : List Frame} {meth : Method} {c : Code} (B : gk_B p s m args meth c gk_Y Γ c_SD_bestOf 10 "StageDispatcher") (hr : meth.sig.returnType = (some .int)) {ρ : Int32 × gk_M}   {a0 : Option Nat} {x1 : Int32} {x2 : Int32} {M : gk_M} (h : fn_SD_bestOf  a0 x1 x2 M = some ρ) : Gk p l e rm_SD_bestOf s m args below meth c gk_Y Γ 10 (MQ below (gk_Q gk_Y Γ (some (.int ρ.1)) ρ.2) args s rm_SD_bestOf.cells rm_SD_bestOf.slots (fun q => Γ.2.2 ≤ q)) 0 0 M 0 [some (va_rf a0), some (.int x1), some (.int x2), none, none, none, none, none, none, none] [] := by
  unfold fn_SD_bestOf at h
  refine Gk_iconst (v := (-1)) B d_SD_bestOf_0 (by decide) ?_
  refine Gk_istore_n (i := 3) (L' := [some (va_rf a0), some (.int x1), some (.int x2), some (.int (-1)), none, none, none, none, none, none]) B d_SD_bestOf_1 rfl (by decide) (gk_c1_i rfl) rfl ?_
  refine Gk_iconst (v := (-1)) B d_SD_bestOf_2 (by decide) ?_
  refine Gk_istore (L' := [some (va_rf a0), some (.int x1), some (.int x2), some (.int (-1)), some (.int (-1)), none, none, none, none, none]) B d_SD_bestOf_3 (by decide) (gk_c1_i rfl) rfl ?_
  refine Gk_iconst (v := 0) B d_SD_bestOf_5 (by decide) ?_
  refine Gk_istore (L' := [some (va_rf a0), some (.int x1), some (.int x2), some (.int (-1)), some (.int (-1)), some (.int 0), none, none, none, none]) B d_SD_bestOf_6 (by decide) (gk_c1_i rfl) rfl ?_
  exact sn_SD_bestOf_8 B hr h
theorem sn_SD_bestOf {l : Launch} {Γ : gk_G} {a0 : Option Nat} {x1 : Int32} {x2 : Int32} {M : gk_M} {ρ : Int32 × gk_M} (h : fn_SD_bestOf a0 x1 x2 M = some ρ) : gk_Met l gk_Y Γ y_SD_bestOf (.code y_SD_bestOf c_SD_bestOf 10 (some .int) :: gk_Y.2.2.2) rm_SD_bestOf [va_rf a0, .int x1, .int x2] M (some (.int ρ.1)) ρ.2 :=
  gk_start (by decide) (by simp [lg_sl, gk_rc, gk_ic, gk_jc]) [some (va_rf a0), some (.int x1), some (.int x2), none, none, none, none, none, none, none] (by simp [gk_as, lv_args, gk_rc, gk_ic, gk_jc]) (fun p e s m args below meth c B hr hin => sn_SD_bestOf_0 B hr h)
theorem d_SD_answeredType_0 : decode c_SD_answeredType 0 = .ok (.aload_n 0, 1) := by decide +kernel
theorem d_SD_answeredType_1 : decode c_SD_answeredType 1 = .ok (.getfield 33, 3) := by decide +kernel
theorem d_SD_answeredType_4 : decode c_SD_answeredType 4 = .ok (.aload_n 1, 1) := by decide +kernel
theorem d_SD_answeredType_5 : decode c_SD_answeredType 5 = .ok (.invokevirtual 291, 3) := by decide +kernel
theorem d_SD_answeredType_8 : decode c_SD_answeredType 8 = .ok (.istore_n 2, 1) := by decide +kernel
theorem d_SD_answeredType_9 : decode c_SD_answeredType 9 = .ok (.iload_n 2, 1) := by decide +kernel
theorem d_SD_answeredType_10 : decode c_SD_answeredType 10 = .ok (.iconst (-1), 1) := by decide +kernel
theorem d_SD_answeredType_11 : decode c_SD_answeredType 11 = .ok (.if_icmp .ne 7, 3) := by decide +kernel
theorem d_SD_answeredType_14 : decode c_SD_answeredType 14 = .ok (.iconst (-1), 1) := by decide +kernel
theorem d_SD_answeredType_15 : decode c_SD_answeredType 15 = .ok (.goto 19, 3) := by decide +kernel
theorem d_SD_answeredType_18 : decode c_SD_answeredType 18 = .ok (.aload_n 0, 1) := by decide +kernel
theorem d_SD_answeredType_19 : decode c_SD_answeredType 19 = .ok (.getfield 33, 3) := by decide +kernel
theorem d_SD_answeredType_22 : decode c_SD_answeredType 22 = .ok (.getfield 305, 3) := by decide +kernel
theorem d_SD_answeredType_25 : decode c_SD_answeredType 25 = .ok (.iload_n 2, 1) := by decide +kernel
theorem d_SD_answeredType_26 : decode c_SD_answeredType 26 = .ok (.iaload, 1) := by decide +kernel
theorem d_SD_answeredType_27 : decode c_SD_answeredType 27 = .ok (.aload_n 1, 1) := by decide +kernel
theorem d_SD_answeredType_28 : decode c_SD_answeredType 28 = .ok (.getfield 308, 3) := by decide +kernel
theorem d_SD_answeredType_31 : decode c_SD_answeredType 31 = .ok (.invokestatic 311, 3) := by decide +kernel
theorem d_SD_answeredType_34 : decode c_SD_answeredType 34 = .ok (.istore_n 3, 1) := by decide +kernel
theorem d_SD_answeredType_35 : decode c_SD_answeredType 35 = .ok (.iload_n 3, 1) := by decide +kernel
theorem d_SD_answeredType_36 : decode c_SD_answeredType 36 = .ok (.ifCond .eq 9, 3) := by decide +kernel
theorem d_SD_answeredType_39 : decode c_SD_answeredType 39 = .ok (.iload_n 3, 1) := by decide +kernel
theorem d_SD_answeredType_40 : decode c_SD_answeredType 40 = .ok (.bipush 16, 2) := by decide +kernel
theorem d_SD_answeredType_42 : decode c_SD_answeredType 42 = .ok (.if_icmp .ne 7, 3) := by decide +kernel
theorem d_SD_answeredType_45 : decode c_SD_answeredType 45 = .ok (.sipush 255, 3) := by decide +kernel
theorem d_SD_answeredType_48 : decode c_SD_answeredType 48 = .ok (.ireturn, 1) := by decide +kernel
theorem d_SD_answeredType_49 : decode c_SD_answeredType 49 = .ok (.iload_n 3, 1) := by decide +kernel
theorem d_SD_answeredType_50 : decode c_SD_answeredType 50 = .ok (.invokestatic 159, 3) := by decide +kernel
theorem d_SD_answeredType_53 : decode c_SD_answeredType 53 = .ok (.ifCond .eq 7, 3) := by decide +kernel
theorem d_SD_answeredType_56 : decode c_SD_answeredType 56 = .ok (.iload_n 3, 1) := by decide +kernel
theorem d_SD_answeredType_57 : decode c_SD_answeredType 57 = .ok (.goto 4, 3) := by decide +kernel
theorem d_SD_answeredType_60 : decode c_SD_answeredType 60 = .ok (.iconst (-1), 1) := by decide +kernel
theorem d_SD_answeredType_61 : decode c_SD_answeredType 61 = .ok (.ireturn, 1) := by decide +kernel
set_option maxHeartbeats 4000000 in
set_option maxRecDepth 100000 in
theorem sn_SD_answeredType_45 {l : Launch} {Γ : gk_G} {p : Program} {e : Env} {s : State} {m : MethodId} {args : Array Value} {below : List Frame} {meth : Method} {c : Code} (B : gk_B p s m args meth c gk_Y Γ c_SD_answeredType 4 "StageDispatcher") (hr : meth.sig.returnType = (some .int)) {ρ : Int32 × gk_M}    {M : gk_M} (h : fn_SD_answeredType_45   M = some ρ) : Gk p l e rm_SD_answeredType s m args below meth c gk_Y Γ 4 (MQ below (gk_Q gk_Y Γ (some (.int ρ.1)) ρ.2) args s rm_SD_answeredType.cells rm_SD_answeredType.slots (fun q => Γ.2.2 ≤ q)) 0 0 M 45 [none, none, none, none] [] := by
  unfold fn_SD_answeredType_45 at h
  refine Gk_sipush (v := 255) B d_SD_answeredType_45 (by decide) ?_
  cases h
  exact Gk_iret B hr d_SD_answeredType_48 rfl (by decide) (by decide) rfl
set_option maxHeartbeats 4000000 in
set_option maxRecDepth 100000 in
theorem sn_SD_answeredType_34 {l : Launch} {Γ : gk_G} {p : Program} {e : Env} {s : State} {m : MethodId} {args : Array Value} {below : List Frame} {meth : Method} {c : Code} (B : gk_B p s m args meth c gk_Y Γ c_SD_answeredType 4 "StageDispatcher") (hr : meth.sig.returnType = (some .int)) {ρ : Int32 × gk_M}   {s0 : Int32} {M : gk_M} (h : fn_SD_answeredType_34  s0 M = some ρ) : Gk p l e rm_SD_answeredType s m args below meth c gk_Y Γ 4 (MQ below (gk_Q gk_Y Γ (some (.int ρ.1)) ρ.2) args s rm_SD_answeredType.cells rm_SD_answeredType.slots (fun q => Γ.2.2 ≤ q)) 0 0 M 34 [none, none, none, none] [.int s0] := by
  unfold fn_SD_answeredType_34 at h
  refine Gk_istore_n (i := 3) (L' := [none, none, none, some (.int s0)]) B d_SD_answeredType_34 rfl (by decide) (gk_c1_n rfl) rfl ?_
  refine Gk_iload_n (i := 3) (x := s0) B d_SD_answeredType_35 rfl rfl ?_
  refine Gk_if_eq (tgt := 45) B d_SD_answeredType_36 rfl (fun c36 => ?_) (fun c36 => ?_)
  · rw [if_pos c36] at h
    refine Gk_weak [false, false, false, false] (L' := [none, none, none, none]) rfl ?_
    exact sn_SD_answeredType_45 B hr h
  rw [if_neg c36] at h
  refine Gk_iload_n (i := 3) (x := s0) B d_SD_answeredType_39 rfl rfl ?_
  refine Gk_bipush (v := 16) B d_SD_answeredType_40 (by decide) ?_
  refine Gk_icmp_ne (tgt := 49) B d_SD_answeredType_42 rfl (fun c42 => ?_) (fun c42 => ?_)
  · rw [if_neg c42] at h
    refine Gk_iload_n (i := 3) (x := s0) B d_SD_answeredType_49 rfl rfl ?_
    obtain ⟨w50, h50, h⟩ := gk_bind h
    refine Gk_callS (As := [.int s0]) (rest := []) (st1 := [.int w50.1]) (k1 := 0) (n1 := 0) B gk_hG d_SD_answeredType_50 (sn_SD_isConcrete h50) tw_531 tw_529 tw_530 tw_40 nm_SD_isConcrete rfl (by decide) ⟨by decide, by decide⟩ ⟨by decide, by decide⟩ rfl rfl rfl rfl ?_
    refine Gk_if_eq (tgt := 60) B d_SD_answeredType_53 rfl (fun c53 => ?_) (fun c53 => ?_)
    · rw [if_pos c53] at h
      refine Gk_iconst (v := (-1)) B d_SD_answeredType_60 (by decide) ?_
      cases h
      exact Gk_iret B hr d_SD_answeredType_61 rfl (by decide) (by decide) rfl
    rw [if_neg c53] at h
    refine Gk_iload_n (i := 3) (x := s0) B d_SD_answeredType_56 rfl rfl ?_
    refine Gk_goto (tgt := 61) B d_SD_answeredType_57 rfl ?_
    cases h
    exact Gk_iret B hr d_SD_answeredType_61 rfl (by decide) (by decide) rfl
  rw [if_pos c42] at h
  refine Gk_weak [false, false, false, false] (L' := [none, none, none, none]) rfl ?_
  exact sn_SD_answeredType_45 B hr h
set_option maxHeartbeats 4000000 in
set_option maxRecDepth 100000 in
theorem sn_SD_answeredType_0 {l : Launch} {Γ : gk_G} {p : Program} {e : Env} {s : State} {m : MethodId} {args : Array Value} {below : List Frame} {meth : Method} {c : Code} (B : gk_B p s m args meth c gk_Y Γ c_SD_answeredType 4 "StageDispatcher") (hr : meth.sig.returnType = (some .int)) {ρ : Int32 × gk_M}   {a0 : Option Nat} {a1 : Option Nat} {M : gk_M} (h : fn_SD_answeredType  a0 a1 M = some ρ) : Gk p l e rm_SD_answeredType s m args below meth c gk_Y Γ 4 (MQ below (gk_Q gk_Y Γ (some (.int ρ.1)) ρ.2) args s rm_SD_answeredType.cells rm_SD_answeredType.slots (fun q => Γ.2.2 ≤ q)) 0 0 M 0 [some (va_rf a0), some (va_rf a1), none, none] [] := by
  unfold fn_SD_answeredType at h
  refine Gk_aload_n (i := 0) (r := a0) B d_SD_answeredType_0 rfl rfl ?_
  obtain ⟨v1, h1, h⟩ := gk_bind h
  refine Gk_getR (j := 3) B d_SD_answeredType_1 in_SD cl_SD (by decide) tw_281 rfl h1 ?_
  refine Gk_aload_n (i := 1) (r := a1) B d_SD_answeredType_4 rfl rfl ?_
  obtain ⟨o5, g5, h⟩ := gk_bind h
  obtain ⟨w5, h5, h⟩ := gk_bind h
  refine Gk_callV (As := [va_rf a1]) (rest := []) (st1 := [.int w5.1]) (k1 := 0) (n1 := 0) B gk_hG d_SD_answeredType_5 (sn_Accepted_bestFor h5) g5 cl_Accepted tw_671 tw_668 tw_669 tw_670 tw_44 nm_Accepted_bestFor rfl (by decide) ⟨by decide, by decide⟩ ⟨by decide, by decide⟩ rfl rfl rfl rfl ?_
  refine Gk_istore_n (i := 2) (L' := [some (va_rf a0), some (va_rf a1), some (.int w5.1), none]) B d_SD_answeredType_8 rfl (by decide) (gk_c1_r rfl) rfl ?_
  refine Gk_iload_n (i := 2) (x := w5.1) B d_SD_answeredType_9 rfl rfl ?_
  refine Gk_iconst (v := (-1)) B d_SD_answeredType_10 (by decide) ?_
  refine Gk_icmp_ne (tgt := 18) B d_SD_answeredType_11 rfl (fun c11 => ?_) (fun c11 => ?_)
  · rw [if_neg c11] at h
    refine Gk_aload_n (i := 0) (r := a0) B d_SD_answeredType_18 rfl rfl ?_
    obtain ⟨v19, h19, h⟩ := gk_bind h
    refine Gk_getR (j := 3) B d_SD_answeredType_19 in_SD cl_SD (by decide) tw_281 rfl h19 ?_
    obtain ⟨v22, h22, h⟩ := gk_bind h
    refine Gk_getR (j := 0) B d_SD_answeredType_22 in_Accepted cl_Accepted (by decide) tw_159 rfl h22 ?_
    refine Gk_iload_n (i := 2) (x := w5.1) B d_SD_answeredType_25 rfl rfl ?_
    obtain ⟨v26, h26, h⟩ := gk_bind h
    refine Gk_iaload B d_SD_answeredType_26 ty_0 h26 ?_
    refine Gk_aload_n (i := 1) (r := a1) B d_SD_answeredType_27 rfl rfl ?_
    obtain ⟨v28, h28, h⟩ := gk_bind h
    refine Gk_getI (j := 4) B d_SD_answeredType_28 in_Method cl_Method (by decide) tw_400 rfl h28 ?_
    obtain ⟨w31, h31, h⟩ := gk_bind h
    refine Gk_callS (As := [.int v26, .int v28]) (rest := []) (st1 := [.int w31.1]) (k1 := 0) (n1 := 0) B gk_hG d_SD_answeredType_31 (sn_SD_meeting h31) tw_678 tw_693 tw_677 tw_40 nm_SD_meeting rfl (by decide) ⟨by decide, by decide⟩ ⟨by decide, by decide⟩ rfl rfl rfl rfl ?_
    refine Gk_weak [false, false, false, false] (L' := [none, none, none, none]) rfl ?_
    exact sn_SD_answeredType_34 B hr h
  rw [if_pos c11] at h
  refine Gk_iconst (v := (-1)) B d_SD_answeredType_14 (by decide) ?_
  refine Gk_goto (tgt := 34) B d_SD_answeredType_15 rfl ?_
  refine Gk_weak [false, false, false, false] (L' := [none, none, none, none]) rfl ?_
  exact sn_SD_answeredType_34 B hr h
theorem sn_SD_answeredType {l : Launch} {Γ : gk_G} {a0 : Option Nat} {a1 : Option Nat} {M : gk_M} {ρ : Int32 × gk_M} (h : fn_SD_answeredType a0 a1 M = some ρ) : gk_Met l gk_Y Γ y_SD_answeredType (.code y_SD_answeredType c_SD_answeredType 4 (some .int) :: gk_Y.2.2.2) rm_SD_answeredType [va_rf a0, va_rf a1] M (some (.int ρ.1)) ρ.2 :=
  gk_start (by decide) (by simp [lg_sl, gk_rc, gk_ic, gk_jc]) [some (va_rf a0), some (va_rf a1), none, none] (by simp [gk_as, lv_args, gk_rc, gk_ic, gk_jc]) (fun p e s m args below meth c B hr hin => sn_SD_answeredType_0 B hr h)
theorem d_SD_choose_0 : decode c_SD_choose 0 = .ok (.aload_n 0, 1) := by decide +kernel
theorem d_SD_choose_1 : decode c_SD_choose 1 = .ok (.getfield 47, 3) := by decide +kernel
theorem d_SD_choose_4 : decode c_SD_choose 4 = .ok (.aload_n 0, 1) := by decide +kernel
theorem d_SD_choose_5 : decode c_SD_choose 5 = .ok (.getfield 19, 3) := by decide +kernel
theorem d_SD_choose_8 : decode c_SD_choose 8 = .ok (.iload_n 1, 1) := by decide +kernel
theorem d_SD_choose_9 : decode c_SD_choose 9 = .ok (.invokevirtual 270, 3) := by decide +kernel
theorem d_SD_choose_12 : decode c_SD_choose 12 = .ok (.putfield 204, 3) := by decide +kernel
theorem d_SD_choose_15 : decode c_SD_choose 15 = .ok (.aload_n 0, 1) := by decide +kernel
theorem d_SD_choose_16 : decode c_SD_choose 16 = .ok (.getfield 19, 3) := by decide +kernel
theorem d_SD_choose_19 : decode c_SD_choose 19 = .ok (.iload_n 1, 1) := by decide +kernel
theorem d_SD_choose_20 : decode c_SD_choose 20 = .ok (.iload_n 2, 1) := by decide +kernel
theorem d_SD_choose_21 : decode c_SD_choose 21 = .ok (.invokevirtual 273, 3) := by decide +kernel
theorem d_SD_choose_24 : decode c_SD_choose 24 = .ok (.istore 4, 2) := by decide +kernel
theorem d_SD_choose_26 : decode c_SD_choose 26 = .ok (.iload 4, 2) := by decide +kernel
theorem d_SD_choose_28 : decode c_SD_choose 28 = .ok (.ifCond .ne 19, 3) := by decide +kernel
theorem d_SD_choose_31 : decode c_SD_choose 31 = .ok (.iload_n 2, 1) := by decide +kernel
theorem d_SD_choose_32 : decode c_SD_choose 32 = .ok (.iconst 4, 1) := by decide +kernel
theorem d_SD_choose_33 : decode c_SD_choose 33 = .ok (.if_icmp .ne 14, 3) := by decide +kernel
theorem d_SD_choose_36 : decode c_SD_choose 36 = .ok (.aload_n 0, 1) := by decide +kernel
theorem d_SD_choose_37 : decode c_SD_choose 37 = .ok (.getfield 19, 3) := by decide +kernel
theorem d_SD_choose_40 : decode c_SD_choose 40 = .ok (.iload_n 1, 1) := by decide +kernel
theorem d_SD_choose_41 : decode c_SD_choose 41 = .ok (.iconst 0, 1) := by decide +kernel
theorem d_SD_choose_42 : decode c_SD_choose 42 = .ok (.invokevirtual 273, 3) := by decide +kernel
theorem d_SD_choose_45 : decode c_SD_choose 45 = .ok (.istore 4, 2) := by decide +kernel
theorem d_SD_choose_47 : decode c_SD_choose 47 = .ok (.iload 4, 2) := by decide +kernel
theorem d_SD_choose_49 : decode c_SD_choose 49 = .ok (.ifCond .ne 15, 3) := by decide +kernel
theorem d_SD_choose_52 : decode c_SD_choose 52 = .ok (.iload_n 2, 1) := by decide +kernel
theorem d_SD_choose_53 : decode c_SD_choose 53 = .ok (.iconst 5, 1) := by decide +kernel
theorem d_SD_choose_54 : decode c_SD_choose 54 = .ok (.if_icmp .ne 7, 3) := by decide +kernel
theorem d_SD_choose_57 : decode c_SD_choose 57 = .ok (.iconst 0, 1) := by decide +kernel
theorem d_SD_choose_58 : decode c_SD_choose 58 = .ok (.goto 5, 3) := by decide +kernel
theorem d_SD_choose_61 : decode c_SD_choose 61 = .ok (.bipush 9, 2) := by decide +kernel
theorem d_SD_choose_63 : decode c_SD_choose 63 = .ok (.ireturn, 1) := by decide +kernel
theorem d_SD_choose_64 : decode c_SD_choose 64 = .ok (.aload_n 0, 1) := by decide +kernel
theorem d_SD_choose_65 : decode c_SD_choose 65 = .ok (.getfield 19, 3) := by decide +kernel
theorem d_SD_choose_68 : decode c_SD_choose 68 = .ok (.iload 4, 2) := by decide +kernel
theorem d_SD_choose_70 : decode c_SD_choose 70 = .ok (.iload_n 3, 1) := by decide +kernel
theorem d_SD_choose_71 : decode c_SD_choose 71 = .ok (.invokevirtual 277, 3) := by decide +kernel
theorem d_SD_choose_74 : decode c_SD_choose 74 = .ok (.istore 4, 2) := by decide +kernel
theorem d_SD_choose_76 : decode c_SD_choose 76 = .ok (.iload 4, 2) := by decide +kernel
theorem d_SD_choose_78 : decode c_SD_choose 78 = .ok (.ifCond .ne 6, 3) := by decide +kernel
theorem d_SD_choose_81 : decode c_SD_choose 81 = .ok (.bipush 11, 2) := by decide +kernel
theorem d_SD_choose_83 : decode c_SD_choose 83 = .ok (.ireturn, 1) := by decide +kernel
theorem d_SD_choose_84 : decode c_SD_choose 84 = .ok (.aload_n 0, 1) := by decide +kernel
theorem d_SD_choose_85 : decode c_SD_choose 85 = .ok (.iload 4, 2) := by decide +kernel
theorem d_SD_choose_87 : decode c_SD_choose 87 = .ok (.iload_n 3, 1) := by decide +kernel
theorem d_SD_choose_88 : decode c_SD_choose 88 = .ok (.ifCond .eq 7, 3) := by decide +kernel
theorem d_SD_choose_91 : decode c_SD_choose 91 = .ok (.iconst 1, 1) := by decide +kernel
theorem d_SD_choose_92 : decode c_SD_choose 92 = .ok (.goto 4, 3) := by decide +kernel
theorem d_SD_choose_95 : decode c_SD_choose 95 = .ok (.iconst 0, 1) := by decide +kernel
theorem d_SD_choose_96 : decode c_SD_choose 96 = .ok (.invokevirtual 280, 3) := by decide +kernel
theorem d_SD_choose_99 : decode c_SD_choose 99 = .ok (.istore 5, 2) := by decide +kernel
theorem d_SD_choose_101 : decode c_SD_choose 101 = .ok (.iload 5, 2) := by decide +kernel
theorem d_SD_choose_103 : decode c_SD_choose 103 = .ok (.iconst (-1), 1) := by decide +kernel
theorem d_SD_choose_104 : decode c_SD_choose 104 = .ok (.if_icmp .ne 7, 3) := by decide +kernel
theorem d_SD_choose_107 : decode c_SD_choose 107 = .ok (.iconst (-1), 1) := by decide +kernel
theorem d_SD_choose_108 : decode c_SD_choose 108 = .ok (.goto 17, 3) := by decide +kernel
theorem d_SD_choose_111 : decode c_SD_choose 111 = .ok (.aload_n 0, 1) := by decide +kernel
theorem d_SD_choose_112 : decode c_SD_choose 112 = .ok (.aload_n 0, 1) := by decide +kernel
theorem d_SD_choose_113 : decode c_SD_choose 113 = .ok (.getfield 19, 3) := by decide +kernel
theorem d_SD_choose_116 : decode c_SD_choose 116 = .ok (.getfield 111, 3) := by decide +kernel
theorem d_SD_choose_119 : decode c_SD_choose 119 = .ok (.iload 5, 2) := by decide +kernel
theorem d_SD_choose_121 : decode c_SD_choose 121 = .ok (.aaload, 1) := by decide +kernel
theorem d_SD_choose_122 : decode c_SD_choose 122 = .ok (.invokevirtual 284, 3) := by decide +kernel
theorem d_SD_choose_125 : decode c_SD_choose 125 = .ok (.istore 6, 2) := by decide +kernel
theorem d_SD_choose_127 : decode c_SD_choose 127 = .ok (.iload 6, 2) := by decide +kernel
theorem d_SD_choose_129 : decode c_SD_choose 129 = .ok (.iconst (-1), 1) := by decide +kernel
theorem d_SD_choose_130 : decode c_SD_choose 130 = .ok (.if_icmp .ne 6, 3) := by decide +kernel
theorem d_SD_choose_133 : decode c_SD_choose 133 = .ok (.bipush 10, 2) := by decide +kernel
theorem d_SD_choose_135 : decode c_SD_choose 135 = .ok (.ireturn, 1) := by decide +kernel
theorem d_SD_choose_136 : decode c_SD_choose 136 = .ok (.aload_n 0, 1) := by decide +kernel
theorem d_SD_choose_137 : decode c_SD_choose 137 = .ok (.getfield 47, 3) := by decide +kernel
theorem d_SD_choose_140 : decode c_SD_choose 140 = .ok (.iload 5, 2) := by decide +kernel
theorem d_SD_choose_142 : decode c_SD_choose 142 = .ok (.putfield 236, 3) := by decide +kernel
theorem d_SD_choose_145 : decode c_SD_choose 145 = .ok (.aload_n 0, 1) := by decide +kernel
theorem d_SD_choose_146 : decode c_SD_choose 146 = .ok (.getfield 47, 3) := by decide +kernel
theorem d_SD_choose_149 : decode c_SD_choose 149 = .ok (.iload 6, 2) := by decide +kernel
theorem d_SD_choose_151 : decode c_SD_choose 151 = .ok (.putfield 207, 3) := by decide +kernel
theorem d_SD_choose_154 : decode c_SD_choose 154 = .ok (.iconst 0, 1) := by decide +kernel
theorem d_SD_choose_155 : decode c_SD_choose 155 = .ok (.ireturn, 1) := by decide +kernel
set_option maxHeartbeats 4000000 in
set_option maxRecDepth 100000 in
theorem sn_SD_choose_125 {l : Launch} {Γ : gk_G} {p : Program} {e : Env} {s : State} {m : MethodId} {args : Array Value} {below : List Frame} {meth : Method} {c : Code} (B : gk_B p s m args meth c gk_Y Γ c_SD_choose 7 "StageDispatcher") (hr : meth.sig.returnType = (some .int)) {ρ : Int32 × gk_M}   {a0 : Option Nat} {x5 : Int32} {s0 : Int32} {M : gk_M} (h : fn_SD_choose_125  a0 x5 s0 M = some ρ) : Gk p l e rm_SD_choose s m args below meth c gk_Y Γ 7 (MQ below (gk_Q gk_Y Γ (some (.int ρ.1)) ρ.2) args s rm_SD_choose.cells rm_SD_choose.slots (fun q => Γ.2.2 ≤ q)) 0 0 M 125 [some (va_rf a0), none, none, none, none, some (.int x5), none] [.int s0] := by
  unfold fn_SD_choose_125 at h
  refine Gk_istore (L' := [some (va_rf a0), none, none, none, none, some (.int x5), some (.int s0)]) B d_SD_choose_125 (by decide) (gk_c1_i rfl) rfl ?_
  refine Gk_iload (x := s0) B d_SD_choose_127 rfl ?_
  refine Gk_iconst (v := (-1)) B d_SD_choose_129 (by decide) ?_
  refine Gk_icmp_ne (tgt := 136) B d_SD_choose_130 rfl (fun c130 => ?_) (fun c130 => ?_)
  · rw [if_neg c130] at h
    refine Gk_aload_n (i := 0) (r := a0) B d_SD_choose_136 rfl rfl ?_
    obtain ⟨v137, h137, h⟩ := gk_bind h
    refine Gk_getR (j := 5) B d_SD_choose_137 in_SD cl_SD (by decide) tw_283 rfl h137 ?_
    refine Gk_iload (x := x5) B d_SD_choose_140 rfl ?_
    obtain ⟨M142, h142, h⟩ := gk_bind h
    refine Gk_put (j := 8) (ty := .int) B d_SD_choose_142 in_Outcome t_Outcome t_Outcome_ok n_Outcome cl_Outcome (by decide) tw_242 rfl rfl rfl rfl rfl h142 ?_
    refine Gk_aload_n (i := 0) (r := a0) B d_SD_choose_145 rfl rfl ?_
    obtain ⟨v146, h146, h⟩ := gk_bind h
    refine Gk_getR (j := 5) B d_SD_choose_146 in_SD cl_SD (by decide) tw_283 rfl h146 ?_
    refine Gk_iload (x := s0) B d_SD_choose_149 rfl ?_
    obtain ⟨M151, h151, h⟩ := gk_bind h
    refine Gk_put (j := 12) (ty := .int) B d_SD_choose_151 in_Outcome t_Outcome t_Outcome_ok n_Outcome cl_Outcome (by decide) tw_250 rfl rfl rfl rfl rfl h151 ?_
    refine Gk_iconst (v := 0) B d_SD_choose_154 (by decide) ?_
    cases h
    exact Gk_iret B hr d_SD_choose_155 rfl (by decide) (by decide) rfl
  rw [if_pos c130] at h
  refine Gk_bipush (v := 10) B d_SD_choose_133 (by decide) ?_
  cases h
  exact Gk_iret B hr d_SD_choose_135 rfl (by decide) (by decide) rfl
set_option maxHeartbeats 4000000 in
set_option maxRecDepth 100000 in
theorem sn_SD_choose_96 {l : Launch} {Γ : gk_G} {p : Program} {e : Env} {s : State} {m : MethodId} {args : Array Value} {below : List Frame} {meth : Method} {c : Code} (B : gk_B p s m args meth c gk_Y Γ c_SD_choose 7 "StageDispatcher") (hr : meth.sig.returnType = (some .int)) {ρ : Int32 × gk_M}   {a0 : Option Nat} {s0 : Option Nat} {s1 : Int32} {s2 : Int32} {M : gk_M} (h : fn_SD_choose_96  a0 s0 s1 s2 M = some ρ) : Gk p l e rm_SD_choose s m args below meth c gk_Y Γ 7 (MQ below (gk_Q gk_Y Γ (some (.int ρ.1)) ρ.2) args s rm_SD_choose.cells rm_SD_choose.slots (fun q => Γ.2.2 ≤ q)) 0 0 M 96 [some (va_rf a0), none, none, none, none, none, none] [.int s2, .int s1, va_rf s0] := by
  unfold fn_SD_choose_96 at h
  obtain ⟨o96, g96, h⟩ := gk_bind h
  obtain ⟨w96, h96, h⟩ := gk_bind h
  refine Gk_callV (As := [.int s1, .int s2]) (rest := []) (st1 := [.int w96.1]) (k1 := 0) (n1 := 0) B gk_hG d_SD_choose_96 (sn_SD_bestOf h96) g96 cl_SD tw_666 tw_663 tw_665 tw_8 tw_40 nm_SD_bestOf rfl (by decide) ⟨by decide, by decide⟩ ⟨by decide, by decide⟩ rfl rfl rfl rfl ?_
  refine Gk_istore (L' := [some (va_rf a0), none, none, none, none, some (.int w96.1), none]) B d_SD_choose_99 (by decide) (gk_c1_n rfl) rfl ?_
  refine Gk_iload (x := w96.1) B d_SD_choose_101 rfl ?_
  refine Gk_iconst (v := (-1)) B d_SD_choose_103 (by decide) ?_
  refine Gk_icmp_ne (tgt := 111) B d_SD_choose_104 rfl (fun c104 => ?_) (fun c104 => ?_)
  · rw [if_neg c104] at h
    refine Gk_aload_n (i := 0) (r := a0) B d_SD_choose_111 rfl rfl ?_
    refine Gk_aload_n (i := 0) (r := a0) B d_SD_choose_112 rfl rfl ?_
    obtain ⟨v113, h113, h⟩ := gk_bind h
    refine Gk_getR (j := 1) B d_SD_choose_113 in_SD cl_SD (by decide) tw_279 rfl h113 ?_
    obtain ⟨v116, h116, h⟩ := gk_bind h
    refine Gk_getR (j := 1) B d_SD_choose_116 in_Catalog cl_Catalog (by decide) tw_101 rfl h116 ?_
    refine Gk_iload (x := w96.1) B d_SD_choose_119 rfl ?_
    obtain ⟨v121, h121, h⟩ := gk_bind h
    refine Gk_aaload B d_SD_choose_121 ty_4 h121 ?_
    obtain ⟨o122, g122, h⟩ := gk_bind h
    obtain ⟨w122, h122, h⟩ := gk_bind h
    refine Gk_callV (As := [va_rf v121]) (rest := []) (st1 := [.int w122.1]) (k1 := 0) (n1 := 0) B gk_hG d_SD_choose_122 (sn_SD_answeredType h122) g122 cl_SD tw_692 tw_689 tw_691 tw_9 tw_40 nm_SD_answeredType rfl (by decide) ⟨by decide, by decide⟩ ⟨by decide, by decide⟩ rfl rfl rfl rfl ?_
    exact sn_SD_choose_125 B hr h
  rw [if_pos c104] at h
  refine Gk_iconst (v := (-1)) B d_SD_choose_107 (by decide) ?_
  refine Gk_goto (tgt := 125) B d_SD_choose_108 rfl ?_
  exact sn_SD_choose_125 B hr h
set_option maxHeartbeats 4000000 in
set_option maxRecDepth 100000 in
theorem sn_SD_choose_47 {l : Launch} {Γ : gk_G} {p : Program} {e : Env} {s : State} {m : MethodId} {args : Array Value} {below : List Frame} {meth : Method} {c : Code} (B : gk_B p s m args meth c gk_Y Γ c_SD_choose 7 "StageDispatcher") (hr : meth.sig.returnType = (some .int)) {ρ : Int32 × gk_M}   {a0 : Option Nat} {x2 : Int32} {x3 : Int32} {x4 : Int32} {M : gk_M} (h : fn_SD_choose_47  a0 x2 x3 x4 M = some ρ) : Gk p l e rm_SD_choose s m args below meth c gk_Y Γ 7 (MQ below (gk_Q gk_Y Γ (some (.int ρ.1)) ρ.2) args s rm_SD_choose.cells rm_SD_choose.slots (fun q => Γ.2.2 ≤ q)) 0 0 M 47 [some (va_rf a0), none, some (.int x2), some (.int x3), some (.int x4), none, none] [] := by
  unfold fn_SD_choose_47 at h
  refine Gk_iload (x := x4) B d_SD_choose_47 rfl ?_
  refine Gk_if_ne (tgt := 64) B d_SD_choose_49 rfl (fun c49 => ?_) (fun c49 => ?_)
  · rw [if_neg c49] at h
    refine Gk_aload_n (i := 0) (r := a0) B d_SD_choose_64 rfl rfl ?_
    obtain ⟨v65, h65, h⟩ := gk_bind h
    refine Gk_getR (j := 1) B d_SD_choose_65 in_SD cl_SD (by decide) tw_279 rfl h65 ?_
    refine Gk_iload (x := x4) B d_SD_choose_68 rfl ?_
    refine Gk_iload_n (i := 3) (x := x3) B d_SD_choose_70 rfl rfl ?_
    obtain ⟨o71, g71, h⟩ := gk_bind h
    obtain ⟨w71, h71, h⟩ := gk_bind h
    refine Gk_callV (As := [.int x4, .int x3]) (rest := []) (st1 := [.int w71.1]) (k1 := 0) (n1 := 0) B gk_hG d_SD_choose_71 (sn_Catalog_consuming h71) g71 cl_Catalog tw_659 tw_656 tw_657 tw_658 tw_42 nm_Catalog_consuming rfl (by decide) ⟨by decide, by decide⟩ ⟨by decide, by decide⟩ rfl rfl rfl rfl ?_
    refine Gk_istore (L' := [some (va_rf a0), none, some (.int x2), some (.int x3), some (.int w71.1), none, none]) B d_SD_choose_74 (by decide) (gk_c1_i rfl) rfl ?_
    refine Gk_iload (x := w71.1) B d_SD_choose_76 rfl ?_
    refine Gk_if_ne (tgt := 84) B d_SD_choose_78 rfl (fun c78 => ?_) (fun c78 => ?_)
    · rw [if_neg c78] at h
      refine Gk_aload_n (i := 0) (r := a0) B d_SD_choose_84 rfl rfl ?_
      refine Gk_iload (x := w71.1) B d_SD_choose_85 rfl ?_
      refine Gk_iload_n (i := 3) (x := x3) B d_SD_choose_87 rfl rfl ?_
      refine Gk_if_eq (tgt := 95) B d_SD_choose_88 rfl (fun c88 => ?_) (fun c88 => ?_)
      · rw [if_pos c88] at h
        refine Gk_iconst (v := 0) B d_SD_choose_95 (by decide) ?_
        refine Gk_weak [true, false, false, false, false, false, false] (L' := [some (va_rf a0), none, none, none, none, none, none]) rfl ?_
        exact sn_SD_choose_96 B hr h
      rw [if_neg c88] at h
      refine Gk_iconst (v := 1) B d_SD_choose_91 (by decide) ?_
      refine Gk_goto (tgt := 96) B d_SD_choose_92 rfl ?_
      refine Gk_weak [true, false, false, false, false, false, false] (L' := [some (va_rf a0), none, none, none, none, none, none]) rfl ?_
      exact sn_SD_choose_96 B hr h
    rw [if_pos c78] at h
    refine Gk_bipush (v := 11) B d_SD_choose_81 (by decide) ?_
    cases h
    exact Gk_iret B hr d_SD_choose_83 rfl (by decide) (by decide) rfl
  rw [if_pos c49] at h
  refine Gk_iload_n (i := 2) (x := x2) B d_SD_choose_52 rfl rfl ?_
  refine Gk_iconst (v := 5) B d_SD_choose_53 (by decide) ?_
  refine Gk_icmp_ne (tgt := 61) B d_SD_choose_54 rfl (fun c54 => ?_) (fun c54 => ?_)
  · rw [if_neg c54] at h
    refine Gk_bipush (v := 9) B d_SD_choose_61 (by decide) ?_
    cases h
    exact Gk_iret B hr d_SD_choose_63 rfl (by decide) (by decide) rfl
  rw [if_pos c54] at h
  refine Gk_iconst (v := 0) B d_SD_choose_57 (by decide) ?_
  refine Gk_goto (tgt := 63) B d_SD_choose_58 rfl ?_
  cases h
  exact Gk_iret B hr d_SD_choose_63 rfl (by decide) (by decide) rfl
set_option maxHeartbeats 4000000 in
set_option maxRecDepth 100000 in
theorem sn_SD_choose_0 {l : Launch} {Γ : gk_G} {p : Program} {e : Env} {s : State} {m : MethodId} {args : Array Value} {below : List Frame} {meth : Method} {c : Code} (B : gk_B p s m args meth c gk_Y Γ c_SD_choose 7 "StageDispatcher") (hr : meth.sig.returnType = (some .int)) {ρ : Int32 × gk_M}   {a0 : Option Nat} {x1 : Int32} {x2 : Int32} {x3 : Int32} {M : gk_M} (h : fn_SD_choose  a0 x1 x2 x3 M = some ρ) : Gk p l e rm_SD_choose s m args below meth c gk_Y Γ 7 (MQ below (gk_Q gk_Y Γ (some (.int ρ.1)) ρ.2) args s rm_SD_choose.cells rm_SD_choose.slots (fun q => Γ.2.2 ≤ q)) 0 0 M 0 [some (va_rf a0), some (.int x1), some (.int x2), some (.int x3), none, none, none] [] := by
  unfold fn_SD_choose at h
  refine Gk_aload_n (i := 0) (r := a0) B d_SD_choose_0 rfl rfl ?_
  obtain ⟨v1, h1, h⟩ := gk_bind h
  refine Gk_getR (j := 5) B d_SD_choose_1 in_SD cl_SD (by decide) tw_283 rfl h1 ?_
  refine Gk_aload_n (i := 0) (r := a0) B d_SD_choose_4 rfl rfl ?_
  obtain ⟨v5, h5, h⟩ := gk_bind h
  refine Gk_getR (j := 1) B d_SD_choose_5 in_SD cl_SD (by decide) tw_279 rfl h5 ?_
  refine Gk_iload_n (i := 1) (x := x1) B d_SD_choose_8 rfl rfl ?_
  obtain ⟨o9, g9, h⟩ := gk_bind h
  obtain ⟨w9, h9, h⟩ := gk_bind h
  refine Gk_callV (As := [.int x1]) (rest := [va_rf v1]) (st1 := [.int w9.1, va_rf v1]) (k1 := 0) (n1 := 0) B gk_hG d_SD_choose_9 (sn_Catalog_verbsAllowedBy h9) g9 cl_Catalog tw_651 tw_648 tw_649 tw_650 tw_42 nm_Catalog_verbsAllowedBy rfl (by simp [gk_rc, gk_ic, gk_jc, rm_SD_choose]) ⟨by decide, by decide⟩ ⟨by decide, by decide⟩ rfl rfl rfl rfl ?_
  obtain ⟨M12, h12, h⟩ := gk_bind h
  refine Gk_put (j := 11) (ty := .int) B d_SD_choose_12 in_Outcome t_Outcome t_Outcome_ok n_Outcome cl_Outcome (by decide) tw_248 rfl rfl rfl rfl rfl h12 ?_
  refine Gk_aload_n (i := 0) (r := a0) B d_SD_choose_15 rfl rfl ?_
  obtain ⟨v16, h16, h⟩ := gk_bind h
  refine Gk_getR (j := 1) B d_SD_choose_16 in_SD cl_SD (by decide) tw_279 rfl h16 ?_
  refine Gk_iload_n (i := 1) (x := x1) B d_SD_choose_19 rfl rfl ?_
  refine Gk_iload_n (i := 2) (x := x2) B d_SD_choose_20 rfl rfl ?_
  obtain ⟨o21, g21, h⟩ := gk_bind h
  obtain ⟨w21, h21, h⟩ := gk_bind h
  refine Gk_callV (As := [.int x1, .int x2]) (rest := []) (st1 := [.int w21.1]) (k1 := 0) (n1 := 0) B gk_hG d_SD_choose_21 (sn_Catalog_withVerb h21) g21 cl_Catalog tw_655 tw_652 tw_653 tw_654 tw_42 nm_Catalog_withVerb rfl (by decide) ⟨by decide, by decide⟩ ⟨by decide, by decide⟩ rfl rfl rfl rfl ?_
  refine Gk_istore (L' := [some (va_rf a0), some (.int x1), some (.int x2), some (.int x3), some (.int w21.1), none, none]) B d_SD_choose_24 (by decide) (gk_c1_i rfl) rfl ?_
  refine Gk_iload (x := w21.1) B d_SD_choose_26 rfl ?_
  refine Gk_if_ne (tgt := 47) B d_SD_choose_28 rfl (fun c28 => ?_) (fun c28 => ?_)
  · rw [if_neg c28] at h
    refine Gk_weak [true, false, true, true, true, false, false] (L' := [some (va_rf a0), none, some (.int x2), some (.int x3), some (.int w21.1), none, none]) rfl ?_
    exact sn_SD_choose_47 B hr h
  rw [if_pos c28] at h
  refine Gk_iload_n (i := 2) (x := x2) B d_SD_choose_31 rfl rfl ?_
  refine Gk_iconst (v := 4) B d_SD_choose_32 (by decide) ?_
  refine Gk_icmp_ne (tgt := 47) B d_SD_choose_33 rfl (fun c33 => ?_) (fun c33 => ?_)
  · rw [if_neg c33] at h
    refine Gk_weak [true, false, true, true, true, false, false] (L' := [some (va_rf a0), none, some (.int x2), some (.int x3), some (.int w21.1), none, none]) rfl ?_
    exact sn_SD_choose_47 B hr h
  rw [if_pos c33] at h
  refine Gk_aload_n (i := 0) (r := a0) B d_SD_choose_36 rfl rfl ?_
  obtain ⟨v37, h37, h⟩ := gk_bind h
  refine Gk_getR (j := 1) B d_SD_choose_37 in_SD cl_SD (by decide) tw_279 rfl h37 ?_
  refine Gk_iload_n (i := 1) (x := x1) B d_SD_choose_40 rfl rfl ?_
  refine Gk_iconst (v := 0) B d_SD_choose_41 (by decide) ?_
  obtain ⟨o42, g42, h⟩ := gk_bind h
  obtain ⟨w42, h42, h⟩ := gk_bind h
  refine Gk_callV (As := [.int x1, .int 0]) (rest := []) (st1 := [.int w42.1]) (k1 := 0) (n1 := 0) B gk_hG d_SD_choose_42 (sn_Catalog_withVerb h42) g42 cl_Catalog tw_655 tw_652 tw_653 tw_654 tw_42 nm_Catalog_withVerb rfl (by decide) ⟨by decide, by decide⟩ ⟨by decide, by decide⟩ rfl rfl rfl rfl ?_
  refine Gk_istore (L' := [some (va_rf a0), some (.int x1), some (.int x2), some (.int x3), some (.int w42.1), none, none]) B d_SD_choose_45 (by decide) (gk_c1_i rfl) rfl ?_
  refine Gk_weak [true, false, true, true, true, false, false] (L' := [some (va_rf a0), none, some (.int x2), some (.int x3), some (.int w42.1), none, none]) rfl ?_
  exact sn_SD_choose_47 B hr h
theorem sn_SD_choose {l : Launch} {Γ : gk_G} {a0 : Option Nat} {x1 : Int32} {x2 : Int32} {x3 : Int32} {M : gk_M} {ρ : Int32 × gk_M} (h : fn_SD_choose a0 x1 x2 x3 M = some ρ) : gk_Met l gk_Y Γ y_SD_choose (.code y_SD_choose c_SD_choose 7 (some .int) :: gk_Y.2.2.2) rm_SD_choose [va_rf a0, .int x1, .int x2, .int x3] M (some (.int ρ.1)) ρ.2 :=
  gk_start (by decide) (by simp [lg_sl, gk_rc, gk_ic, gk_jc]) [some (va_rf a0), some (.int x1), some (.int x2), some (.int x3), none, none, none] (by simp [gk_as, lv_args, gk_rc, gk_ic, gk_jc]) (fun p e s m args below meth c B hr hin => sn_SD_choose_0 B hr h)
theorem d_SD_statusOf_0 : decode c_SD_statusOf 0 = .ok (.iload_n 1, 1) := by decide +kernel
theorem d_SD_statusOf_1 : decode c_SD_statusOf 1 = .ok (.istore_n 2, 1) := by decide +kernel
theorem d_SD_statusOf_2 : decode c_SD_statusOf 2 = .ok (.iload_n 2, 1) := by decide +kernel
theorem d_SD_statusOf_3 : decode c_SD_statusOf 3 = .ok (.ifCond .le 26, 3) := by decide +kernel
theorem d_SD_statusOf_6 : decode c_SD_statusOf 6 = .ok (.aload_n 0, 1) := by decide +kernel
theorem d_SD_statusOf_7 : decode c_SD_statusOf 7 = .ok (.getfield 51, 3) := by decide +kernel
theorem d_SD_statusOf_10 : decode c_SD_statusOf 10 = .ok (.iload_n 2, 1) := by decide +kernel
theorem d_SD_statusOf_11 : decode c_SD_statusOf 11 = .ok (.iaload, 1) := by decide +kernel
theorem d_SD_statusOf_12 : decode c_SD_statusOf 12 = .ok (.ifCond .eq 10, 3) := by decide +kernel
theorem d_SD_statusOf_15 : decode c_SD_statusOf 15 = .ok (.aload_n 0, 1) := by decide +kernel
theorem d_SD_statusOf_16 : decode c_SD_statusOf 16 = .ok (.getfield 51, 3) := by decide +kernel
theorem d_SD_statusOf_19 : decode c_SD_statusOf 19 = .ok (.iload_n 2, 1) := by decide +kernel
theorem d_SD_statusOf_20 : decode c_SD_statusOf 20 = .ok (.iaload, 1) := by decide +kernel
theorem d_SD_statusOf_21 : decode c_SD_statusOf 21 = .ok (.ireturn, 1) := by decide +kernel
theorem d_SD_statusOf_22 : decode c_SD_statusOf 22 = .ok (.iload_n 2, 1) := by decide +kernel
theorem d_SD_statusOf_23 : decode c_SD_statusOf 23 = .ok (.iconst 2, 1) := by decide +kernel
theorem d_SD_statusOf_24 : decode c_SD_statusOf 24 = .ok (.idiv, 1) := by decide +kernel
theorem d_SD_statusOf_25 : decode c_SD_statusOf 25 = .ok (.istore_n 2, 1) := by decide +kernel
theorem d_SD_statusOf_26 : decode c_SD_statusOf 26 = .ok (.goto (-24), 3) := by decide +kernel
theorem d_SD_statusOf_29 : decode c_SD_statusOf 29 = .ok (.iload_n 1, 1) := by decide +kernel
theorem d_SD_statusOf_30 : decode c_SD_statusOf 30 = .ok (.tableswitch 46 8 11 #[30, 34, 38, 42], 30) := by decide +kernel
theorem d_SD_statusOf_60 : decode c_SD_statusOf 60 = .ok (.sipush 404, 3) := by decide +kernel
theorem d_SD_statusOf_63 : decode c_SD_statusOf 63 = .ok (.ireturn, 1) := by decide +kernel
theorem d_SD_statusOf_64 : decode c_SD_statusOf 64 = .ok (.sipush 405, 3) := by decide +kernel
theorem d_SD_statusOf_67 : decode c_SD_statusOf 67 = .ok (.ireturn, 1) := by decide +kernel
theorem d_SD_statusOf_68 : decode c_SD_statusOf 68 = .ok (.sipush 406, 3) := by decide +kernel
theorem d_SD_statusOf_71 : decode c_SD_statusOf 71 = .ok (.ireturn, 1) := by decide +kernel
theorem d_SD_statusOf_72 : decode c_SD_statusOf 72 = .ok (.sipush 415, 3) := by decide +kernel
theorem d_SD_statusOf_75 : decode c_SD_statusOf 75 = .ok (.ireturn, 1) := by decide +kernel
theorem d_SD_statusOf_76 : decode c_SD_statusOf 76 = .ok (.sipush 500, 3) := by decide +kernel
theorem d_SD_statusOf_79 : decode c_SD_statusOf 79 = .ok (.ireturn, 1) := by decide +kernel
set_option maxHeartbeats 4000000 in
set_option maxRecDepth 100000 in
theorem sn_SD_statusOf_2_bd {l : Launch} {Γ : gk_G} {p : Program} {e : Env} {s : State} {m : MethodId} {args : Array Value} {below : List Frame} {meth : Method} {c : Code} (B : gk_B p s m args meth c gk_Y Γ c_SD_statusOf 3 "StageDispatcher") (hr : meth.sig.returnType = (some .int)) {ρ : Int32 × gk_M} {k2 : Option Nat → Int32 → Int32 → gk_M → Option (Int32 × gk_M)} (H2 : ∀ (a0 : Option Nat) (x1 : Int32) (x2 : Int32) (M : gk_M), k2 a0 x1 x2 M = some ρ → Gk p l e rm_SD_statusOf s m args below meth c gk_Y Γ 3 (MQ below (gk_Q gk_Y Γ (some (.int ρ.1)) ρ.2) args s rm_SD_statusOf.cells rm_SD_statusOf.slots (fun q => Γ.2.2 ≤ q)) 0 0 M 2 [some (va_rf a0), some (.int x1), some (.int x2)] []) {a0 : Option Nat} {x1 : Int32} {x2 : Int32} {M : gk_M} (h : fn_SD_statusOf_2_bd k2 a0 x1 x2 M = some ρ) : Gk p l e rm_SD_statusOf s m args below meth c gk_Y Γ 3 (MQ below (gk_Q gk_Y Γ (some (.int ρ.1)) ρ.2) args s rm_SD_statusOf.cells rm_SD_statusOf.slots (fun q => Γ.2.2 ≤ q)) 0 0 M 2 [some (va_rf a0), some (.int x1), some (.int x2)] [] := by
  unfold fn_SD_statusOf_2_bd at h
  refine Gk_iload_n (i := 2) (x := x2) B d_SD_statusOf_2 rfl rfl ?_
  refine Gk_if_le (tgt := 29) B d_SD_statusOf_3 rfl (fun c3 => ?_) (fun c3 => ?_)
  · rw [if_pos c3] at h
    refine Gk_iload_n (i := 1) (x := x1) B d_SD_statusOf_29 rfl rfl ?_
    by_cases c30_0 : x1 = 8
    · rw [if_pos c30_0] at h
      refine Gk_tabIn (off := 30) (tgt := 60) B d_SD_statusOf_30 (by rw [c30_0]; decide) (by rw [c30_0]; decide) (by rw [c30_0]; rfl) rfl ?_
      refine Gk_sipush (v := 404) B d_SD_statusOf_60 (by decide) ?_
      cases h
      exact Gk_iret B hr d_SD_statusOf_63 rfl (by decide) (by decide) rfl
    rw [if_neg c30_0] at h
    by_cases c30_1 : x1 = 9
    · rw [if_pos c30_1] at h
      refine Gk_tabIn (off := 34) (tgt := 64) B d_SD_statusOf_30 (by rw [c30_1]; decide) (by rw [c30_1]; decide) (by rw [c30_1]; rfl) rfl ?_
      refine Gk_sipush (v := 405) B d_SD_statusOf_64 (by decide) ?_
      cases h
      exact Gk_iret B hr d_SD_statusOf_67 rfl (by decide) (by decide) rfl
    rw [if_neg c30_1] at h
    by_cases c30_2 : x1 = 10
    · rw [if_pos c30_2] at h
      refine Gk_tabIn (off := 38) (tgt := 68) B d_SD_statusOf_30 (by rw [c30_2]; decide) (by rw [c30_2]; decide) (by rw [c30_2]; rfl) rfl ?_
      refine Gk_sipush (v := 406) B d_SD_statusOf_68 (by decide) ?_
      cases h
      exact Gk_iret B hr d_SD_statusOf_71 rfl (by decide) (by decide) rfl
    rw [if_neg c30_2] at h
    by_cases c30_3 : x1 = 11
    · rw [if_pos c30_3] at h
      refine Gk_tabIn (off := 42) (tgt := 72) B d_SD_statusOf_30 (by rw [c30_3]; decide) (by rw [c30_3]; decide) (by rw [c30_3]; rfl) rfl ?_
      refine Gk_sipush (v := 415) B d_SD_statusOf_72 (by decide) ?_
      cases h
      exact Gk_iret B hr d_SD_statusOf_75 rfl (by decide) (by decide) rfl
    rw [if_neg c30_3] at h
    refine Gk_tabOut (tgt := 76) B d_SD_statusOf_30 (by have e0 := lv_neT (a := 8) c30_0 rfl; have e1 := lv_neT (a := 9) c30_1 rfl; have e2 := lv_neT (a := 10) c30_2 rfl; have e3 := lv_neT (a := 11) c30_3 rfl; omega) rfl ?_
    refine Gk_sipush (v := 500) B d_SD_statusOf_76 (by decide) ?_
    cases h
    exact Gk_iret B hr d_SD_statusOf_79 rfl (by decide) (by decide) rfl
  rw [if_neg c3] at h
  refine Gk_aload_n (i := 0) (r := a0) B d_SD_statusOf_6 rfl rfl ?_
  obtain ⟨v7, h7, h⟩ := gk_bind h
  refine Gk_getR (j := 6) B d_SD_statusOf_7 in_SD cl_SD (by decide) tw_284 rfl h7 ?_
  refine Gk_iload_n (i := 2) (x := x2) B d_SD_statusOf_10 rfl rfl ?_
  obtain ⟨v11, h11, h⟩ := gk_bind h
  refine Gk_iaload B d_SD_statusOf_11 ty_0 h11 ?_
  refine Gk_if_eq (tgt := 22) B d_SD_statusOf_12 rfl (fun c12 => ?_) (fun c12 => ?_)
  · rw [if_pos c12] at h
    refine Gk_iload_n (i := 2) (x := x2) B d_SD_statusOf_22 rfl rfl ?_
    refine Gk_iconst (v := 2) B d_SD_statusOf_23 (by decide) ?_
    refine Gk_idiv B d_SD_statusOf_24 (by decide) ?_
    refine Gk_istore_n (i := 2) (L' := [some (va_rf a0), some (.int x1), some (.int (x2 / 2))]) B d_SD_statusOf_25 rfl (by decide) (gk_c1_i rfl) rfl ?_
    refine Gk_goto (tgt := 2) B d_SD_statusOf_26 rfl ?_
    exact H2 a0 x1 (x2 / 2) M h
  rw [if_neg c12] at h
  refine Gk_aload_n (i := 0) (r := a0) B d_SD_statusOf_15 rfl rfl ?_
  obtain ⟨v16, h16, h⟩ := gk_bind h
  refine Gk_getR (j := 6) B d_SD_statusOf_16 in_SD cl_SD (by decide) tw_284 rfl h16 ?_
  refine Gk_iload_n (i := 2) (x := x2) B d_SD_statusOf_19 rfl rfl ?_
  obtain ⟨v20, h20, h⟩ := gk_bind h
  refine Gk_iaload B d_SD_statusOf_20 ty_0 h20 ?_
  cases h
  exact Gk_iret B hr d_SD_statusOf_21 rfl (by decide) (by decide) rfl
set_option maxHeartbeats 4000000 in
set_option maxRecDepth 100000 in
theorem sn_SD_statusOf_2 {l : Launch} {Γ : gk_G} {p : Program} {e : Env} {s : State} {m : MethodId} {args : Array Value} {below : List Frame} {meth : Method} {c : Code} (B : gk_B p s m args meth c gk_Y Γ c_SD_statusOf 3 "StageDispatcher") (hr : meth.sig.returnType = (some .int)) {ρ : Int32 × gk_M}   {a0 : Option Nat} {x1 : Int32} {x2 : Int32} {M : gk_M} (h : fn_SD_statusOf_2  a0 x1 x2 M = some ρ) : Gk p l e rm_SD_statusOf s m args below meth c gk_Y Γ 3 (MQ below (gk_Q gk_Y Γ (some (.int ρ.1)) ρ.2) args s rm_SD_statusOf.cells rm_SD_statusOf.slots (fun q => Γ.2.2 ≤ q)) 0 0 M 2 [some (va_rf a0), some (.int x1), some (.int x2)] [] := by
  unfold fn_SD_statusOf_2 at h
  exact gk_loop_sound (α := Option Nat × Int32 × Int32 × gk_M) (P := fun a => Gk p l e rm_SD_statusOf s m args below meth c gk_Y Γ 3 (MQ below (gk_Q gk_Y Γ (some (.int ρ.1)) ρ.2) args s rm_SD_statusOf.cells rm_SD_statusOf.slots (fun q => Γ.2.2 ≤ q)) 0 0 a.2.2.2 2 [some (va_rf a.1), some (.int a.2.1), some (.int a.2.2.1)] []) (fun kk a Hk hb => sn_SD_statusOf_2_bd B hr (fun a0 x1 x2 M hh => Hk (a0, x1, x2, M) hh) hb) _ _ h
set_option maxHeartbeats 4000000 in
set_option maxRecDepth 100000 in
theorem sn_SD_statusOf_0 {l : Launch} {Γ : gk_G} {p : Program} {e : Env} {s : State} {m : MethodId} {args : Array Value} {below : List Frame} {meth : Method} {c : Code} (B : gk_B p s m args meth c gk_Y Γ c_SD_statusOf 3 "StageDispatcher") (hr : meth.sig.returnType = (some .int)) {ρ : Int32 × gk_M}   {a0 : Option Nat} {x1 : Int32} {M : gk_M} (h : fn_SD_statusOf  a0 x1 M = some ρ) : Gk p l e rm_SD_statusOf s m args below meth c gk_Y Γ 3 (MQ below (gk_Q gk_Y Γ (some (.int ρ.1)) ρ.2) args s rm_SD_statusOf.cells rm_SD_statusOf.slots (fun q => Γ.2.2 ≤ q)) 0 0 M 0 [some (va_rf a0), some (.int x1), none] [] := by
  unfold fn_SD_statusOf at h
  refine Gk_iload_n (i := 1) (x := x1) B d_SD_statusOf_0 rfl rfl ?_
  refine Gk_istore_n (i := 2) (L' := [some (va_rf a0), some (.int x1), some (.int x1)]) B d_SD_statusOf_1 rfl (by decide) (gk_c1_i rfl) rfl ?_
  exact sn_SD_statusOf_2 B hr h
theorem sn_SD_statusOf {l : Launch} {Γ : gk_G} {a0 : Option Nat} {x1 : Int32} {M : gk_M} {ρ : Int32 × gk_M} (h : fn_SD_statusOf a0 x1 M = some ρ) : gk_Met l gk_Y Γ y_SD_statusOf (.code y_SD_statusOf c_SD_statusOf 3 (some .int) :: gk_Y.2.2.2) rm_SD_statusOf [va_rf a0, .int x1] M (some (.int ρ.1)) ρ.2 :=
  gk_start (by decide) (by simp [lg_sl, gk_rc, gk_ic, gk_jc]) [some (va_rf a0), some (.int x1), none] (by simp [gk_as, lv_args, gk_rc, gk_ic, gk_jc]) (fun p e s m args below meth c B hr hin => sn_SD_statusOf_0 B hr h)
theorem d_Outcome_numberIn_0 : decode c_Outcome_numberIn 0 = .ok (.aload_n 0, 1) := by decide +kernel
theorem d_Outcome_numberIn_1 : decode c_Outcome_numberIn 1 = .ok (.getfield 22, 3) := by decide +kernel
theorem d_Outcome_numberIn_4 : decode c_Outcome_numberIn 4 = .ok (.iload_n 1, 1) := by decide +kernel
theorem d_Outcome_numberIn_5 : decode c_Outcome_numberIn 5 = .ok (.iaload, 1) := by decide +kernel
theorem d_Outcome_numberIn_6 : decode c_Outcome_numberIn 6 = .ok (.istore_n 2, 1) := by decide +kernel
theorem d_Outcome_numberIn_7 : decode c_Outcome_numberIn 7 = .ok (.aload_n 0, 1) := by decide +kernel
theorem d_Outcome_numberIn_8 : decode c_Outcome_numberIn 8 = .ok (.getfield 25, 3) := by decide +kernel
theorem d_Outcome_numberIn_11 : decode c_Outcome_numberIn 11 = .ok (.iload_n 1, 1) := by decide +kernel
theorem d_Outcome_numberIn_12 : decode c_Outcome_numberIn 12 = .ok (.iaload, 1) := by decide +kernel
theorem d_Outcome_numberIn_13 : decode c_Outcome_numberIn 13 = .ok (.istore_n 3, 1) := by decide +kernel
theorem d_Outcome_numberIn_14 : decode c_Outcome_numberIn 14 = .ok (.lconst 0, 1) := by decide +kernel
theorem d_Outcome_numberIn_15 : decode c_Outcome_numberIn 15 = .ok (.lstore 4, 2) := by decide +kernel
theorem d_Outcome_numberIn_17 : decode c_Outcome_numberIn 17 = .ok (.iload_n 2, 1) := by decide +kernel
theorem d_Outcome_numberIn_18 : decode c_Outcome_numberIn 18 = .ok (.istore 6, 2) := by decide +kernel
theorem d_Outcome_numberIn_20 : decode c_Outcome_numberIn 20 = .ok (.iload 6, 2) := by decide +kernel
theorem d_Outcome_numberIn_22 : decode c_Outcome_numberIn 22 = .ok (.iload_n 3, 1) := by decide +kernel
theorem d_Outcome_numberIn_23 : decode c_Outcome_numberIn 23 = .ok (.if_icmp .ge 55, 3) := by decide +kernel
theorem d_Outcome_numberIn_26 : decode c_Outcome_numberIn 26 = .ok (.aload_n 0, 1) := by decide +kernel
theorem d_Outcome_numberIn_27 : decode c_Outcome_numberIn 27 = .ok (.getfield 12, 3) := by decide +kernel
theorem d_Outcome_numberIn_30 : decode c_Outcome_numberIn 30 = .ok (.getfield 60, 3) := by decide +kernel
theorem d_Outcome_numberIn_33 : decode c_Outcome_numberIn 33 = .ok (.iload 6, 2) := by decide +kernel
theorem d_Outcome_numberIn_35 : decode c_Outcome_numberIn 35 = .ok (.caload, 1) := by decide +kernel
theorem d_Outcome_numberIn_36 : decode c_Outcome_numberIn 36 = .ok (.bipush 48, 2) := by decide +kernel
theorem d_Outcome_numberIn_38 : decode c_Outcome_numberIn 38 = .ok (.isub, 1) := by decide +kernel
theorem d_Outcome_numberIn_39 : decode c_Outcome_numberIn 39 = .ok (.istore 7, 2) := by decide +kernel
theorem d_Outcome_numberIn_41 : decode c_Outcome_numberIn 41 = .ok (.iload 7, 2) := by decide +kernel
theorem d_Outcome_numberIn_43 : decode c_Outcome_numberIn 43 = .ok (.iconst 0, 1) := by decide +kernel
theorem d_Outcome_numberIn_44 : decode c_Outcome_numberIn 44 = .ok (.bipush 9, 2) := by decide +kernel
theorem d_Outcome_numberIn_46 : decode c_Outcome_numberIn 46 = .ok (.invokestatic 64, 3) := by decide +kernel
theorem d_Outcome_numberIn_49 : decode c_Outcome_numberIn 49 = .ok (.ifCond .ne 5, 3) := by decide +kernel
theorem d_Outcome_numberIn_52 : decode c_Outcome_numberIn 52 = .ok (.iconst (-1), 1) := by decide +kernel
theorem d_Outcome_numberIn_53 : decode c_Outcome_numberIn 53 = .ok (.ireturn, 1) := by decide +kernel
theorem d_Outcome_numberIn_54 : decode c_Outcome_numberIn 54 = .ok (.lload 4, 2) := by decide +kernel
theorem d_Outcome_numberIn_56 : decode c_Outcome_numberIn 56 = .ok (.ldc2_w 68, 3) := by decide +kernel
theorem d_Outcome_numberIn_59 : decode c_Outcome_numberIn 59 = .ok (.lmul, 1) := by decide +kernel
theorem d_Outcome_numberIn_60 : decode c_Outcome_numberIn 60 = .ok (.iload 7, 2) := by decide +kernel
theorem d_Outcome_numberIn_62 : decode c_Outcome_numberIn 62 = .ok (.i2l, 1) := by decide +kernel
theorem d_Outcome_numberIn_63 : decode c_Outcome_numberIn 63 = .ok (.ladd, 1) := by decide +kernel
theorem d_Outcome_numberIn_64 : decode c_Outcome_numberIn 64 = .ok (.ldc2_w 70, 3) := by decide +kernel
theorem d_Outcome_numberIn_67 : decode c_Outcome_numberIn 67 = .ok (.invokestatic 72, 3) := by decide +kernel
theorem d_Outcome_numberIn_70 : decode c_Outcome_numberIn 70 = .ok (.lstore 4, 2) := by decide +kernel
theorem d_Outcome_numberIn_72 : decode c_Outcome_numberIn 72 = .ok (.iinc 6 1, 3) := by decide +kernel
theorem d_Outcome_numberIn_75 : decode c_Outcome_numberIn 75 = .ok (.goto (-55), 3) := by decide +kernel
theorem d_Outcome_numberIn_78 : decode c_Outcome_numberIn 78 = .ok (.iload_n 2, 1) := by decide +kernel
theorem d_Outcome_numberIn_79 : decode c_Outcome_numberIn 79 = .ok (.iload_n 3, 1) := by decide +kernel
theorem d_Outcome_numberIn_80 : decode c_Outcome_numberIn 80 = .ok (.if_icmp .eq 12, 3) := by decide +kernel
theorem d_Outcome_numberIn_83 : decode c_Outcome_numberIn 83 = .ok (.lload 4, 2) := by decide +kernel
theorem d_Outcome_numberIn_85 : decode c_Outcome_numberIn 85 = .ok (.ldc2_w 78, 3) := by decide +kernel
theorem d_Outcome_numberIn_88 : decode c_Outcome_numberIn 88 = .ok (.lcmp, 1) := by decide +kernel
theorem d_Outcome_numberIn_89 : decode c_Outcome_numberIn 89 = .ok (.ifCond .le 7, 3) := by decide +kernel
theorem d_Outcome_numberIn_92 : decode c_Outcome_numberIn 92 = .ok (.iconst (-1), 1) := by decide +kernel
theorem d_Outcome_numberIn_93 : decode c_Outcome_numberIn 93 = .ok (.goto 6, 3) := by decide +kernel
theorem d_Outcome_numberIn_96 : decode c_Outcome_numberIn 96 = .ok (.lload 4, 2) := by decide +kernel
theorem d_Outcome_numberIn_98 : decode c_Outcome_numberIn 98 = .ok (.l2i, 1) := by decide +kernel
theorem d_Outcome_numberIn_99 : decode c_Outcome_numberIn 99 = .ok (.ireturn, 1) := by decide +kernel
set_option maxHeartbeats 4000000 in
set_option maxRecDepth 100000 in
theorem sn_Outcome_numberIn_92 {l : Launch} {Γ : gk_G} {p : Program} {e : Env} {s : State} {m : MethodId} {args : Array Value} {below : List Frame} {meth : Method} {c : Code} (B : gk_B p s m args meth c gk_Y Γ c_Outcome_numberIn 8 "StageDispatcher$Outcome") (hr : meth.sig.returnType = (some .int)) {ρ : Int32 × gk_M}    {M : gk_M} (h : fn_Outcome_numberIn_92   M = some ρ) : Gk p l e rm_Outcome_numberIn s m args below meth c gk_Y Γ 8 (MQ below (gk_Q gk_Y Γ (some (.int ρ.1)) ρ.2) args s rm_Outcome_numberIn.cells rm_Outcome_numberIn.slots (fun q => Γ.2.2 ≤ q)) 0 0 M 92 [none, none, none, none, none, none, none, none] [] := by
  unfold fn_Outcome_numberIn_92 at h
  refine Gk_iconst (v := (-1)) B d_Outcome_numberIn_92 (by decide) ?_
  refine Gk_goto (tgt := 99) B d_Outcome_numberIn_93 rfl ?_
  cases h
  exact Gk_iret B hr d_Outcome_numberIn_99 rfl (by decide) (by decide) rfl
set_option maxHeartbeats 4000000 in
set_option maxRecDepth 100000 in
theorem sn_Outcome_numberIn_20_bd {l : Launch} {Γ : gk_G} {p : Program} {e : Env} {s : State} {m : MethodId} {args : Array Value} {below : List Frame} {meth : Method} {c : Code} (B : gk_B p s m args meth c gk_Y Γ c_Outcome_numberIn 8 "StageDispatcher$Outcome") (hr : meth.sig.returnType = (some .int)) {ρ : Int32 × gk_M} {k20 : Option Nat → Int32 → Int32 → Int64 → Int32 → gk_M → Option (Int32 × gk_M)} (H20 : ∀ (a0 : Option Nat) (x2 : Int32) (x3 : Int32) (l4 : Int64) (x6 : Int32) (M : gk_M), k20 a0 x2 x3 l4 x6 M = some ρ → Gk p l e rm_Outcome_numberIn s m args below meth c gk_Y Γ 8 (MQ below (gk_Q gk_Y Γ (some (.int ρ.1)) ρ.2) args s rm_Outcome_numberIn.cells rm_Outcome_numberIn.slots (fun q => Γ.2.2 ≤ q)) 0 0 M 20 [some (va_rf a0), none, some (.int x2), some (.int x3), some (.long l4), none, some (.int x6), none] []) {a0 : Option Nat} {x2 : Int32} {x3 : Int32} {l4 : Int64} {x6 : Int32} {M : gk_M} (h : fn_Outcome_numberIn_20_bd k20 a0 x2 x3 l4 x6 M = some ρ) : Gk p l e rm_Outcome_numberIn s m args below meth c gk_Y Γ 8 (MQ below (gk_Q gk_Y Γ (some (.int ρ.1)) ρ.2) args s rm_Outcome_numberIn.cells rm_Outcome_numberIn.slots (fun q => Γ.2.2 ≤ q)) 0 0 M 20 [some (va_rf a0), none, some (.int x2), some (.int x3), some (.long l4), none, some (.int x6), none] [] := by
  unfold fn_Outcome_numberIn_20_bd at h
  refine Gk_iload (x := x6) B d_Outcome_numberIn_20 rfl ?_
  refine Gk_iload_n (i := 3) (x := x3) B d_Outcome_numberIn_22 rfl rfl ?_
  refine Gk_icmp_ge (tgt := 78) B d_Outcome_numberIn_23 rfl (fun c23 => ?_) (fun c23 => ?_)
  · rw [if_pos c23] at h
    refine Gk_iload_n (i := 2) (x := x2) B d_Outcome_numberIn_78 rfl rfl ?_
    refine Gk_iload_n (i := 3) (x := x3) B d_Outcome_numberIn_79 rfl rfl ?_
    refine Gk_icmp_eq (tgt := 92) B d_Outcome_numberIn_80 rfl (fun c80 => ?_) (fun c80 => ?_)
    · rw [if_pos c80] at h
      refine Gk_weak [false, false, false, false, false, false, false, false] (L' := [none, none, none, none, none, none, none, none]) rfl ?_
      exact sn_Outcome_numberIn_92 B hr h
    rw [if_neg c80] at h
    refine Gk_lload (x := l4) B d_Outcome_numberIn_83 rfl ?_
    refine Gk_ldc2 (v := 2147483647) B d_Outcome_numberIn_85 tw_712 ?_
    refine Gk_lcmp B d_Outcome_numberIn_88 ?_
    refine Gk_if_le (tgt := 96) B d_Outcome_numberIn_89 rfl (fun c89 => ?_) (fun c89 => ?_)
    · rw [if_pos c89] at h
      refine Gk_lload (x := l4) B d_Outcome_numberIn_96 rfl ?_
      refine Gk_l2i B d_Outcome_numberIn_98 ?_
      cases h
      exact Gk_iret B hr d_Outcome_numberIn_99 rfl (by decide) (by decide) rfl
    rw [if_neg c89] at h
    refine Gk_weak [false, false, false, false, false, false, false, false] (L' := [none, none, none, none, none, none, none, none]) rfl ?_
    exact sn_Outcome_numberIn_92 B hr h
  rw [if_neg c23] at h
  refine Gk_aload_n (i := 0) (r := a0) B d_Outcome_numberIn_26 rfl rfl ?_
  obtain ⟨v27, h27, h⟩ := gk_bind h
  refine Gk_getR (j := 0) B d_Outcome_numberIn_27 in_Outcome cl_Outcome (by decide) tw_224 rfl h27 ?_
  obtain ⟨v30, h30, h⟩ := gk_bind h
  refine Gk_getR (j := 0) B d_Outcome_numberIn_30 in_Text cl_Text (by decide) tw_73 rfl h30 ?_
  refine Gk_iload (x := x6) B d_Outcome_numberIn_33 rfl ?_
  obtain ⟨v35, h35, h⟩ := gk_bind h
  refine Gk_caload B d_Outcome_numberIn_35 ty_1 h35 ?_
  refine Gk_bipush (v := 48) B d_Outcome_numberIn_36 (by decide) ?_
  refine Gk_isub B d_Outcome_numberIn_38 ?_
  refine Gk_istore (L' := [some (va_rf a0), none, some (.int x2), some (.int x3), some (.long l4), none, some (.int x6), some (.int (v35 - (48 : Int32)))]) B d_Outcome_numberIn_39 (by decide) (gk_c1_i rfl) rfl ?_
  refine Gk_iload (x := (v35 - (48 : Int32))) B d_Outcome_numberIn_41 rfl ?_
  refine Gk_iconst (v := 0) B d_Outcome_numberIn_43 (by decide) ?_
  refine Gk_bipush (v := 9) B d_Outcome_numberIn_44 (by decide) ?_
  obtain ⟨w46, h46, h⟩ := gk_bind h
  refine Gk_callSN (As := [.int (v35 - (48 : Int32)), .int 0, .int 9]) (rest := []) (st1 := [.int w46.1]) (k1 := 0) (n1 := 0) B gk_hG d_Outcome_numberIn_46 (sn_SD_isWithin h46) tw_373 nw_706 tw_372 tw_40 nm_SD_isWithin rfl (by decide) ⟨by decide, by decide⟩ ⟨by decide, by decide⟩ rfl rfl rfl rfl ?_
  refine Gk_if_ne (tgt := 54) B d_Outcome_numberIn_49 rfl (fun c49 => ?_) (fun c49 => ?_)
  · rw [if_neg c49] at h
    refine Gk_lload (x := l4) B d_Outcome_numberIn_54 rfl ?_
    refine Gk_ldc2 (v := 10) B d_Outcome_numberIn_56 tw_707 ?_
    refine Gk_lmul B d_Outcome_numberIn_59 ?_
    refine Gk_iload (x := (v35 - (48 : Int32))) B d_Outcome_numberIn_60 rfl ?_
    refine Gk_i2l B d_Outcome_numberIn_62 ?_
    refine Gk_ladd B d_Outcome_numberIn_63 ?_
    refine Gk_ldc2 (v := 2147483648) B d_Outcome_numberIn_64 tw_708 ?_
    refine Gk_mminL B d_Outcome_numberIn_67 tw_709 tw_710 tw_50 tw_711 (by decide) (by decide) (by decide) (by decide) ?_
    refine Gk_lstore (L' := [some (va_rf a0), none, some (.int x2), some (.int x3), some (.long (if (2147483648 : Int64) < ((l4 * (10 : Int64)) + ((v35 - (48 : Int32)).toInt64)) then (2147483648 : Int64) else ((l4 * (10 : Int64)) + ((v35 - (48 : Int32)).toInt64)))), none, some (.int x6), some (.int (v35 - (48 : Int32)))]) B d_Outcome_numberIn_70 (by decide) (gk_c1_i rfl) rfl ?_
    refine Gk_iinc (x := x6) (v := (x6 + 1)) (L' := [some (va_rf a0), none, some (.int x2), some (.int x3), some (.long (if (2147483648 : Int64) < ((l4 * (10 : Int64)) + ((v35 - (48 : Int32)).toInt64)) then (2147483648 : Int64) else ((l4 * (10 : Int64)) + ((v35 - (48 : Int32)).toInt64)))), none, some (.int (x6 + 1)), some (.int (v35 - (48 : Int32)))]) B d_Outcome_numberIn_72 rfl (congrArg (fun z => x6 + z) (by decide : Int32.ofInt 1 = 1)) (by decide) (gk_c1_n rfl) rfl ?_
    refine Gk_goto (tgt := 20) B d_Outcome_numberIn_75 rfl ?_
    refine Gk_weak [true, false, true, true, true, false, true, false] (L' := [some (va_rf a0), none, some (.int x2), some (.int x3), some (.long (if (2147483648 : Int64) < ((l4 * (10 : Int64)) + ((v35 - (48 : Int32)).toInt64)) then (2147483648 : Int64) else ((l4 * (10 : Int64)) + ((v35 - (48 : Int32)).toInt64)))), none, some (.int (x6 + 1)), none]) rfl ?_
    exact H20 a0 x2 x3 (if (2147483648 : Int64) < ((l4 * (10 : Int64)) + ((v35 - (48 : Int32)).toInt64)) then (2147483648 : Int64) else ((l4 * (10 : Int64)) + ((v35 - (48 : Int32)).toInt64))) (x6 + 1) w46.2 h
  rw [if_pos c49] at h
  refine Gk_iconst (v := (-1)) B d_Outcome_numberIn_52 (by decide) ?_
  cases h
  exact Gk_iret B hr d_Outcome_numberIn_53 rfl (by decide) (by decide) rfl
set_option maxHeartbeats 4000000 in
set_option maxRecDepth 100000 in
theorem sn_Outcome_numberIn_20 {l : Launch} {Γ : gk_G} {p : Program} {e : Env} {s : State} {m : MethodId} {args : Array Value} {below : List Frame} {meth : Method} {c : Code} (B : gk_B p s m args meth c gk_Y Γ c_Outcome_numberIn 8 "StageDispatcher$Outcome") (hr : meth.sig.returnType = (some .int)) {ρ : Int32 × gk_M}   {a0 : Option Nat} {x2 : Int32} {x3 : Int32} {l4 : Int64} {x6 : Int32} {M : gk_M} (h : fn_Outcome_numberIn_20  a0 x2 x3 l4 x6 M = some ρ) : Gk p l e rm_Outcome_numberIn s m args below meth c gk_Y Γ 8 (MQ below (gk_Q gk_Y Γ (some (.int ρ.1)) ρ.2) args s rm_Outcome_numberIn.cells rm_Outcome_numberIn.slots (fun q => Γ.2.2 ≤ q)) 0 0 M 20 [some (va_rf a0), none, some (.int x2), some (.int x3), some (.long l4), none, some (.int x6), none] [] := by
  unfold fn_Outcome_numberIn_20 at h
  exact gk_loop_sound (α := Option Nat × Int32 × Int32 × Int64 × Int32 × gk_M) (P := fun a => Gk p l e rm_Outcome_numberIn s m args below meth c gk_Y Γ 8 (MQ below (gk_Q gk_Y Γ (some (.int ρ.1)) ρ.2) args s rm_Outcome_numberIn.cells rm_Outcome_numberIn.slots (fun q => Γ.2.2 ≤ q)) 0 0 a.2.2.2.2.2 20 [some (va_rf a.1), none, some (.int a.2.1), some (.int a.2.2.1), some (.long a.2.2.2.1), none, some (.int a.2.2.2.2.1), none] []) (fun kk a Hk hb => sn_Outcome_numberIn_20_bd B hr (fun a0 x2 x3 l4 x6 M hh => Hk (a0, x2, x3, l4, x6, M) hh) hb) _ _ h
set_option maxHeartbeats 4000000 in
set_option maxRecDepth 100000 in
theorem sn_Outcome_numberIn_0 {l : Launch} {Γ : gk_G} {p : Program} {e : Env} {s : State} {m : MethodId} {args : Array Value} {below : List Frame} {meth : Method} {c : Code} (B : gk_B p s m args meth c gk_Y Γ c_Outcome_numberIn 8 "StageDispatcher$Outcome") (hr : meth.sig.returnType = (some .int)) {ρ : Int32 × gk_M}   {a0 : Option Nat} {x1 : Int32} {M : gk_M} (h : fn_Outcome_numberIn  a0 x1 M = some ρ) : Gk p l e rm_Outcome_numberIn s m args below meth c gk_Y Γ 8 (MQ below (gk_Q gk_Y Γ (some (.int ρ.1)) ρ.2) args s rm_Outcome_numberIn.cells rm_Outcome_numberIn.slots (fun q => Γ.2.2 ≤ q)) 0 0 M 0 [some (va_rf a0), some (.int x1), none, none, none, none, none, none] [] := by
  unfold fn_Outcome_numberIn at h
  refine Gk_aload_n (i := 0) (r := a0) B d_Outcome_numberIn_0 rfl rfl ?_
  obtain ⟨v1, h1, h⟩ := gk_bind h
  refine Gk_getR (j := 2) B d_Outcome_numberIn_1 in_Outcome cl_Outcome (by decide) tw_229 rfl h1 ?_
  refine Gk_iload_n (i := 1) (x := x1) B d_Outcome_numberIn_4 rfl rfl ?_
  obtain ⟨v5, h5, h⟩ := gk_bind h
  refine Gk_iaload B d_Outcome_numberIn_5 ty_0 h5 ?_
  refine Gk_istore_n (i := 2) (L' := [some (va_rf a0), some (.int x1), some (.int v5), none, none, none, none, none]) B d_Outcome_numberIn_6 rfl (by decide) (gk_c1_i rfl) rfl ?_
  refine Gk_aload_n (i := 0) (r := a0) B d_Outcome_numberIn_7 rfl rfl ?_
  obtain ⟨v8, h8, h⟩ := gk_bind h
  refine Gk_getR (j := 3) B d_Outcome_numberIn_8 in_Outcome cl_Outcome (by decide) tw_231 rfl h8 ?_
  refine Gk_iload_n (i := 1) (x := x1) B d_Outcome_numberIn_11 rfl rfl ?_
  obtain ⟨v12, h12, h⟩ := gk_bind h
  refine Gk_iaload B d_Outcome_numberIn_12 ty_0 h12 ?_
  refine Gk_istore_n (i := 3) (L' := [some (va_rf a0), some (.int x1), some (.int v5), some (.int v12), none, none, none, none]) B d_Outcome_numberIn_13 rfl (by decide) (gk_c1_i rfl) rfl ?_
  refine Gk_lconst (v := 0) B d_Outcome_numberIn_14 (by decide) ?_
  refine Gk_lstore (L' := [some (va_rf a0), some (.int x1), some (.int v5), some (.int v12), some (.long 0), none, none, none]) B d_Outcome_numberIn_15 (by decide) (gk_c1_i rfl) rfl ?_
  refine Gk_iload_n (i := 2) (x := v5) B d_Outcome_numberIn_17 rfl rfl ?_
  refine Gk_istore (L' := [some (va_rf a0), some (.int x1), some (.int v5), some (.int v12), some (.long 0), none, some (.int v5), none]) B d_Outcome_numberIn_18 (by decide) (gk_c1_n rfl) rfl ?_
  refine Gk_weak [true, false, true, true, true, false, true, false] (L' := [some (va_rf a0), none, some (.int v5), some (.int v12), some (.long 0), none, some (.int v5), none]) rfl ?_
  exact sn_Outcome_numberIn_20 B hr h
theorem sn_Outcome_numberIn {l : Launch} {Γ : gk_G} {a0 : Option Nat} {x1 : Int32} {M : gk_M} {ρ : Int32 × gk_M} (h : fn_Outcome_numberIn a0 x1 M = some ρ) : gk_Met l gk_Y Γ y_Outcome_numberIn (.code y_Outcome_numberIn c_Outcome_numberIn 8 (some .int) :: gk_Y.2.2.2) rm_Outcome_numberIn [va_rf a0, .int x1] M (some (.int ρ.1)) ρ.2 :=
  gk_start (by decide) (by simp [lg_sl, gk_rc, gk_ic, gk_jc]) [some (va_rf a0), some (.int x1), none, none, none, none, none, none] (by simp [gk_as, lv_args, gk_rc, gk_ic, gk_jc]) (fun p e s m args below meth c B hr hin => sn_Outcome_numberIn_0 B hr h)
theorem d_SD_invoke_0 : decode c_SD_invoke 0 = .ok (.iconst 0, 1) := by decide +kernel
theorem d_SD_invoke_1 : decode c_SD_invoke 1 = .ok (.istore_n 2, 1) := by decide +kernel
theorem d_SD_invoke_2 : decode c_SD_invoke 2 = .ok (.aload_n 1, 1) := by decide +kernel
theorem d_SD_invoke_3 : decode c_SD_invoke 3 = .ok (.getfield 115, 3) := by decide +kernel
theorem d_SD_invoke_6 : decode c_SD_invoke 6 = .ok (.iconst 0, 1) := by decide +kernel
theorem d_SD_invoke_7 : decode c_SD_invoke 7 = .ok (.aload_n 0, 1) := by decide +kernel
theorem d_SD_invoke_8 : decode c_SD_invoke 8 = .ok (.getfield 47, 3) := by decide +kernel
theorem d_SD_invoke_11 : decode c_SD_invoke 11 = .ok (.getfield 188, 3) := by decide +kernel
theorem d_SD_invoke_14 : decode c_SD_invoke 14 = .ok (.iconst 1, 1) := by decide +kernel
theorem d_SD_invoke_15 : decode c_SD_invoke 15 = .ok (.isub, 1) := by decide +kernel
theorem d_SD_invoke_16 : decode c_SD_invoke 16 = .ok (.invokestatic 95, 3) := by decide +kernel
theorem d_SD_invoke_19 : decode c_SD_invoke 19 = .ok (.ifCond .eq 15, 3) := by decide +kernel
theorem d_SD_invoke_22 : decode c_SD_invoke 22 = .ok (.aload_n 0, 1) := by decide +kernel
theorem d_SD_invoke_23 : decode c_SD_invoke 23 = .ok (.getfield 47, 3) := by decide +kernel
theorem d_SD_invoke_26 : decode c_SD_invoke 26 = .ok (.aload_n 1, 1) := by decide +kernel
theorem d_SD_invoke_27 : decode c_SD_invoke 27 = .ok (.getfield 115, 3) := by decide +kernel
theorem d_SD_invoke_30 : decode c_SD_invoke 30 = .ok (.invokevirtual 314, 3) := by decide +kernel
theorem d_SD_invoke_33 : decode c_SD_invoke 33 = .ok (.istore_n 2, 1) := by decide +kernel
theorem d_SD_invoke_34 : decode c_SD_invoke 34 = .ok (.iload_n 2, 1) := by decide +kernel
theorem d_SD_invoke_35 : decode c_SD_invoke 35 = .ok (.iconst (-1), 1) := by decide +kernel
theorem d_SD_invoke_36 : decode c_SD_invoke 36 = .ok (.if_icmp .ne 6, 3) := by decide +kernel
theorem d_SD_invoke_39 : decode c_SD_invoke 39 = .ok (.bipush 8, 2) := by decide +kernel
theorem d_SD_invoke_41 : decode c_SD_invoke 41 = .ok (.ireturn, 1) := by decide +kernel
theorem d_SD_invoke_42 : decode c_SD_invoke 42 = .ok (.aload_n 0, 1) := by decide +kernel
theorem d_SD_invoke_43 : decode c_SD_invoke 43 = .ok (.getfield 47, 3) := by decide +kernel
theorem d_SD_invoke_46 : decode c_SD_invoke 46 = .ok (.aload_n 0, 1) := by decide +kernel
theorem d_SD_invoke_47 : decode c_SD_invoke 47 = .ok (.getfield 47, 3) := by decide +kernel
theorem d_SD_invoke_50 : decode c_SD_invoke 50 = .ok (.getfield 236, 3) := by decide +kernel
theorem d_SD_invoke_53 : decode c_SD_invoke 53 = .ok (.putfield 176, 3) := by decide +kernel
theorem d_SD_invoke_56 : decode c_SD_invoke 56 = .ok (.aload_n 0, 1) := by decide +kernel
theorem d_SD_invoke_57 : decode c_SD_invoke 57 = .ok (.getfield 47, 3) := by decide +kernel
theorem d_SD_invoke_60 : decode c_SD_invoke 60 = .ok (.iload_n 2, 1) := by decide +kernel
theorem d_SD_invoke_61 : decode c_SD_invoke 61 = .ok (.putfield 179, 3) := by decide +kernel
theorem d_SD_invoke_64 : decode c_SD_invoke 64 = .ok (.aload_n 1, 1) := by decide +kernel
theorem d_SD_invoke_65 : decode c_SD_invoke 65 = .ok (.getfield 121, 3) := by decide +kernel
theorem d_SD_invoke_68 : decode c_SD_invoke 68 = .ok (.ireturn, 1) := by decide +kernel
set_option maxHeartbeats 4000000 in
set_option maxRecDepth 100000 in
theorem sn_SD_invoke_34 {l : Launch} {Γ : gk_G} {p : Program} {e : Env} {s : State} {m : MethodId} {args : Array Value} {below : List Frame} {meth : Method} {c : Code} (B : gk_B p s m args meth c gk_Y Γ c_SD_invoke 3 "StageDispatcher") (hr : meth.sig.returnType = (some .int)) {ρ : Int32 × gk_M}   {a0 : Option Nat} {a1 : Option Nat} {x2 : Int32} {M : gk_M} (h : fn_SD_invoke_34  a0 a1 x2 M = some ρ) : Gk p l e rm_SD_invoke s m args below meth c gk_Y Γ 3 (MQ below (gk_Q gk_Y Γ (some (.int ρ.1)) ρ.2) args s rm_SD_invoke.cells rm_SD_invoke.slots (fun q => Γ.2.2 ≤ q)) 0 0 M 34 [some (va_rf a0), some (va_rf a1), some (.int x2)] [] := by
  unfold fn_SD_invoke_34 at h
  refine Gk_iload_n (i := 2) (x := x2) B d_SD_invoke_34 rfl rfl ?_
  refine Gk_iconst (v := (-1)) B d_SD_invoke_35 (by decide) ?_
  refine Gk_icmp_ne (tgt := 42) B d_SD_invoke_36 rfl (fun c36 => ?_) (fun c36 => ?_)
  · rw [if_neg c36] at h
    refine Gk_aload_n (i := 0) (r := a0) B d_SD_invoke_42 rfl rfl ?_
    obtain ⟨v43, h43, h⟩ := gk_bind h
    refine Gk_getR (j := 5) B d_SD_invoke_43 in_SD cl_SD (by decide) tw_283 rfl h43 ?_
    refine Gk_aload_n (i := 0) (r := a0) B d_SD_invoke_46 rfl rfl ?_
    obtain ⟨v47, h47, h⟩ := gk_bind h
    refine Gk_getR (j := 5) B d_SD_invoke_47 in_SD cl_SD (by decide) tw_283 rfl h47 ?_
    obtain ⟨v50, h50, h⟩ := gk_bind h
    refine Gk_getI (j := 8) B d_SD_invoke_50 in_Outcome cl_Outcome (by decide) tw_242 rfl h50 ?_
    obtain ⟨M53, h53, h⟩ := gk_bind h
    refine Gk_put (j := 9) (ty := .int) B d_SD_invoke_53 in_Outcome t_Outcome t_Outcome_ok n_Outcome cl_Outcome (by decide) tw_244 rfl rfl rfl rfl rfl h53 ?_
    refine Gk_aload_n (i := 0) (r := a0) B d_SD_invoke_56 rfl rfl ?_
    obtain ⟨v57, h57, h⟩ := gk_bind h
    refine Gk_getR (j := 5) B d_SD_invoke_57 in_SD cl_SD (by decide) tw_283 rfl h57 ?_
    refine Gk_iload_n (i := 2) (x := x2) B d_SD_invoke_60 rfl rfl ?_
    obtain ⟨M61, h61, h⟩ := gk_bind h
    refine Gk_put (j := 10) (ty := .int) B d_SD_invoke_61 in_Outcome t_Outcome t_Outcome_ok n_Outcome cl_Outcome (by decide) tw_246 rfl rfl rfl rfl rfl h61 ?_
    refine Gk_aload_n (i := 1) (r := a1) B d_SD_invoke_64 rfl rfl ?_
    obtain ⟨v65, h65, h⟩ := gk_bind h
    refine Gk_getI (j := 8) B d_SD_invoke_65 in_Method cl_Method (by decide) tw_408 rfl h65 ?_
    cases h
    exact Gk_iret B hr d_SD_invoke_68 rfl (by decide) (by decide) rfl
  rw [if_pos c36] at h
  refine Gk_bipush (v := 8) B d_SD_invoke_39 (by decide) ?_
  cases h
  exact Gk_iret B hr d_SD_invoke_41 rfl (by decide) (by decide) rfl
set_option maxHeartbeats 4000000 in
set_option maxRecDepth 100000 in
theorem sn_SD_invoke_0 {l : Launch} {Γ : gk_G} {p : Program} {e : Env} {s : State} {m : MethodId} {args : Array Value} {below : List Frame} {meth : Method} {c : Code} (B : gk_B p s m args meth c gk_Y Γ c_SD_invoke 3 "StageDispatcher") (hr : meth.sig.returnType = (some .int)) {ρ : Int32 × gk_M}   {a0 : Option Nat} {a1 : Option Nat} {M : gk_M} (h : fn_SD_invoke  a0 a1 M = some ρ) : Gk p l e rm_SD_invoke s m args below meth c gk_Y Γ 3 (MQ below (gk_Q gk_Y Γ (some (.int ρ.1)) ρ.2) args s rm_SD_invoke.cells rm_SD_invoke.slots (fun q => Γ.2.2 ≤ q)) 0 0 M 0 [some (va_rf a0), some (va_rf a1), none] [] := by
  unfold fn_SD_invoke at h
  refine Gk_iconst (v := 0) B d_SD_invoke_0 (by decide) ?_
  refine Gk_istore_n (i := 2) (L' := [some (va_rf a0), some (va_rf a1), some (.int 0)]) B d_SD_invoke_1 rfl (by decide) (gk_c1_r rfl) rfl ?_
  refine Gk_aload_n (i := 1) (r := a1) B d_SD_invoke_2 rfl rfl ?_
  obtain ⟨v3, h3, h⟩ := gk_bind h
  refine Gk_getI (j := 6) B d_SD_invoke_3 in_Method cl_Method (by decide) tw_404 rfl h3 ?_
  refine Gk_iconst (v := 0) B d_SD_invoke_6 (by decide) ?_
  refine Gk_aload_n (i := 0) (r := a0) B d_SD_invoke_7 rfl rfl ?_
  obtain ⟨v8, h8, h⟩ := gk_bind h
  refine Gk_getR (j := 5) B d_SD_invoke_8 in_SD cl_SD (by decide) tw_283 rfl h8 ?_
  obtain ⟨v11, h11, h⟩ := gk_bind h
  refine Gk_getI (j := 6) B d_SD_invoke_11 in_Outcome cl_Outcome (by decide) tw_238 rfl h11 ?_
  refine Gk_iconst (v := 1) B d_SD_invoke_14 (by decide) ?_
  refine Gk_isub B d_SD_invoke_15 ?_
  obtain ⟨w16, h16, h⟩ := gk_bind h
  refine Gk_callS (As := [.int v3, .int 0, .int (v11 - (1 : Int32))]) (rest := []) (st1 := [.int w16.1]) (k1 := 0) (n1 := 0) B gk_hG d_SD_invoke_16 (sn_SD_isWithin h16) tw_373 tw_377 tw_372 tw_40 nm_SD_isWithin rfl (by decide) ⟨by decide, by decide⟩ ⟨by decide, by decide⟩ rfl rfl rfl rfl ?_
  refine Gk_if_eq (tgt := 34) B d_SD_invoke_19 rfl (fun c19 => ?_) (fun c19 => ?_)
  · rw [if_pos c19] at h
    exact sn_SD_invoke_34 B hr h
  rw [if_neg c19] at h
  refine Gk_aload_n (i := 0) (r := a0) B d_SD_invoke_22 rfl rfl ?_
  obtain ⟨v23, h23, h⟩ := gk_bind h
  refine Gk_getR (j := 5) B d_SD_invoke_23 in_SD cl_SD (by decide) tw_283 rfl h23 ?_
  refine Gk_aload_n (i := 1) (r := a1) B d_SD_invoke_26 rfl rfl ?_
  obtain ⟨v27, h27, h⟩ := gk_bind h
  refine Gk_getI (j := 6) B d_SD_invoke_27 in_Method cl_Method (by decide) tw_404 rfl h27 ?_
  obtain ⟨o30, g30, h⟩ := gk_bind h
  obtain ⟨w30, h30, h⟩ := gk_bind h
  refine Gk_callV (As := [.int v27]) (rest := []) (st1 := [.int w30.1]) (k1 := 0) (n1 := 0) B gk_hG d_SD_invoke_30 (sn_Outcome_numberIn h30) g30 cl_Outcome tw_705 tw_702 tw_703 tw_704 tw_47 nm_Outcome_numberIn rfl (by decide) ⟨by decide, by decide⟩ ⟨by decide, by decide⟩ rfl rfl rfl rfl ?_
  refine Gk_istore_n (i := 2) (L' := [some (va_rf a0), some (va_rf a1), some (.int w30.1)]) B d_SD_invoke_33 rfl (by decide) (gk_c1_r rfl) rfl ?_
  exact sn_SD_invoke_34 B hr h
theorem sn_SD_invoke {l : Launch} {Γ : gk_G} {a0 : Option Nat} {a1 : Option Nat} {M : gk_M} {ρ : Int32 × gk_M} (h : fn_SD_invoke a0 a1 M = some ρ) : gk_Met l gk_Y Γ y_SD_invoke (.code y_SD_invoke c_SD_invoke 3 (some .int) :: gk_Y.2.2.2) rm_SD_invoke [va_rf a0, va_rf a1] M (some (.int ρ.1)) ρ.2 :=
  gk_start (by decide) (by simp [lg_sl, gk_rc, gk_ic, gk_jc]) [some (va_rf a0), some (va_rf a1), none] (by simp [gk_as, lv_args, gk_rc, gk_ic, gk_jc]) (fun p e s m args below meth c B hr hin => sn_SD_invoke_0 B hr h)
theorem d_SD_runSteps_0 : decode c_SD_runSteps 0 = .ok (.aload_n 0, 1) := by decide +kernel
theorem d_SD_runSteps_1 : decode c_SD_runSteps 1 = .ok (.iconst 0, 1) := by decide +kernel
theorem d_SD_runSteps_2 : decode c_SD_runSteps 2 = .ok (.iload_n 1, 1) := by decide +kernel
theorem d_SD_runSteps_3 : decode c_SD_runSteps 3 = .ok (.iload_n 3, 1) := by decide +kernel
theorem d_SD_runSteps_4 : decode c_SD_runSteps 4 = .ok (.invokevirtual 216, 3) := by decide +kernel
theorem d_SD_runSteps_7 : decode c_SD_runSteps 7 = .ok (.istore 4, 2) := by decide +kernel
theorem d_SD_runSteps_9 : decode c_SD_runSteps 9 = .ok (.iload 4, 2) := by decide +kernel
theorem d_SD_runSteps_11 : decode c_SD_runSteps 11 = .ok (.bipush 100, 2) := by decide +kernel
theorem d_SD_runSteps_13 : decode c_SD_runSteps 13 = .ok (.if_icmp .lt 6, 3) := by decide +kernel
theorem d_SD_runSteps_16 : decode c_SD_runSteps 16 = .ok (.iload 4, 2) := by decide +kernel
theorem d_SD_runSteps_18 : decode c_SD_runSteps 18 = .ok (.ireturn, 1) := by decide +kernel
theorem d_SD_runSteps_19 : decode c_SD_runSteps 19 = .ok (.aload_n 0, 1) := by decide +kernel
theorem d_SD_runSteps_20 : decode c_SD_runSteps 20 = .ok (.getfield 40, 3) := by decide +kernel
theorem d_SD_runSteps_23 : decode c_SD_runSteps 23 = .ok (.aload_n 0, 1) := by decide +kernel
theorem d_SD_runSteps_24 : decode c_SD_runSteps 24 = .ok (.getfield 19, 3) := by decide +kernel
theorem d_SD_runSteps_27 : decode c_SD_runSteps 27 = .ok (.aload_n 0, 1) := by decide +kernel
theorem d_SD_runSteps_28 : decode c_SD_runSteps 28 = .ok (.getfield 47, 3) := by decide +kernel
theorem d_SD_runSteps_31 : decode c_SD_runSteps 31 = .ok (.invokevirtual 219, 3) := by decide +kernel
theorem d_SD_runSteps_34 : decode c_SD_runSteps 34 = .ok (.ifCond .eq 25, 3) := by decide +kernel
theorem d_SD_runSteps_37 : decode c_SD_runSteps 37 = .ok (.aload_n 0, 1) := by decide +kernel
theorem d_SD_runSteps_38 : decode c_SD_runSteps 38 = .ok (.getfield 40, 3) := by decide +kernel
theorem d_SD_runSteps_41 : decode c_SD_runSteps 41 = .ok (.aload_n 0, 1) := by decide +kernel
theorem d_SD_runSteps_42 : decode c_SD_runSteps 42 = .ok (.getfield 19, 3) := by decide +kernel
theorem d_SD_runSteps_45 : decode c_SD_runSteps 45 = .ok (.aload_n 0, 1) := by decide +kernel
theorem d_SD_runSteps_46 : decode c_SD_runSteps 46 = .ok (.getfield 47, 3) := by decide +kernel
theorem d_SD_runSteps_49 : decode c_SD_runSteps 49 = .ok (.invokevirtual 223, 3) := by decide +kernel
theorem d_SD_runSteps_52 : decode c_SD_runSteps 52 = .ok (.ifCond .eq 7, 3) := by decide +kernel
theorem d_SD_runSteps_55 : decode c_SD_runSteps 55 = .ok (.iconst 1, 1) := by decide +kernel
theorem d_SD_runSteps_56 : decode c_SD_runSteps 56 = .ok (.goto 4, 3) := by decide +kernel
theorem d_SD_runSteps_59 : decode c_SD_runSteps 59 = .ok (.iconst 0, 1) := by decide +kernel
theorem d_SD_runSteps_60 : decode c_SD_runSteps 60 = .ok (.istore 5, 2) := by decide +kernel
theorem d_SD_runSteps_62 : decode c_SD_runSteps 62 = .ok (.iload 5, 2) := by decide +kernel
theorem d_SD_runSteps_64 : decode c_SD_runSteps 64 = .ok (.ifCond .eq 20, 3) := by decide +kernel
theorem d_SD_runSteps_67 : decode c_SD_runSteps 67 = .ok (.aload_n 0, 1) := by decide +kernel
theorem d_SD_runSteps_68 : decode c_SD_runSteps 68 = .ok (.aload_n 0, 1) := by decide +kernel
theorem d_SD_runSteps_69 : decode c_SD_runSteps 69 = .ok (.getfield 40, 3) := by decide +kernel
theorem d_SD_runSteps_72 : decode c_SD_runSteps 72 = .ok (.getfield 226, 3) := by decide +kernel
theorem d_SD_runSteps_75 : decode c_SD_runSteps 75 = .ok (.iload 4, 2) := by decide +kernel
theorem d_SD_runSteps_77 : decode c_SD_runSteps 77 = .ok (.iload_n 2, 1) := by decide +kernel
theorem d_SD_runSteps_78 : decode c_SD_runSteps 78 = .ok (.invokevirtual 229, 3) := by decide +kernel
theorem d_SD_runSteps_81 : decode c_SD_runSteps 81 = .ok (.goto 5, 3) := by decide +kernel
theorem d_SD_runSteps_84 : decode c_SD_runSteps 84 = .ok (.bipush 8, 2) := by decide +kernel
theorem d_SD_runSteps_86 : decode c_SD_runSteps 86 = .ok (.istore 6, 2) := by decide +kernel
theorem d_SD_runSteps_88 : decode c_SD_runSteps 88 = .ok (.iload 6, 2) := by decide +kernel
theorem d_SD_runSteps_90 : decode c_SD_runSteps 90 = .ok (.ifCond .eq 10, 3) := by decide +kernel
theorem d_SD_runSteps_93 : decode c_SD_runSteps 93 = .ok (.aload_n 0, 1) := by decide +kernel
theorem d_SD_runSteps_94 : decode c_SD_runSteps 94 = .ok (.iload 6, 2) := by decide +kernel
theorem d_SD_runSteps_96 : decode c_SD_runSteps 96 = .ok (.invokevirtual 232, 3) := by decide +kernel
theorem d_SD_runSteps_99 : decode c_SD_runSteps 99 = .ok (.ireturn, 1) := by decide +kernel
theorem d_SD_runSteps_100 : decode c_SD_runSteps 100 = .ok (.aload_n 0, 1) := by decide +kernel
theorem d_SD_runSteps_101 : decode c_SD_runSteps 101 = .ok (.getfield 47, 3) := by decide +kernel
theorem d_SD_runSteps_104 : decode c_SD_runSteps 104 = .ok (.getfield 236, 3) := by decide +kernel
theorem d_SD_runSteps_107 : decode c_SD_runSteps 107 = .ok (.iconst (-1), 1) := by decide +kernel
theorem d_SD_runSteps_108 : decode c_SD_runSteps 108 = .ok (.if_icmp .ne 7, 3) := by decide +kernel
theorem d_SD_runSteps_111 : decode c_SD_runSteps 111 = .ok (.sipush 204, 3) := by decide +kernel
theorem d_SD_runSteps_114 : decode c_SD_runSteps 114 = .ok (.ireturn, 1) := by decide +kernel
theorem d_SD_runSteps_115 : decode c_SD_runSteps 115 = .ok (.aload_n 0, 1) := by decide +kernel
theorem d_SD_runSteps_116 : decode c_SD_runSteps 116 = .ok (.iconst 1, 1) := by decide +kernel
theorem d_SD_runSteps_117 : decode c_SD_runSteps 117 = .ok (.iload 4, 2) := by decide +kernel
theorem d_SD_runSteps_119 : decode c_SD_runSteps 119 = .ok (.iload_n 3, 1) := by decide +kernel
theorem d_SD_runSteps_120 : decode c_SD_runSteps 120 = .ok (.invokevirtual 216, 3) := by decide +kernel
theorem d_SD_runSteps_123 : decode c_SD_runSteps 123 = .ok (.istore 4, 2) := by decide +kernel
theorem d_SD_runSteps_125 : decode c_SD_runSteps 125 = .ok (.iload 4, 2) := by decide +kernel
theorem d_SD_runSteps_127 : decode c_SD_runSteps 127 = .ok (.bipush 100, 2) := by decide +kernel
theorem d_SD_runSteps_129 : decode c_SD_runSteps 129 = .ok (.if_icmp .lt 6, 3) := by decide +kernel
theorem d_SD_runSteps_132 : decode c_SD_runSteps 132 = .ok (.iload 4, 2) := by decide +kernel
theorem d_SD_runSteps_134 : decode c_SD_runSteps 134 = .ok (.ireturn, 1) := by decide +kernel
theorem d_SD_runSteps_135 : decode c_SD_runSteps 135 = .ok (.aload_n 0, 1) := by decide +kernel
theorem d_SD_runSteps_136 : decode c_SD_runSteps 136 = .ok (.aload_n 0, 1) := by decide +kernel
theorem d_SD_runSteps_137 : decode c_SD_runSteps 137 = .ok (.getfield 19, 3) := by decide +kernel
theorem d_SD_runSteps_140 : decode c_SD_runSteps 140 = .ok (.getfield 111, 3) := by decide +kernel
theorem d_SD_runSteps_143 : decode c_SD_runSteps 143 = .ok (.aload_n 0, 1) := by decide +kernel
theorem d_SD_runSteps_144 : decode c_SD_runSteps 144 = .ok (.getfield 47, 3) := by decide +kernel
theorem d_SD_runSteps_147 : decode c_SD_runSteps 147 = .ok (.getfield 236, 3) := by decide +kernel
theorem d_SD_runSteps_150 : decode c_SD_runSteps 150 = .ok (.aaload, 1) := by decide +kernel
theorem d_SD_runSteps_151 : decode c_SD_runSteps 151 = .ok (.invokevirtual 239, 3) := by decide +kernel
theorem d_SD_runSteps_154 : decode c_SD_runSteps 154 = .ok (.istore 6, 2) := by decide +kernel
theorem d_SD_runSteps_156 : decode c_SD_runSteps 156 = .ok (.iload 6, 2) := by decide +kernel
theorem d_SD_runSteps_158 : decode c_SD_runSteps 158 = .ok (.ifCond .ne 9, 3) := by decide +kernel
theorem d_SD_runSteps_161 : decode c_SD_runSteps 161 = .ok (.sipush 200, 3) := by decide +kernel
theorem d_SD_runSteps_164 : decode c_SD_runSteps 164 = .ok (.goto 9, 3) := by decide +kernel
theorem d_SD_runSteps_167 : decode c_SD_runSteps 167 = .ok (.aload_n 0, 1) := by decide +kernel
theorem d_SD_runSteps_168 : decode c_SD_runSteps 168 = .ok (.iload 6, 2) := by decide +kernel
theorem d_SD_runSteps_170 : decode c_SD_runSteps 170 = .ok (.invokevirtual 232, 3) := by decide +kernel
theorem d_SD_runSteps_173 : decode c_SD_runSteps 173 = .ok (.ireturn, 1) := by decide +kernel
set_option maxHeartbeats 4000000 in
set_option maxRecDepth 100000 in
theorem sn_SD_runSteps_86 {l : Launch} {Γ : gk_G} {p : Program} {e : Env} {s : State} {m : MethodId} {args : Array Value} {below : List Frame} {meth : Method} {c : Code} (B : gk_B p s m args meth c gk_Y Γ c_SD_runSteps 7 "StageDispatcher") (hr : meth.sig.returnType = (some .int)) {ρ : Int32 × gk_M}   {a0 : Option Nat} {x3 : Int32} {x4 : Int32} {s0 : Int32} {M : gk_M} (h : fn_SD_runSteps_86  a0 x3 x4 s0 M = some ρ) : Gk p l e rm_SD_runSteps s m args below meth c gk_Y Γ 7 (MQ below (gk_Q gk_Y Γ (some (.int ρ.1)) ρ.2) args s rm_SD_runSteps.cells rm_SD_runSteps.slots (fun q => Γ.2.2 ≤ q)) 0 0 M 86 [some (va_rf a0), none, none, some (.int x3), some (.int x4), none, none] [.int s0] := by
  unfold fn_SD_runSteps_86 at h
  refine Gk_istore (L' := [some (va_rf a0), none, none, some (.int x3), some (.int x4), none, some (.int s0)]) B d_SD_runSteps_86 (by decide) (gk_c1_n rfl) rfl ?_
  refine Gk_iload (x := s0) B d_SD_runSteps_88 rfl ?_
  refine Gk_if_eq (tgt := 100) B d_SD_runSteps_90 rfl (fun c90 => ?_) (fun c90 => ?_)
  · rw [if_pos c90] at h
    refine Gk_aload_n (i := 0) (r := a0) B d_SD_runSteps_100 rfl rfl ?_
    obtain ⟨v101, h101, h⟩ := gk_bind h
    refine Gk_getR (j := 5) B d_SD_runSteps_101 in_SD cl_SD (by decide) tw_283 rfl h101 ?_
    obtain ⟨v104, h104, h⟩ := gk_bind h
    refine Gk_getI (j := 8) B d_SD_runSteps_104 in_Outcome cl_Outcome (by decide) tw_242 rfl h104 ?_
    refine Gk_iconst (v := (-1)) B d_SD_runSteps_107 (by decide) ?_
    refine Gk_icmp_ne (tgt := 115) B d_SD_runSteps_108 rfl (fun c108 => ?_) (fun c108 => ?_)
    · rw [if_neg c108] at h
      refine Gk_aload_n (i := 0) (r := a0) B d_SD_runSteps_115 rfl rfl ?_
      refine Gk_iconst (v := 1) B d_SD_runSteps_116 (by decide) ?_
      refine Gk_iload (x := x4) B d_SD_runSteps_117 rfl ?_
      refine Gk_iload_n (i := 3) (x := x3) B d_SD_runSteps_119 rfl rfl ?_
      obtain ⟨o120, g120, h⟩ := gk_bind h
      obtain ⟨w120, h120, h⟩ := gk_bind h
      refine Gk_callV (As := [.int 1, .int x4, .int x3]) (rest := []) (st1 := [.int w120.1]) (k1 := 0) (n1 := 0) B gk_hG d_SD_runSteps_120 (sn_SD_runFilters h120) g120 cl_SD tw_555 tw_552 tw_554 tw_1 tw_40 nm_SD_runFilters rfl (by decide) ⟨by decide, by decide⟩ ⟨by decide, by decide⟩ rfl rfl rfl rfl ?_
      refine Gk_istore (L' := [some (va_rf a0), none, none, some (.int x3), some (.int w120.1), none, some (.int s0)]) B d_SD_runSteps_123 (by decide) (gk_c1_i rfl) rfl ?_
      refine Gk_iload (x := w120.1) B d_SD_runSteps_125 rfl ?_
      refine Gk_bipush (v := 100) B d_SD_runSteps_127 (by decide) ?_
      refine Gk_icmp_lt (tgt := 135) B d_SD_runSteps_129 rfl (fun c129 => ?_) (fun c129 => ?_)
      · rw [if_pos c129] at h
        refine Gk_aload_n (i := 0) (r := a0) B d_SD_runSteps_135 rfl rfl ?_
        refine Gk_aload_n (i := 0) (r := a0) B d_SD_runSteps_136 rfl rfl ?_
        obtain ⟨v137, h137, h⟩ := gk_bind h
        refine Gk_getR (j := 1) B d_SD_runSteps_137 in_SD cl_SD (by decide) tw_279 rfl h137 ?_
        obtain ⟨v140, h140, h⟩ := gk_bind h
        refine Gk_getR (j := 1) B d_SD_runSteps_140 in_Catalog cl_Catalog (by decide) tw_101 rfl h140 ?_
        refine Gk_aload_n (i := 0) (r := a0) B d_SD_runSteps_143 rfl rfl ?_
        obtain ⟨v144, h144, h⟩ := gk_bind h
        refine Gk_getR (j := 5) B d_SD_runSteps_144 in_SD cl_SD (by decide) tw_283 rfl h144 ?_
        obtain ⟨v147, h147, h⟩ := gk_bind h
        refine Gk_getI (j := 8) B d_SD_runSteps_147 in_Outcome cl_Outcome (by decide) tw_242 rfl h147 ?_
        obtain ⟨v150, h150, h⟩ := gk_bind h
        refine Gk_aaload B d_SD_runSteps_150 ty_4 h150 ?_
        obtain ⟨o151, g151, h⟩ := gk_bind h
        obtain ⟨w151, h151, h⟩ := gk_bind h
        refine Gk_callV (As := [va_rf v150]) (rest := []) (st1 := [.int w151.1]) (k1 := 0) (n1 := 0) B gk_hG d_SD_runSteps_151 (sn_SD_invoke h151) g151 cl_SD tw_701 tw_698 tw_700 tw_11 tw_40 nm_SD_invoke rfl (by decide) ⟨by decide, by decide⟩ ⟨by decide, by decide⟩ rfl rfl rfl rfl ?_
        refine Gk_istore (L' := [some (va_rf a0), none, none, some (.int x3), some (.int w120.1), none, some (.int w151.1)]) B d_SD_runSteps_154 (by decide) (gk_c1_n rfl) rfl ?_
        refine Gk_iload (x := w151.1) B d_SD_runSteps_156 rfl ?_
        refine Gk_if_ne (tgt := 167) B d_SD_runSteps_158 rfl (fun c158 => ?_) (fun c158 => ?_)
        · rw [if_neg c158] at h
          refine Gk_aload_n (i := 0) (r := a0) B d_SD_runSteps_167 rfl rfl ?_
          refine Gk_iload (x := w151.1) B d_SD_runSteps_168 rfl ?_
          obtain ⟨o170, g170, h⟩ := gk_bind h
          obtain ⟨w170, h170, h⟩ := gk_bind h
          refine Gk_callV (As := [.int w151.1]) (rest := []) (st1 := [.int w170.1]) (k1 := 0) (n1 := 0) B gk_hG d_SD_runSteps_170 (sn_SD_statusOf h170) g170 cl_SD tw_697 tw_694 tw_696 tw_10 tw_40 nm_SD_statusOf rfl (by decide) ⟨by decide, by decide⟩ ⟨by decide, by decide⟩ rfl rfl rfl rfl ?_
          cases h
          exact Gk_iret B hr d_SD_runSteps_173 rfl (by decide) (by decide) rfl
        rw [if_pos c158] at h
        refine Gk_sipush (v := 200) B d_SD_runSteps_161 (by decide) ?_
        refine Gk_goto (tgt := 173) B d_SD_runSteps_164 rfl ?_
        cases h
        exact Gk_iret B hr d_SD_runSteps_173 rfl (by decide) (by decide) rfl
      rw [if_neg c129] at h
      refine Gk_iload (x := w120.1) B d_SD_runSteps_132 rfl ?_
      cases h
      exact Gk_iret B hr d_SD_runSteps_134 rfl (by decide) (by decide) rfl
    rw [if_pos c108] at h
    refine Gk_sipush (v := 204) B d_SD_runSteps_111 (by decide) ?_
    cases h
    exact Gk_iret B hr d_SD_runSteps_114 rfl (by decide) (by decide) rfl
  rw [if_neg c90] at h
  refine Gk_aload_n (i := 0) (r := a0) B d_SD_runSteps_93 rfl rfl ?_
  refine Gk_iload (x := s0) B d_SD_runSteps_94 rfl ?_
  obtain ⟨o96, g96, h⟩ := gk_bind h
  obtain ⟨w96, h96, h⟩ := gk_bind h
  refine Gk_callV (As := [.int s0]) (rest := []) (st1 := [.int w96.1]) (k1 := 0) (n1 := 0) B gk_hG d_SD_runSteps_96 (sn_SD_statusOf h96) g96 cl_SD tw_697 tw_694 tw_696 tw_10 tw_40 nm_SD_statusOf rfl (by decide) ⟨by decide, by decide⟩ ⟨by decide, by decide⟩ rfl rfl rfl rfl ?_
  cases h
  exact Gk_iret B hr d_SD_runSteps_99 rfl (by decide) (by decide) rfl
set_option maxHeartbeats 4000000 in
set_option maxRecDepth 100000 in
theorem sn_SD_runSteps_60 {l : Launch} {Γ : gk_G} {p : Program} {e : Env} {s : State} {m : MethodId} {args : Array Value} {below : List Frame} {meth : Method} {c : Code} (B : gk_B p s m args meth c gk_Y Γ c_SD_runSteps 7 "StageDispatcher") (hr : meth.sig.returnType = (some .int)) {ρ : Int32 × gk_M}   {a0 : Option Nat} {x2 : Int32} {x3 : Int32} {x4 : Int32} {s0 : Int32} {M : gk_M} (h : fn_SD_runSteps_60  a0 x2 x3 x4 s0 M = some ρ) : Gk p l e rm_SD_runSteps s m args below meth c gk_Y Γ 7 (MQ below (gk_Q gk_Y Γ (some (.int ρ.1)) ρ.2) args s rm_SD_runSteps.cells rm_SD_runSteps.slots (fun q => Γ.2.2 ≤ q)) 0 0 M 60 [some (va_rf a0), none, some (.int x2), some (.int x3), some (.int x4), none, none] [.int s0] := by
  unfold fn_SD_runSteps_60 at h
  refine Gk_istore (L' := [some (va_rf a0), none, some (.int x2), some (.int x3), some (.int x4), some (.int s0), none]) B d_SD_runSteps_60 (by decide) (gk_c1_i rfl) rfl ?_
  refine Gk_iload (x := s0) B d_SD_runSteps_62 rfl ?_
  refine Gk_if_eq (tgt := 84) B d_SD_runSteps_64 rfl (fun c64 => ?_) (fun c64 => ?_)
  · rw [if_pos c64] at h
    refine Gk_bipush (v := 8) B d_SD_runSteps_84 (by decide) ?_
    refine Gk_weak [true, false, false, true, true, false, false] (L' := [some (va_rf a0), none, none, some (.int x3), some (.int x4), none, none]) rfl ?_
    exact sn_SD_runSteps_86 B hr h
  rw [if_neg c64] at h
  refine Gk_aload_n (i := 0) (r := a0) B d_SD_runSteps_67 rfl rfl ?_
  refine Gk_aload_n (i := 0) (r := a0) B d_SD_runSteps_68 rfl rfl ?_
  obtain ⟨v69, h69, h⟩ := gk_bind h
  refine Gk_getR (j := 4) B d_SD_runSteps_69 in_SD cl_SD (by decide) tw_282 rfl h69 ?_
  obtain ⟨v72, h72, h⟩ := gk_bind h
  refine Gk_getI (j := 3) B d_SD_runSteps_72 in_Route cl_Route (by decide) tw_206 rfl h72 ?_
  refine Gk_iload (x := x4) B d_SD_runSteps_75 rfl ?_
  refine Gk_iload_n (i := 2) (x := x2) B d_SD_runSteps_77 rfl rfl ?_
  obtain ⟨o78, g78, h⟩ := gk_bind h
  obtain ⟨w78, h78, h⟩ := gk_bind h
  refine Gk_callV (As := [.int v72, .int x4, .int x2]) (rest := []) (st1 := [.int w78.1]) (k1 := 0) (n1 := 0) B gk_hG d_SD_runSteps_78 (sn_SD_choose h78) g78 cl_SD tw_647 tw_644 tw_646 tw_7 tw_40 nm_SD_choose rfl (by decide) ⟨by decide, by decide⟩ ⟨by decide, by decide⟩ rfl rfl rfl rfl ?_
  refine Gk_goto (tgt := 86) B d_SD_runSteps_81 rfl ?_
  refine Gk_weak [true, false, false, true, true, false, false] (L' := [some (va_rf a0), none, none, some (.int x3), some (.int x4), none, none]) rfl ?_
  exact sn_SD_runSteps_86 B hr h
set_option maxHeartbeats 4000000 in
set_option maxRecDepth 100000 in
theorem sn_SD_runSteps_59 {l : Launch} {Γ : gk_G} {p : Program} {e : Env} {s : State} {m : MethodId} {args : Array Value} {below : List Frame} {meth : Method} {c : Code} (B : gk_B p s m args meth c gk_Y Γ c_SD_runSteps 7 "StageDispatcher") (hr : meth.sig.returnType = (some .int)) {ρ : Int32 × gk_M}   {a0 : Option Nat} {x2 : Int32} {x3 : Int32} {x4 : Int32} {M : gk_M} (h : fn_SD_runSteps_59  a0 x2 x3 x4 M = some ρ) : Gk p l e rm_SD_runSteps s m args below meth c gk_Y Γ 7 (MQ below (gk_Q gk_Y Γ (some (.int ρ.1)) ρ.2) args s rm_SD_runSteps.cells rm_SD_runSteps.slots (fun q => Γ.2.2 ≤ q)) 0 0 M 59 [some (va_rf a0), none, some (.int x2), some (.int x3), some (.int x4), none, none] [] := by
  unfold fn_SD_runSteps_59 at h
  refine Gk_iconst (v := 0) B d_SD_runSteps_59 (by decide) ?_
  exact sn_SD_runSteps_60 B hr h
set_option maxHeartbeats 4000000 in
set_option maxRecDepth 100000 in
theorem sn_SD_runSteps_0 {l : Launch} {Γ : gk_G} {p : Program} {e : Env} {s : State} {m : MethodId} {args : Array Value} {below : List Frame} {meth : Method} {c : Code} (B : gk_B p s m args meth c gk_Y Γ c_SD_runSteps 7 "StageDispatcher") (hr : meth.sig.returnType = (some .int)) {ρ : Int32 × gk_M}   {a0 : Option Nat} {x1 : Int32} {x2 : Int32} {x3 : Int32} {M : gk_M} (h : fn_SD_runSteps  a0 x1 x2 x3 M = some ρ) : Gk p l e rm_SD_runSteps s m args below meth c gk_Y Γ 7 (MQ below (gk_Q gk_Y Γ (some (.int ρ.1)) ρ.2) args s rm_SD_runSteps.cells rm_SD_runSteps.slots (fun q => Γ.2.2 ≤ q)) 0 0 M 0 [some (va_rf a0), some (.int x1), some (.int x2), some (.int x3), none, none, none] [] := by
  unfold fn_SD_runSteps at h
  refine Gk_aload_n (i := 0) (r := a0) B d_SD_runSteps_0 rfl rfl ?_
  refine Gk_iconst (v := 0) B d_SD_runSteps_1 (by decide) ?_
  refine Gk_iload_n (i := 1) (x := x1) B d_SD_runSteps_2 rfl rfl ?_
  refine Gk_iload_n (i := 3) (x := x3) B d_SD_runSteps_3 rfl rfl ?_
  obtain ⟨o4, g4, h⟩ := gk_bind h
  obtain ⟨w4, h4, h⟩ := gk_bind h
  refine Gk_callV (As := [.int 0, .int x1, .int x3]) (rest := []) (st1 := [.int w4.1]) (k1 := 0) (n1 := 0) B gk_hG d_SD_runSteps_4 (sn_SD_runFilters h4) g4 cl_SD tw_555 tw_552 tw_554 tw_1 tw_40 nm_SD_runFilters rfl (by decide) ⟨by decide, by decide⟩ ⟨by decide, by decide⟩ rfl rfl rfl rfl ?_
  refine Gk_istore (L' := [some (va_rf a0), some (.int x1), some (.int x2), some (.int x3), some (.int w4.1), none, none]) B d_SD_runSteps_7 (by decide) (gk_c1_i rfl) rfl ?_
  refine Gk_iload (x := w4.1) B d_SD_runSteps_9 rfl ?_
  refine Gk_bipush (v := 100) B d_SD_runSteps_11 (by decide) ?_
  refine Gk_icmp_lt (tgt := 19) B d_SD_runSteps_13 rfl (fun c13 => ?_) (fun c13 => ?_)
  · rw [if_pos c13] at h
    refine Gk_aload_n (i := 0) (r := a0) B d_SD_runSteps_19 rfl rfl ?_
    obtain ⟨v20, h20, h⟩ := gk_bind h
    refine Gk_getR (j := 4) B d_SD_runSteps_20 in_SD cl_SD (by decide) tw_282 rfl h20 ?_
    refine Gk_aload_n (i := 0) (r := a0) B d_SD_runSteps_23 rfl rfl ?_
    obtain ⟨v24, h24, h⟩ := gk_bind h
    refine Gk_getR (j := 1) B d_SD_runSteps_24 in_SD cl_SD (by decide) tw_279 rfl h24 ?_
    refine Gk_aload_n (i := 0) (r := a0) B d_SD_runSteps_27 rfl rfl ?_
    obtain ⟨v28, h28, h⟩ := gk_bind h
    refine Gk_getR (j := 5) B d_SD_runSteps_28 in_SD cl_SD (by decide) tw_283 rfl h28 ?_
    obtain ⟨o31, g31, h⟩ := gk_bind h
    obtain ⟨w31, h31, h⟩ := gk_bind h
    refine Gk_callV (As := [va_rf v24, va_rf v28]) (rest := []) (st1 := [.int w31.1]) (k1 := 0) (n1 := 0) B gk_hG d_SD_runSteps_31 (sn_Route_findClasses h31) g31 cl_Route tw_567 tw_564 tw_565 tw_566 tw_45 nm_Route_findClasses rfl (by decide) ⟨by decide, by decide⟩ ⟨by decide, by decide⟩ rfl rfl rfl rfl ?_
    refine Gk_if_eq (tgt := 59) B d_SD_runSteps_34 rfl (fun c34 => ?_) (fun c34 => ?_)
    · rw [if_pos c34] at h
      refine Gk_weak [true, false, true, true, true, false, false] (L' := [some (va_rf a0), none, some (.int x2), some (.int x3), some (.int w4.1), none, none]) rfl ?_
      exact sn_SD_runSteps_59 B hr h
    rw [if_neg c34] at h
    refine Gk_aload_n (i := 0) (r := a0) B d_SD_runSteps_37 rfl rfl ?_
    obtain ⟨v38, h38, h⟩ := gk_bind h
    refine Gk_getR (j := 4) B d_SD_runSteps_38 in_SD cl_SD (by decide) tw_282 rfl h38 ?_
    refine Gk_aload_n (i := 0) (r := a0) B d_SD_runSteps_41 rfl rfl ?_
    obtain ⟨v42, h42, h⟩ := gk_bind h
    refine Gk_getR (j := 1) B d_SD_runSteps_42 in_SD cl_SD (by decide) tw_279 rfl h42 ?_
    refine Gk_aload_n (i := 0) (r := a0) B d_SD_runSteps_45 rfl rfl ?_
    obtain ⟨v46, h46, h⟩ := gk_bind h
    refine Gk_getR (j := 5) B d_SD_runSteps_46 in_SD cl_SD (by decide) tw_283 rfl h46 ?_
    obtain ⟨o49, g49, h⟩ := gk_bind h
    obtain ⟨w49, h49, h⟩ := gk_bind h
    refine Gk_callV (As := [va_rf v42, va_rf v46]) (rest := []) (st1 := [.int w49.1]) (k1 := 0) (n1 := 0) B gk_hG d_SD_runSteps_49 (sn_Route_findCandidates h49) g49 cl_Route tw_621 tw_618 tw_619 tw_620 tw_45 nm_Route_findCandidates rfl (by decide) ⟨by decide, by decide⟩ ⟨by decide, by decide⟩ rfl rfl rfl rfl ?_
    refine Gk_if_eq (tgt := 59) B d_SD_runSteps_52 rfl (fun c52 => ?_) (fun c52 => ?_)
    · rw [if_pos c52] at h
      refine Gk_weak [true, false, true, true, true, false, false] (L' := [some (va_rf a0), none, some (.int x2), some (.int x3), some (.int w4.1), none, none]) rfl ?_
      exact sn_SD_runSteps_59 B hr h
    rw [if_neg c52] at h
    refine Gk_iconst (v := 1) B d_SD_runSteps_55 (by decide) ?_
    refine Gk_goto (tgt := 60) B d_SD_runSteps_56 rfl ?_
    refine Gk_weak [true, false, true, true, true, false, false] (L' := [some (va_rf a0), none, some (.int x2), some (.int x3), some (.int w4.1), none, none]) rfl ?_
    exact sn_SD_runSteps_60 B hr h
  rw [if_neg c13] at h
  refine Gk_iload (x := w4.1) B d_SD_runSteps_16 rfl ?_
  cases h
  exact Gk_iret B hr d_SD_runSteps_18 rfl (by decide) (by decide) rfl
theorem sn_SD_runSteps {l : Launch} {Γ : gk_G} {a0 : Option Nat} {x1 : Int32} {x2 : Int32} {x3 : Int32} {M : gk_M} {ρ : Int32 × gk_M} (h : fn_SD_runSteps a0 x1 x2 x3 M = some ρ) : gk_Met l gk_Y Γ y_SD_runSteps (.code y_SD_runSteps c_SD_runSteps 7 (some .int) :: gk_Y.2.2.2) rm_SD_runSteps [va_rf a0, .int x1, .int x2, .int x3] M (some (.int ρ.1)) ρ.2 :=
  gk_start (by decide) (by simp [lg_sl, gk_rc, gk_ic, gk_jc]) [some (va_rf a0), some (.int x1), some (.int x2), some (.int x3), none, none, none] (by simp [gk_as, lv_args, gk_rc, gk_ic, gk_jc]) (fun p e s m args below meth c B hr hin => sn_SD_runSteps_0 B hr h)
theorem d_SD_runFiltersAtTheEnd_0 : decode c_SD_runFiltersAtTheEnd 0 = .ok (.iconst 0, 1) := by decide +kernel
theorem d_SD_runFiltersAtTheEnd_1 : decode c_SD_runFiltersAtTheEnd 1 = .ok (.istore_n 1, 1) := by decide +kernel
theorem d_SD_runFiltersAtTheEnd_2 : decode c_SD_runFiltersAtTheEnd 2 = .ok (.iload_n 1, 1) := by decide +kernel
theorem d_SD_runFiltersAtTheEnd_3 : decode c_SD_runFiltersAtTheEnd 3 = .ok (.aload_n 0, 1) := by decide +kernel
theorem d_SD_runFiltersAtTheEnd_4 : decode c_SD_runFiltersAtTheEnd 4 = .ok (.getfield 26, 3) := by decide +kernel
theorem d_SD_runFiltersAtTheEnd_7 : decode c_SD_runFiltersAtTheEnd 7 = .ok (.getfield 136, 3) := by decide +kernel
theorem d_SD_runFiltersAtTheEnd_10 : decode c_SD_runFiltersAtTheEnd 10 = .ok (.if_icmp .ge 53, 3) := by decide +kernel
theorem d_SD_runFiltersAtTheEnd_13 : decode c_SD_runFiltersAtTheEnd 13 = .ok (.aload_n 0, 1) := by decide +kernel
theorem d_SD_runFiltersAtTheEnd_14 : decode c_SD_runFiltersAtTheEnd 14 = .ok (.getfield 26, 3) := by decide +kernel
theorem d_SD_runFiltersAtTheEnd_17 : decode c_SD_runFiltersAtTheEnd 17 = .ok (.getfield 266, 3) := by decide +kernel
theorem d_SD_runFiltersAtTheEnd_20 : decode c_SD_runFiltersAtTheEnd 20 = .ok (.iload_n 1, 1) := by decide +kernel
theorem d_SD_runFiltersAtTheEnd_21 : decode c_SD_runFiltersAtTheEnd 21 = .ok (.iaload, 1) := by decide +kernel
theorem d_SD_runFiltersAtTheEnd_22 : decode c_SD_runFiltersAtTheEnd 22 = .ok (.istore_n 2, 1) := by decide +kernel
theorem d_SD_runFiltersAtTheEnd_23 : decode c_SD_runFiltersAtTheEnd 23 = .ok (.aload_n 0, 1) := by decide +kernel
theorem d_SD_runFiltersAtTheEnd_24 : decode c_SD_runFiltersAtTheEnd 24 = .ok (.getfield 26, 3) := by decide +kernel
theorem d_SD_runFiltersAtTheEnd_27 : decode c_SD_runFiltersAtTheEnd 27 = .ok (.getfield 245, 3) := by decide +kernel
theorem d_SD_runFiltersAtTheEnd_30 : decode c_SD_runFiltersAtTheEnd 30 = .ok (.iload_n 2, 1) := by decide +kernel
theorem d_SD_runFiltersAtTheEnd_31 : decode c_SD_runFiltersAtTheEnd 31 = .ok (.aaload, 1) := by decide +kernel
theorem d_SD_runFiltersAtTheEnd_32 : decode c_SD_runFiltersAtTheEnd 32 = .ok (.astore_n 3, 1) := by decide +kernel
theorem d_SD_runFiltersAtTheEnd_33 : decode c_SD_runFiltersAtTheEnd 33 = .ok (.aload_n 3, 1) := by decide +kernel
theorem d_SD_runFiltersAtTheEnd_34 : decode c_SD_runFiltersAtTheEnd 34 = .ok (.getfield 249, 3) := by decide +kernel
theorem d_SD_runFiltersAtTheEnd_37 : decode c_SD_runFiltersAtTheEnd 37 = .ok (.iconst 2, 1) := by decide +kernel
theorem d_SD_runFiltersAtTheEnd_38 : decode c_SD_runFiltersAtTheEnd 38 = .ok (.if_icmp .ne 19, 3) := by decide +kernel
theorem d_SD_runFiltersAtTheEnd_41 : decode c_SD_runFiltersAtTheEnd 41 = .ok (.aload_n 0, 1) := by decide +kernel
theorem d_SD_runFiltersAtTheEnd_42 : decode c_SD_runFiltersAtTheEnd 42 = .ok (.aload_n 3, 1) := by decide +kernel
theorem d_SD_runFiltersAtTheEnd_43 : decode c_SD_runFiltersAtTheEnd 43 = .ok (.invokevirtual 252, 3) := by decide +kernel
theorem d_SD_runFiltersAtTheEnd_46 : decode c_SD_runFiltersAtTheEnd 46 = .ok (.ifCond .eq 11, 3) := by decide +kernel
theorem d_SD_runFiltersAtTheEnd_49 : decode c_SD_runFiltersAtTheEnd 49 = .ok (.aload_n 0, 1) := by decide +kernel
theorem d_SD_runFiltersAtTheEnd_50 : decode c_SD_runFiltersAtTheEnd 50 = .ok (.getfield 47, 3) := by decide +kernel
theorem d_SD_runFiltersAtTheEnd_53 : decode c_SD_runFiltersAtTheEnd 53 = .ok (.iload_n 2, 1) := by decide +kernel
theorem d_SD_runFiltersAtTheEnd_54 : decode c_SD_runFiltersAtTheEnd 54 = .ok (.invokevirtual 256, 3) := by decide +kernel
theorem d_SD_runFiltersAtTheEnd_57 : decode c_SD_runFiltersAtTheEnd 57 = .ok (.iinc 1 1, 3) := by decide +kernel
theorem d_SD_runFiltersAtTheEnd_60 : decode c_SD_runFiltersAtTheEnd 60 = .ok (.goto (-58), 3) := by decide +kernel
theorem d_SD_runFiltersAtTheEnd_63 : decode c_SD_runFiltersAtTheEnd 63 = .ok (.return_, 1) := by decide +kernel
set_option maxHeartbeats 4000000 in
set_option maxRecDepth 100000 in
theorem sn_SD_runFiltersAtTheEnd_57 {l : Launch} {Γ : gk_G} {p : Program} {e : Env} {s : State} {m : MethodId} {args : Array Value} {below : List Frame} {meth : Method} {c : Code} (B : gk_B p s m args meth c gk_Y Γ c_SD_runFiltersAtTheEnd 4 "StageDispatcher") (hr : meth.sig.returnType = none) {ρ : gk_M} {k2 : Option Nat → Int32 → gk_M → Option (gk_M)} (H2 : ∀ (a0 : Option Nat) (x1 : Int32) (M : gk_M), k2 a0 x1 M = some ρ → Gk p l e rm_SD_runFiltersAtTheEnd s m args below meth c gk_Y Γ 4 (MQ below (gk_Q gk_Y Γ none ρ) args s rm_SD_runFiltersAtTheEnd.cells rm_SD_runFiltersAtTheEnd.slots (fun q => Γ.2.2 ≤ q)) 0 0 M 2 [some (va_rf a0), some (.int x1), none, none] []) {a0 : Option Nat} {x1 : Int32} {M : gk_M} (h : fn_SD_runFiltersAtTheEnd_57 k2 a0 x1 M = some ρ) : Gk p l e rm_SD_runFiltersAtTheEnd s m args below meth c gk_Y Γ 4 (MQ below (gk_Q gk_Y Γ none ρ) args s rm_SD_runFiltersAtTheEnd.cells rm_SD_runFiltersAtTheEnd.slots (fun q => Γ.2.2 ≤ q)) 0 0 M 57 [some (va_rf a0), some (.int x1), none, none] [] := by
  unfold fn_SD_runFiltersAtTheEnd_57 at h
  refine Gk_iinc (x := x1) (v := (x1 + 1)) (L' := [some (va_rf a0), some (.int (x1 + 1)), none, none]) B d_SD_runFiltersAtTheEnd_57 rfl (congrArg (fun z => x1 + z) (by decide : Int32.ofInt 1 = 1)) (by decide) (gk_c1_r rfl) rfl ?_
  refine Gk_goto (tgt := 2) B d_SD_runFiltersAtTheEnd_60 rfl ?_
  exact H2 a0 (x1 + 1) M h
set_option maxHeartbeats 4000000 in
set_option maxRecDepth 100000 in
theorem sn_SD_runFiltersAtTheEnd_2_bd {l : Launch} {Γ : gk_G} {p : Program} {e : Env} {s : State} {m : MethodId} {args : Array Value} {below : List Frame} {meth : Method} {c : Code} (B : gk_B p s m args meth c gk_Y Γ c_SD_runFiltersAtTheEnd 4 "StageDispatcher") (hr : meth.sig.returnType = none) {ρ : gk_M} {k2 : Option Nat → Int32 → gk_M → Option (gk_M)} (H2 : ∀ (a0 : Option Nat) (x1 : Int32) (M : gk_M), k2 a0 x1 M = some ρ → Gk p l e rm_SD_runFiltersAtTheEnd s m args below meth c gk_Y Γ 4 (MQ below (gk_Q gk_Y Γ none ρ) args s rm_SD_runFiltersAtTheEnd.cells rm_SD_runFiltersAtTheEnd.slots (fun q => Γ.2.2 ≤ q)) 0 0 M 2 [some (va_rf a0), some (.int x1), none, none] []) {a0 : Option Nat} {x1 : Int32} {M : gk_M} (h : fn_SD_runFiltersAtTheEnd_2_bd k2 a0 x1 M = some ρ) : Gk p l e rm_SD_runFiltersAtTheEnd s m args below meth c gk_Y Γ 4 (MQ below (gk_Q gk_Y Γ none ρ) args s rm_SD_runFiltersAtTheEnd.cells rm_SD_runFiltersAtTheEnd.slots (fun q => Γ.2.2 ≤ q)) 0 0 M 2 [some (va_rf a0), some (.int x1), none, none] [] := by
  unfold fn_SD_runFiltersAtTheEnd_2_bd at h
  refine Gk_iload_n (i := 1) (x := x1) B d_SD_runFiltersAtTheEnd_2 rfl rfl ?_
  refine Gk_aload_n (i := 0) (r := a0) B d_SD_runFiltersAtTheEnd_3 rfl rfl ?_
  obtain ⟨v4, h4, h⟩ := gk_bind h
  refine Gk_getR (j := 2) B d_SD_runFiltersAtTheEnd_4 in_SD cl_SD (by decide) tw_280 rfl h4 ?_
  obtain ⟨v7, h7, h⟩ := gk_bind h
  refine Gk_getI (j := 3) B d_SD_runFiltersAtTheEnd_7 in_FilterChain cl_FilterChain (by decide) tw_141 rfl h7 ?_
  refine Gk_icmp_ge (tgt := 63) B d_SD_runFiltersAtTheEnd_10 rfl (fun c10 => ?_) (fun c10 => ?_)
  · rw [if_pos c10] at h
    cases h
    exact Gk_vret B hr d_SD_runFiltersAtTheEnd_63 (by decide) (by decide) rfl
  rw [if_neg c10] at h
  refine Gk_aload_n (i := 0) (r := a0) B d_SD_runFiltersAtTheEnd_13 rfl rfl ?_
  obtain ⟨v14, h14, h⟩ := gk_bind h
  refine Gk_getR (j := 2) B d_SD_runFiltersAtTheEnd_14 in_SD cl_SD (by decide) tw_280 rfl h14 ?_
  obtain ⟨v17, h17, h⟩ := gk_bind h
  refine Gk_getR (j := 2) B d_SD_runFiltersAtTheEnd_17 in_FilterChain cl_FilterChain (by decide) tw_139 rfl h17 ?_
  refine Gk_iload_n (i := 1) (x := x1) B d_SD_runFiltersAtTheEnd_20 rfl rfl ?_
  obtain ⟨v21, h21, h⟩ := gk_bind h
  refine Gk_iaload B d_SD_runFiltersAtTheEnd_21 ty_0 h21 ?_
  refine Gk_istore_n (i := 2) (L' := [some (va_rf a0), some (.int x1), some (.int v21), none]) B d_SD_runFiltersAtTheEnd_22 rfl (by decide) (gk_c1_i rfl) rfl ?_
  refine Gk_aload_n (i := 0) (r := a0) B d_SD_runFiltersAtTheEnd_23 rfl rfl ?_
  obtain ⟨v24, h24, h⟩ := gk_bind h
  refine Gk_getR (j := 2) B d_SD_runFiltersAtTheEnd_24 in_SD cl_SD (by decide) tw_280 rfl h24 ?_
  obtain ⟨v27, h27, h⟩ := gk_bind h
  refine Gk_getR (j := 0) B d_SD_runFiltersAtTheEnd_27 in_FilterChain cl_FilterChain (by decide) tw_135 rfl h27 ?_
  refine Gk_iload_n (i := 2) (x := v21) B d_SD_runFiltersAtTheEnd_30 rfl rfl ?_
  obtain ⟨v31, h31, h⟩ := gk_bind h
  refine Gk_aaload B d_SD_runFiltersAtTheEnd_31 ty_6 h31 ?_
  refine Gk_astore_n (i := 3) (L' := [some (va_rf a0), some (.int x1), some (.int v21), some (va_rf v31)]) B d_SD_runFiltersAtTheEnd_32 rfl (by decide) (gk_c1_i rfl) rfl ?_
  refine Gk_aload_n (i := 3) (r := v31) B d_SD_runFiltersAtTheEnd_33 rfl rfl ?_
  obtain ⟨v34, h34, h⟩ := gk_bind h
  refine Gk_getIN (j := 2) B d_SD_runFiltersAtTheEnd_34 in_Filter cl_Filter (by decide) nw_488 rfl h34 ?_
  refine Gk_iconst (v := 2) B d_SD_runFiltersAtTheEnd_37 (by decide) ?_
  refine Gk_icmp_ne (tgt := 57) B d_SD_runFiltersAtTheEnd_38 rfl (fun c38 => ?_) (fun c38 => ?_)
  · rw [if_neg c38] at h
    refine Gk_weak [true, true, false, false] (L' := [some (va_rf a0), some (.int x1), none, none]) rfl ?_
    exact sn_SD_runFiltersAtTheEnd_57 B hr H2 h
  rw [if_pos c38] at h
  refine Gk_aload_n (i := 0) (r := a0) B d_SD_runFiltersAtTheEnd_41 rfl rfl ?_
  refine Gk_aload_n (i := 3) (r := v31) B d_SD_runFiltersAtTheEnd_42 rfl rfl ?_
  obtain ⟨o43, g43, h⟩ := gk_bind h
  obtain ⟨w43, h43, h⟩ := gk_bind h
  refine Gk_callV (As := [va_rf v31]) (rest := []) (st1 := [.int w43.1]) (k1 := 0) (n1 := 0) B gk_hG d_SD_runFiltersAtTheEnd_43 (sn_SD_isBound h43) g43 cl_SD tw_559 tw_556 tw_558 tw_2 tw_40 nm_SD_isBound rfl (by decide) ⟨by decide, by decide⟩ ⟨by decide, by decide⟩ rfl rfl rfl rfl ?_
  refine Gk_if_eq (tgt := 57) B d_SD_runFiltersAtTheEnd_46 rfl (fun c46 => ?_) (fun c46 => ?_)
  · rw [if_pos c46] at h
    refine Gk_weak [true, true, false, false] (L' := [some (va_rf a0), some (.int x1), none, none]) rfl ?_
    exact sn_SD_runFiltersAtTheEnd_57 B hr H2 h
  rw [if_neg c46] at h
  refine Gk_aload_n (i := 0) (r := a0) B d_SD_runFiltersAtTheEnd_49 rfl rfl ?_
  obtain ⟨v50, h50, h⟩ := gk_bind h
  refine Gk_getR (j := 5) B d_SD_runFiltersAtTheEnd_50 in_SD cl_SD (by decide) tw_283 rfl h50 ?_
  refine Gk_iload_n (i := 2) (x := v21) B d_SD_runFiltersAtTheEnd_53 rfl rfl ?_
  obtain ⟨o54, g54, h⟩ := gk_bind h
  obtain ⟨w54, h54, h⟩ := gk_bind h
  refine Gk_callV (As := [.int v21]) (rest := []) (st1 := []) (k1 := 0) (n1 := 0) B gk_hG d_SD_runFiltersAtTheEnd_54 (sn_Outcome_addRan h54) g54 cl_Outcome tw_563 tw_560 tw_561 tw_562 tw_47 nm_Outcome_addRan rfl (by decide) ⟨by decide, by decide⟩ ⟨by decide, by decide⟩ rfl rfl rfl rfl ?_
  refine Gk_weak [true, true, false, false] (L' := [some (va_rf a0), some (.int x1), none, none]) rfl ?_
  exact sn_SD_runFiltersAtTheEnd_57 B hr H2 h
set_option maxHeartbeats 4000000 in
set_option maxRecDepth 100000 in
theorem sn_SD_runFiltersAtTheEnd_2 {l : Launch} {Γ : gk_G} {p : Program} {e : Env} {s : State} {m : MethodId} {args : Array Value} {below : List Frame} {meth : Method} {c : Code} (B : gk_B p s m args meth c gk_Y Γ c_SD_runFiltersAtTheEnd 4 "StageDispatcher") (hr : meth.sig.returnType = none) {ρ : gk_M}   {a0 : Option Nat} {x1 : Int32} {M : gk_M} (h : fn_SD_runFiltersAtTheEnd_2  a0 x1 M = some ρ) : Gk p l e rm_SD_runFiltersAtTheEnd s m args below meth c gk_Y Γ 4 (MQ below (gk_Q gk_Y Γ none ρ) args s rm_SD_runFiltersAtTheEnd.cells rm_SD_runFiltersAtTheEnd.slots (fun q => Γ.2.2 ≤ q)) 0 0 M 2 [some (va_rf a0), some (.int x1), none, none] [] := by
  unfold fn_SD_runFiltersAtTheEnd_2 at h
  exact gk_loop_sound (α := Option Nat × Int32 × gk_M) (P := fun a => Gk p l e rm_SD_runFiltersAtTheEnd s m args below meth c gk_Y Γ 4 (MQ below (gk_Q gk_Y Γ none ρ) args s rm_SD_runFiltersAtTheEnd.cells rm_SD_runFiltersAtTheEnd.slots (fun q => Γ.2.2 ≤ q)) 0 0 a.2.2 2 [some (va_rf a.1), some (.int a.2.1), none, none] []) (fun kk a Hk hb => sn_SD_runFiltersAtTheEnd_2_bd B hr (fun a0 x1 M hh => Hk (a0, x1, M) hh) hb) _ _ h
set_option maxHeartbeats 4000000 in
set_option maxRecDepth 100000 in
theorem sn_SD_runFiltersAtTheEnd_0 {l : Launch} {Γ : gk_G} {p : Program} {e : Env} {s : State} {m : MethodId} {args : Array Value} {below : List Frame} {meth : Method} {c : Code} (B : gk_B p s m args meth c gk_Y Γ c_SD_runFiltersAtTheEnd 4 "StageDispatcher") (hr : meth.sig.returnType = none) {ρ : gk_M}   {a0 : Option Nat} {M : gk_M} (h : fn_SD_runFiltersAtTheEnd  a0 M = some ρ) : Gk p l e rm_SD_runFiltersAtTheEnd s m args below meth c gk_Y Γ 4 (MQ below (gk_Q gk_Y Γ none ρ) args s rm_SD_runFiltersAtTheEnd.cells rm_SD_runFiltersAtTheEnd.slots (fun q => Γ.2.2 ≤ q)) 0 0 M 0 [some (va_rf a0), none, none, none] [] := by
  unfold fn_SD_runFiltersAtTheEnd at h
  refine Gk_iconst (v := 0) B d_SD_runFiltersAtTheEnd_0 (by decide) ?_
  refine Gk_istore_n (i := 1) (L' := [some (va_rf a0), some (.int 0), none, none]) B d_SD_runFiltersAtTheEnd_1 rfl (by decide) (gk_c1_r rfl) rfl ?_
  exact sn_SD_runFiltersAtTheEnd_2 B hr h
theorem sn_SD_runFiltersAtTheEnd {l : Launch} {Γ : gk_G} {a0 : Option Nat} {M : gk_M} {ρ : gk_M} (h : fn_SD_runFiltersAtTheEnd a0 M = some ρ) : gk_Met l gk_Y Γ y_SD_runFiltersAtTheEnd (.code y_SD_runFiltersAtTheEnd c_SD_runFiltersAtTheEnd 4 none :: gk_Y.2.2.2) rm_SD_runFiltersAtTheEnd [va_rf a0] M none ρ :=
  gk_start (by decide) (by simp [lg_sl, gk_rc, gk_ic, gk_jc]) [some (va_rf a0), none, none, none] (by simp [gk_as, lv_args, gk_rc, gk_ic, gk_jc]) (fun p e s m args below meth c B hr hin => sn_SD_runFiltersAtTheEnd_0 B hr h)
theorem d_Accepted_clear_0 : decode c_Accepted_clear 0 = .ok (.aload_n 0, 1) := by decide +kernel
theorem d_Accepted_clear_1 : decode c_Accepted_clear 1 = .ok (.iconst 0, 1) := by decide +kernel
theorem d_Accepted_clear_2 : decode c_Accepted_clear 2 = .ok (.putfield 18, 3) := by decide +kernel
theorem d_Accepted_clear_5 : decode c_Accepted_clear 5 = .ok (.return_, 1) := by decide +kernel
set_option maxHeartbeats 4000000 in
set_option maxRecDepth 100000 in
theorem sn_Accepted_clear_0 {l : Launch} {Γ : gk_G} {p : Program} {e : Env} {s : State} {m : MethodId} {args : Array Value} {below : List Frame} {meth : Method} {c : Code} (B : gk_B p s m args meth c gk_Y Γ c_Accepted_clear 1 "StageDispatcher$Accepted") (hr : meth.sig.returnType = none) {ρ : gk_M}   {a0 : Option Nat} {M : gk_M} (h : fn_Accepted_clear  a0 M = some ρ) : Gk p l e rm_Accepted_clear s m args below meth c gk_Y Γ 1 (MQ below (gk_Q gk_Y Γ none ρ) args s rm_Accepted_clear.cells rm_Accepted_clear.slots (fun q => Γ.2.2 ≤ q)) 0 0 M 0 [some (va_rf a0)] [] := by
  unfold fn_Accepted_clear at h
  refine Gk_aload_n (i := 0) (r := a0) B d_Accepted_clear_0 rfl rfl ?_
  refine Gk_iconst (v := 0) B d_Accepted_clear_1 (by decide) ?_
  obtain ⟨M2, h2, h⟩ := gk_bind h
  refine Gk_put (j := 2) (ty := .int) B d_Accepted_clear_2 in_Accepted t_Accepted t_Accepted_ok n_Accepted cl_Accepted (by decide) tw_161 rfl rfl rfl rfl rfl h2 ?_
  cases h
  exact Gk_vret B hr d_Accepted_clear_5 (by decide) (by decide) rfl
theorem sn_Accepted_clear {l : Launch} {Γ : gk_G} {a0 : Option Nat} {M : gk_M} {ρ : gk_M} (h : fn_Accepted_clear a0 M = some ρ) : gk_Met l gk_Y Γ y_Accepted_clear (.code y_Accepted_clear c_Accepted_clear 1 none :: gk_Y.2.2.2) rm_Accepted_clear [va_rf a0] M none ρ :=
  gk_start (by decide) (by simp [lg_sl, gk_rc, gk_ic, gk_jc]) [some (va_rf a0)] (by simp [gk_as, lv_args, gk_rc, gk_ic, gk_jc]) (fun p e s m args below meth c B hr hin => sn_Accepted_clear_0 B hr h)
