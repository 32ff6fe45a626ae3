theorem d_Route_heaviestOfMethods_0 : decode c_Route_heaviestOfMethods 0 = .ok (.aconst_null, 1) := by decide +kernel
theorem d_Route_heaviestOfMethods_1 : decode c_Route_heaviestOfMethods 1 = .ok (.astore_n 3, 1) := by decide +kernel
theorem d_Route_heaviestOfMethods_2 : decode c_Route_heaviestOfMethods 2 = .ok (.iconst 0, 1) := by decide +kernel
theorem d_Route_heaviestOfMethods_3 : decode c_Route_heaviestOfMethods 3 = .ok (.istore 4, 2) := by decide +kernel
theorem d_Route_heaviestOfMethods_5 : decode c_Route_heaviestOfMethods 5 = .ok (.iload 4, 2) := by decide +kernel
theorem d_Route_heaviestOfMethods_7 : decode c_Route_heaviestOfMethods 7 = .ok (.aload_n 1, 1) := by decide +kernel
theorem d_Route_heaviestOfMethods_8 : decode c_Route_heaviestOfMethods 8 = .ok (.getfield 102, 3) := by decide +kernel
theorem d_Route_heaviestOfMethods_11 : decode c_Route_heaviestOfMethods 11 = .ok (.if_icmp .ge 93, 3) := by decide +kernel
theorem d_Route_heaviestOfMethods_14 : decode c_Route_heaviestOfMethods 14 = .ok (.aload_n 1, 1) := by decide +kernel
theorem d_Route_heaviestOfMethods_15 : decode c_Route_heaviestOfMethods 15 = .ok (.getfield 105, 3) := by decide +kernel
theorem d_Route_heaviestOfMethods_18 : decode c_Route_heaviestOfMethods 18 = .ok (.iload 4, 2) := by decide +kernel
theorem d_Route_heaviestOfMethods_20 : decode c_Route_heaviestOfMethods 20 = .ok (.aaload, 1) := by decide +kernel
theorem d_Route_heaviestOfMethods_21 : decode c_Route_heaviestOfMethods 21 = .ok (.getfield 109, 3) := by decide +kernel
theorem d_Route_heaviestOfMethods_24 : decode c_Route_heaviestOfMethods 24 = .ok (.astore 5, 2) := by decide +kernel
theorem d_Route_heaviestOfMethods_26 : decode c_Route_heaviestOfMethods 26 = .ok (.aload 5, 2) := by decide +kernel
theorem d_Route_heaviestOfMethods_28 : decode c_Route_heaviestOfMethods 28 = .ok (.ifnull 70, 3) := by decide +kernel
theorem d_Route_heaviestOfMethods_31 : decode c_Route_heaviestOfMethods 31 = .ok (.aload_n 0, 1) := by decide +kernel
theorem d_Route_heaviestOfMethods_32 : decode c_Route_heaviestOfMethods 32 = .ok (.getfield 22, 3) := by decide +kernel
theorem d_Route_heaviestOfMethods_35 : decode c_Route_heaviestOfMethods 35 = .ok (.aload_n 1, 1) := by decide +kernel
theorem d_Route_heaviestOfMethods_36 : decode c_Route_heaviestOfMethods 36 = .ok (.getfield 105, 3) := by decide +kernel
theorem d_Route_heaviestOfMethods_39 : decode c_Route_heaviestOfMethods 39 = .ok (.iload 4, 2) := by decide +kernel
theorem d_Route_heaviestOfMethods_41 : decode c_Route_heaviestOfMethods 41 = .ok (.aaload, 1) := by decide +kernel
theorem d_Route_heaviestOfMethods_42 : decode c_Route_heaviestOfMethods 42 = .ok (.getfield 112, 3) := by decide +kernel
theorem d_Route_heaviestOfMethods_45 : decode c_Route_heaviestOfMethods 45 = .ok (.invokestatic 115, 3) := by decide +kernel
theorem d_Route_heaviestOfMethods_48 : decode c_Route_heaviestOfMethods 48 = .ok (.ifCond .eq 50, 3) := by decide +kernel
theorem d_Route_heaviestOfMethods_51 : decode c_Route_heaviestOfMethods 51 = .ok (.aload_n 3, 1) := by decide +kernel
theorem d_Route_heaviestOfMethods_52 : decode c_Route_heaviestOfMethods 52 = .ok (.ifnull 12, 3) := by decide +kernel
theorem d_Route_heaviestOfMethods_55 : decode c_Route_heaviestOfMethods 55 = .ok (.aload 5, 2) := by decide +kernel
theorem d_Route_heaviestOfMethods_57 : decode c_Route_heaviestOfMethods 57 = .ok (.aload_n 3, 1) := by decide +kernel
theorem d_Route_heaviestOfMethods_58 : decode c_Route_heaviestOfMethods 58 = .ok (.invokevirtual 37, 3) := by decide +kernel
theorem d_Route_heaviestOfMethods_61 : decode c_Route_heaviestOfMethods 61 = .ok (.ifCond .eq 37, 3) := by decide +kernel
theorem d_Route_heaviestOfMethods_64 : decode c_Route_heaviestOfMethods 64 = .ok (.aload_n 0, 1) := by decide +kernel
theorem d_Route_heaviestOfMethods_65 : decode c_Route_heaviestOfMethods 65 = .ok (.getfield 12, 3) := by decide +kernel
theorem d_Route_heaviestOfMethods_68 : decode c_Route_heaviestOfMethods 68 = .ok (.aload 5, 2) := by decide +kernel
theorem d_Route_heaviestOfMethods_70 : decode c_Route_heaviestOfMethods 70 = .ok (.aload_n 2, 1) := by decide +kernel
theorem d_Route_heaviestOfMethods_71 : decode c_Route_heaviestOfMethods 71 = .ok (.aload_n 0, 1) := by decide +kernel
theorem d_Route_heaviestOfMethods_72 : decode c_Route_heaviestOfMethods 72 = .ok (.getfield 18, 3) := by decide +kernel
theorem d_Route_heaviestOfMethods_75 : decode c_Route_heaviestOfMethods 75 = .ok (.invokevirtual 49, 3) := by decide +kernel
theorem d_Route_heaviestOfMethods_78 : decode c_Route_heaviestOfMethods 78 = .ok (.ifCond .eq 20, 3) := by decide +kernel
theorem d_Route_heaviestOfMethods_81 : decode c_Route_heaviestOfMethods 81 = .ok (.aload_n 2, 1) := by decide +kernel
theorem d_Route_heaviestOfMethods_82 : decode c_Route_heaviestOfMethods 82 = .ok (.aload_n 0, 1) := by decide +kernel
theorem d_Route_heaviestOfMethods_83 : decode c_Route_heaviestOfMethods 83 = .ok (.getfield 12, 3) := by decide +kernel
theorem d_Route_heaviestOfMethods_86 : decode c_Route_heaviestOfMethods 86 = .ok (.getfield 53, 3) := by decide +kernel
theorem d_Route_heaviestOfMethods_89 : decode c_Route_heaviestOfMethods 89 = .ok (.invokevirtual 56, 3) := by decide +kernel
theorem d_Route_heaviestOfMethods_92 : decode c_Route_heaviestOfMethods 92 = .ok (.ifCond .eq 6, 3) := by decide +kernel
theorem d_Route_heaviestOfMethods_95 : decode c_Route_heaviestOfMethods 95 = .ok (.aload 5, 2) := by decide +kernel
theorem d_Route_heaviestOfMethods_97 : decode c_Route_heaviestOfMethods 97 = .ok (.astore_n 3, 1) := by decide +kernel
theorem d_Route_heaviestOfMethods_98 : decode c_Route_heaviestOfMethods 98 = .ok (.iinc 4 1, 3) := by decide +kernel
theorem d_Route_heaviestOfMethods_101 : decode c_Route_heaviestOfMethods 101 = .ok (.goto (-96), 3) := by decide +kernel
theorem d_Route_heaviestOfMethods_104 : decode c_Route_heaviestOfMethods 104 = .ok (.aload_n 3, 1) := by decide +kernel
theorem d_Route_heaviestOfMethods_105 : decode c_Route_heaviestOfMethods 105 = .ok (.areturn, 1) := by decide +kernel
set_option maxHeartbeats 4000000 in
set_option maxRecDepth 100000 in
theorem sn_Route_heaviestOfMethods_98 {l : Launch} {Γ : gk_G} {p : Program} {e : Env} {s : State} {m : MethodId} {args : Array Value} {below : List Frame} {meth : Method} {c : Code} (B : gk_B p s m args meth c gk_Y Γ c_Route_heaviestOfMethods 6 "StageDispatcher$Route") (hr : meth.sig.returnType = (some (.object "StageDispatcher$Template"))) {ρ : Option Nat × gk_M} {k5 : Option Nat → Option Nat → Option Nat → Option Nat → Int32 → gk_M → Option (Option Nat × gk_M)} (H5 : ∀ (a0 : Option Nat) (a1 : Option Nat) (a2 : Option Nat) (a3 : Option Nat) (x4 : Int32) (M : gk_M), k5 a0 a1 a2 a3 x4 M = some ρ → Gk p l e rm_Route_heaviestOfMethods s m args below meth c gk_Y Γ 6 (MQ below (gk_Q gk_Y Γ (some (va_rf ρ.1)) ρ.2) args s rm_Route_heaviestOfMethods.cells rm_Route_heaviestOfMethods.slots (fun q => Γ.2.2 ≤ q)) 0 0 M 5 [some (va_rf a0), some (va_rf a1), some (va_rf a2), some (va_rf a3), some (.int x4), none] []) {a0 : Option Nat} {a1 : Option Nat} {a2 : Option Nat} {a3 : Option Nat} {x4 : Int32} {M : gk_M} (h : fn_Route_heaviestOfMethods_98 k5 a0 a1 a2 a3 x4 M = some ρ) : Gk p l e rm_Route_heaviestOfMethods s m args below meth c gk_Y Γ 6 (MQ below (gk_Q gk_Y Γ (some (va_rf ρ.1)) ρ.2) args s rm_Route_heaviestOfMethods.cells rm_Route_heaviestOfMethods.slots (fun q => Γ.2.2 ≤ q)) 0 0 M 98 [some (va_rf a0), some (va_rf a1), some (va_rf a2), some (va_rf a3), some (.int x4), none] [] := by
  unfold fn_Route_heaviestOfMethods_98 at h
  refine Gk_iinc (x := x4) (v := (x4 + 1)) (L' := [some (va_rf a0), some (va_rf a1), some (va_rf a2), some (va_rf a3), some (.int (x4 + 1)), none]) B d_Route_heaviestOfMethods_98 rfl (congrArg (fun z => x4 + z) (by decide : Int32.ofInt 1 = 1)) (by decide) (gk_c1_r rfl) rfl ?_
  refine Gk_goto (tgt := 5) B d_Route_heaviestOfMethods_101 rfl ?_
  exact H5 a0 a1 a2 a3 (x4 + 1) M h
set_option maxHeartbeats 4000000 in
set_option maxRecDepth 100000 in
theorem sn_Route_heaviestOfMethods_64 {l : Launch} {Γ : gk_G} {p : Program} {e : Env} {s : State} {m : MethodId} {args : Array Value} {below : List Frame} {meth : Method} {c : Code} (B : gk_B p s m args meth c gk_Y Γ c_Route_heaviestOfMethods 6 "StageDispatcher$Route") (hr : meth.sig.returnType = (some (.object "StageDispatcher$Template"))) {ρ : Option Nat × gk_M} {k5 : Option Nat → Option Nat → Option Nat → Option Nat → Int32 → gk_M → Option (Option Nat × gk_M)} (H5 : ∀ (a0 : Option Nat) (a1 : Option Nat) (a2 : Option Nat) (a3 : Option Nat) (x4 : Int32) (M : gk_M), k5 a0 a1 a2 a3 x4 M = some ρ → Gk p l e rm_Route_heaviestOfMethods s m args below meth c gk_Y Γ 6 (MQ below (gk_Q gk_Y Γ (some (va_rf ρ.1)) ρ.2) args s rm_Route_heaviestOfMethods.cells rm_Route_heaviestOfMethods.slots (fun q => Γ.2.2 ≤ q)) 0 0 M 5 [some (va_rf a0), some (va_rf a1), some (va_rf a2), some (va_rf a3), some (.int x4), none] []) {a0 : Option Nat} {a1 : Option Nat} {a2 : Option Nat} {a3 : Option Nat} {x4 : Int32} {a5 : Option Nat} {M : gk_M} (h : fn_Route_heaviestOfMethods_64 k5 a0 a1 a2 a3 x4 a5 M = some ρ) : Gk p l e rm_Route_heaviestOfMethods s m args below meth c gk_Y Γ 6 (MQ below (gk_Q gk_Y Γ (some (va_rf ρ.1)) ρ.2) args s rm_Route_heaviestOfMethods.cells rm_Route_heaviestOfMethods.slots (fun q => Γ.2.2 ≤ q)) 0 0 M 64 [some (va_rf a0), some (va_rf a1), some (va_rf a2), some (va_rf a3), some (.int x4), some (va_rf a5)] [] := by
  unfold fn_Route_heaviestOfMethods_64 at h
  refine Gk_aload_n (i := 0) (r := a0) B d_Route_heaviestOfMethods_64 rfl rfl ?_
  obtain ⟨v65, h65, h⟩ := gk_bind h
  refine Gk_getR (j := 0) B d_Route_heaviestOfMethods_65 in_Route cl_Route (by decide) tw_202 rfl h65 ?_
  refine Gk_aload (r := a5) B d_Route_heaviestOfMethods_68 rfl ?_
  refine Gk_aload_n (i := 2) (r := a2) B d_Route_heaviestOfMethods_70 rfl rfl ?_
  refine Gk_aload_n (i := 0) (r := a0) B d_Route_heaviestOfMethods_71 rfl rfl ?_
  obtain ⟨v72, h72, h⟩ := gk_bind h
  refine Gk_getI (j := 1) B d_Route_heaviestOfMethods_72 in_Route cl_Route (by decide) tw_203 rfl h72 ?_
  obtain ⟨o75, g75, h⟩ := gk_bind h
  obtain ⟨w75, h75, h⟩ := gk_bind h
  refine Gk_callV (As := [va_rf a5, va_rf a2, .int v72]) (rest := []) (st1 := [.int w75.1]) (k1 := 0) (n1 := 0) B gk_hG d_Route_heaviestOfMethods_75 (sn_Fit_find h75) g75 cl_Fit tw_575 tw_572 tw_573 tw_574 tw_46 nm_Fit_find rfl (by decide) ⟨by decide, by decide⟩ ⟨by decide, by decide⟩ rfl rfl rfl rfl ?_
  refine Gk_if_eq (tgt := 98) B d_Route_heaviestOfMethods_78 rfl (fun c78 => ?_) (fun c78 => ?_)
  · rw [if_pos c78] at h
    refine Gk_weak [true, true, true, true, true, false] (L' := [some (va_rf a0), some (va_rf a1), some (va_rf a2), some (va_rf a3), some (.int x4), none]) rfl ?_
    exact sn_Route_heaviestOfMethods_98 B hr H5 h
  rw [if_neg c78] at h
  refine Gk_aload_n (i := 2) (r := a2) B d_Route_heaviestOfMethods_81 rfl rfl ?_
  refine Gk_aload_n (i := 0) (r := a0) B d_Route_heaviestOfMethods_82 rfl rfl ?_
  obtain ⟨v83, h83, h⟩ := gk_bind h
  refine Gk_getR (j := 0) B d_Route_heaviestOfMethods_83 in_Route cl_Route (by decide) tw_202 rfl h83 ?_
  obtain ⟨v86, h86, h⟩ := gk_bind h
  refine Gk_getI (j := 4) B d_Route_heaviestOfMethods_86 in_Fit cl_Fit (by decide) tw_190 rfl h86 ?_
  obtain ⟨o89, g89, h⟩ := gk_bind h
  obtain ⟨w89, h89, h⟩ := gk_bind h
  refine Gk_callV (As := [.int v86]) (rest := []) (st1 := [.int w89.1]) (k1 := 0) (n1 := 0) B gk_hG d_Route_heaviestOfMethods_89 (sn_Text_endsAt h89) g89 cl_Text tw_597 tw_594 tw_595 tw_596 tw_41 nm_Text_endsAt rfl (by decide) ⟨by decide, by decide⟩ ⟨by decide, by decide⟩ rfl rfl rfl rfl ?_
  refine Gk_if_eq (tgt := 98) B d_Route_heaviestOfMethods_92 rfl (fun c92 => ?_) (fun c92 => ?_)
  · rw [if_pos c92] at h
    refine Gk_weak [true, true, true, true, true, false] (L' := [some (va_rf a0), some (va_rf a1), some (va_rf a2), some (va_rf a3), some (.int x4), none]) rfl ?_
    exact sn_Route_heaviestOfMethods_98 B hr H5 h
  rw [if_neg c92] at h
  refine Gk_aload (r := a5) B d_Route_heaviestOfMethods_95 rfl ?_
  refine Gk_astore_n (i := 3) (L' := [some (va_rf a0), some (va_rf a1), some (va_rf a2), some (va_rf a5), some (.int x4), some (va_rf a5)]) B d_Route_heaviestOfMethods_97 rfl (by decide) (gk_c1_r rfl) rfl ?_
  refine Gk_weak [true, true, true, true, true, false] (L' := [some (va_rf a0), some (va_rf a1), some (va_rf a2), some (va_rf a5), some (.int x4), none]) rfl ?_
  exact sn_Route_heaviestOfMethods_98 B hr H5 h
set_option maxHeartbeats 4000000 in
set_option maxRecDepth 100000 in
theorem sn_Route_heaviestOfMethods_5_bd {l : Launch} {Γ : gk_G} {p : Program} {e : Env} {s : State} {m : MethodId} {args : Array Value} {below : List Frame} {meth : Method} {c : Code} (B : gk_B p s m args meth c gk_Y Γ c_Route_heaviestOfMethods 6 "StageDispatcher$Route") (hr : meth.sig.returnType = (some (.object "StageDispatcher$Template"))) {ρ : Option Nat × gk_M} {k5 : Option Nat → Option Nat → Option Nat → Option Nat → Int32 → gk_M → Option (Option Nat × gk_M)} (H5 : ∀ (a0 : Option Nat) (a1 : Option Nat) (a2 : Option Nat) (a3 : Option Nat) (x4 : Int32) (M : gk_M), k5 a0 a1 a2 a3 x4 M = some ρ → Gk p l e rm_Route_heaviestOfMethods s m args below meth c gk_Y Γ 6 (MQ below (gk_Q gk_Y Γ (some (va_rf ρ.1)) ρ.2) args s rm_Route_heaviestOfMethods.cells rm_Route_heaviestOfMethods.slots (fun q => Γ.2.2 ≤ q)) 0 0 M 5 [some (va_rf a0), some (va_rf a1), some (va_rf a2), some (va_rf a3), some (.int x4), none] []) {a0 : Option Nat} {a1 : Option Nat} {a2 : Option Nat} {a3 : Option Nat} {x4 : Int32} {M : gk_M} (h : fn_Route_heaviestOfMethods_5_bd k5 a0 a1 a2 a3 x4 M = some ρ) : Gk p l e rm_Route_heaviestOfMethods s m args below meth c gk_Y Γ 6 (MQ below (gk_Q gk_Y Γ (some (va_rf ρ.1)) ρ.2) args s rm_Route_heaviestOfMethods.cells rm_Route_heaviestOfMethods.slots (fun q => Γ.2.2 ≤ q)) 0 0 M 5 [some (va_rf a0), some (va_rf a1), some (va_rf a2), some (va_rf a3), some (.int x4), none] [] := by
  unfold fn_Route_heaviestOfMethods_5_bd at h
  refine Gk_iload (x := x4) B d_Route_heaviestOfMethods_5 rfl ?_
  refine Gk_aload_n (i := 1) (r := a1) B d_Route_heaviestOfMethods_7 rfl rfl ?_
  obtain ⟨v8, h8, h⟩ := gk_bind h
  refine Gk_getI (j := 4) B d_Route_heaviestOfMethods_8 in_Catalog cl_Catalog (by decide) tw_109 rfl h8 ?_
  refine Gk_icmp_ge (tgt := 104) B d_Route_heaviestOfMethods_11 rfl (fun c11 => ?_) (fun c11 => ?_)
  · rw [if_pos c11] at h
    refine Gk_aload_n (i := 3) (r := a3) B d_Route_heaviestOfMethods_104 rfl rfl ?_
    cases h
    exact Gk_aret B hr d_Route_heaviestOfMethods_105 (Or.inl ⟨_, rfl⟩) (by decide) (by decide) rfl
  rw [if_neg c11] at h
  refine Gk_aload_n (i := 1) (r := a1) B d_Route_heaviestOfMethods_14 rfl rfl ?_
  obtain ⟨v15, h15, h⟩ := gk_bind h
  refine Gk_getR (j := 1) B d_Route_heaviestOfMethods_15 in_Catalog cl_Catalog (by decide) tw_100 rfl h15 ?_
  refine Gk_iload (x := x4) B d_Route_heaviestOfMethods_18 rfl ?_
  obtain ⟨v20, h20, h⟩ := gk_bind h
  refine Gk_aaload B d_Route_heaviestOfMethods_20 ty_4 h20 ?_
  obtain ⟨v21, h21, h⟩ := gk_bind h
  refine Gk_getR (j := 1) B d_Route_heaviestOfMethods_21 in_Method cl_Method (by decide) tw_391 rfl h21 ?_
  refine Gk_astore (L' := [some (va_rf a0), some (va_rf a1), some (va_rf a2), some (va_rf a3), some (.int x4), some (va_rf v21)]) B d_Route_heaviestOfMethods_24 (by decide) (gk_c1_i rfl) rfl ?_
  refine Gk_aload (r := v21) B d_Route_heaviestOfMethods_26 rfl ?_
  refine Gk_ifnull (tgt := 98) B d_Route_heaviestOfMethods_28 rfl (fun c28 => ?_) (fun c28 => ?_)
  · rw [if_pos c28] at h
    refine Gk_weak [true, true, true, true, true, false] (L' := [some (va_rf a0), some (va_rf a1), some (va_rf a2), some (va_rf a3), some (.int x4), none]) rfl ?_
    exact sn_Route_heaviestOfMethods_98 B hr H5 h
  rw [if_neg c28] at h
  refine Gk_aload_n (i := 0) (r := a0) B d_Route_heaviestOfMethods_31 rfl rfl ?_
  obtain ⟨v32, h32, h⟩ := gk_bind h
  refine Gk_getI (j := 2) B d_Route_heaviestOfMethods_32 in_Route cl_Route (by decide) tw_204 rfl h32 ?_
  refine Gk_aload_n (i := 1) (r := a1) B d_Route_heaviestOfMethods_35 rfl rfl ?_
  obtain ⟨v36, h36, h⟩ := gk_bind h
  refine Gk_getR (j := 1) B d_Route_heaviestOfMethods_36 in_Catalog cl_Catalog (by decide) tw_100 rfl h36 ?_
  refine Gk_iload (x := x4) B d_Route_heaviestOfMethods_39 rfl ?_
  obtain ⟨v41, h41, h⟩ := gk_bind h
  refine Gk_aaload B d_Route_heaviestOfMethods_41 ty_4 h41 ?_
  obtain ⟨v42, h42, h⟩ := gk_bind h
  refine Gk_getI (j := 0) B d_Route_heaviestOfMethods_42 in_Method cl_Method (by decide) tw_388 rfl h42 ?_
  obtain ⟨w45, h45, h⟩ := gk_bind h
  refine Gk_callSN (As := [.int v32, .int v42]) (rest := []) (st1 := [.int w45.1]) (k1 := 0) (n1 := 0) B gk_hG d_Route_heaviestOfMethods_45 (sn_SD_holds h45) tw_593 nw_631 tw_592 tw_40 nm_SD_holds rfl (by decide) ⟨by decide, by decide⟩ ⟨by decide, by decide⟩ rfl rfl rfl rfl ?_
  refine Gk_if_eq (tgt := 98) B d_Route_heaviestOfMethods_48 rfl (fun c48 => ?_) (fun c48 => ?_)
  · rw [if_pos c48] at h
    refine Gk_weak [true, true, true, true, true, false] (L' := [some (va_rf a0), some (va_rf a1), some (va_rf a2), some (va_rf a3), some (.int x4), none]) rfl ?_
    exact sn_Route_heaviestOfMethods_98 B hr H5 h
  rw [if_neg c48] at h
  refine Gk_aload_n (i := 3) (r := a3) B d_Route_heaviestOfMethods_51 rfl rfl ?_
  refine Gk_ifnull (tgt := 64) B d_Route_heaviestOfMethods_52 rfl (fun c52 => ?_) (fun c52 => ?_)
  · rw [if_pos c52] at h
    exact sn_Route_heaviestOfMethods_64 B hr H5 h
  rw [if_neg c52] at h
  refine Gk_aload (r := v21) B d_Route_heaviestOfMethods_55 rfl ?_
  refine Gk_aload_n (i := 3) (r := a3) B d_Route_heaviestOfMethods_57 rfl rfl ?_
  obtain ⟨o58, g58, h⟩ := gk_bind h
  obtain ⟨w58, h58, h⟩ := gk_bind h
  refine Gk_callV (As := [va_rf a3]) (rest := []) (st1 := [.int w58.1]) (k1 := 0) (n1 := 0) B gk_hG d_Route_heaviestOfMethods_58 (sn_Template_isHeavierThan h58) g58 cl_Template tw_571 tw_568 tw_569 tw_570 tw_49 nm_Template_isHeavierThan rfl (by decide) ⟨by decide, by decide⟩ ⟨by decide, by decide⟩ rfl rfl rfl rfl ?_
  refine Gk_if_eq (tgt := 98) B d_Route_heaviestOfMethods_61 rfl (fun c61 => ?_) (fun c61 => ?_)
  · rw [if_pos c61] at h
    refine Gk_weak [true, true, true, true, true, false] (L' := [some (va_rf a0), some (va_rf a1), some (va_rf a2), some (va_rf a3), some (.int x4), none]) rfl ?_
    exact sn_Route_heaviestOfMethods_98 B hr H5 h
  rw [if_neg c61] at h
  exact sn_Route_heaviestOfMethods_64 B hr H5 h
set_option maxHeartbeats 4000000 in
set_option maxRecDepth 100000 in
theorem sn_Route_heaviestOfMethods_5 {l : Launch} {Γ : gk_G} {p : Program} {e : Env} {s : State} {m : MethodId} {args : Array Value} {below : List Frame} {meth : Method} {c : Code} (B : gk_B p s m args meth c gk_Y Γ c_Route_heaviestOfMethods 6 "StageDispatcher$Route") (hr : meth.sig.returnType = (some (.object "StageDispatcher$Template"))) {ρ : Option Nat × gk_M}   {a0 : Option Nat} {a1 : Option Nat} {a2 : Option Nat} {a3 : Option Nat} {x4 : Int32} {M : gk_M} (h : fn_Route_heaviestOfMethods_5  a0 a1 a2 a3 x4 M = some ρ) : Gk p l e rm_Route_heaviestOfMethods s m args below meth c gk_Y Γ 6 (MQ below (gk_Q gk_Y Γ (some (va_rf ρ.1)) ρ.2) args s rm_Route_heaviestOfMethods.cells rm_Route_heaviestOfMethods.slots (fun q => Γ.2.2 ≤ q)) 0 0 M 5 [some (va_rf a0), some (va_rf a1), some (va_rf a2), some (va_rf a3), some (.int x4), none] [] := by
  unfold fn_Route_heaviestOfMethods_5 at h
  exact gk_loop_sound (α := Option Nat × Option Nat × Option Nat × Option Nat × Int32 × gk_M) (P := fun a => Gk p l e rm_Route_heaviestOfMethods s m args below meth c gk_Y Γ 6 (MQ below (gk_Q gk_Y Γ (some (va_rf ρ.1)) ρ.2) args s rm_Route_heaviestOfMethods.cells rm_Route_heaviestOfMethods.slots (fun q => Γ.2.2 ≤ q)) 0 0 a.2.2.2.2.2 5 [some (va_rf a.1), some (va_rf a.2.1), some (va_rf a.2.2.1), some (va_rf a.2.2.2.1), some (.int a.2.2.2.2.1), none] []) (fun kk a Hk hb => sn_Route_heaviestOfMethods_5_bd B hr (fun a0 a1 a2 a3 x4 M hh => Hk (a0, a1, a2, a3, x4, M) hh) hb) _ _ h
set_option maxHeartbeats 4000000 in
set_option maxRecDepth 100000 in
theorem sn_Route_heaviestOfMethods_0 {l : Launch} {Γ : gk_G} {p : Program} {e : Env} {s : State} {m : MethodId} {args : Array Value} {below : List Frame} {meth : Method} {c : Code} (B : gk_B p s m args meth c gk_Y Γ c_Route_heaviestOfMethods 6 "StageDispatcher$Route") (hr : meth.sig.returnType = (some (.object "StageDispatcher$Template"))) {ρ : Option Nat × gk_M}   {a0 : Option Nat} {a1 : Option Nat} {a2 : Option Nat} {M : gk_M} (h : fn_Route_heaviestOfMethods  a0 a1 a2 M = some ρ) : Gk p l e rm_Route_heaviestOfMethods s m args below meth c gk_Y Γ 6 (MQ below (gk_Q gk_Y Γ (some (va_rf ρ.1)) ρ.2) args s rm_Route_heaviestOfMethods.cells rm_Route_heaviestOfMethods.slots (fun q => Γ.2.2 ≤ q)) 0 0 M 0 [some (va_rf a0), some (va_rf a1), some (va_rf a2), none, none, none] [] := by
  unfold fn_Route_heaviestOfMethods at h
  refine Gk_null B d_Route_heaviestOfMethods_0 ?_
  refine Gk_astore_n (i := 3) (L' := [some (va_rf a0), some (va_rf a1), some (va_rf a2), some (va_rf none), none, none]) B d_Route_heaviestOfMethods_1 rfl (by decide) (gk_c1_r rfl) rfl ?_
  refine Gk_iconst (v := 0) B d_Route_heaviestOfMethods_2 (by decide) ?_
  refine Gk_istore (L' := [some (va_rf a0), some (va_rf a1), some (va_rf a2), some (va_rf none), some (.int 0), none]) B d_Route_heaviestOfMethods_3 (by decide) (gk_c1_r rfl) rfl ?_
  exact sn_Route_heaviestOfMethods_5 B hr h
theorem sn_Route_heaviestOfMethods {l : Launch} {Γ : gk_G} {a0 : Option Nat} {a1 : Option Nat} {a2 : Option Nat} {M : gk_M} {ρ : Option Nat × gk_M} (h : fn_Route_heaviestOfMethods a0 a1 a2 M = some ρ) : gk_Met l gk_Y Γ y_Route_heaviestOfMethods (.code y_Route_heaviestOfMethods c_Route_heaviestOfMethods 6 (some (.object "StageDispatcher$Template")) :: gk_Y.2.2.2) rm_Route_heaviestOfMethods [va_rf a0, va_rf a1, va_rf a2] M (some (va_rf ρ.1)) ρ.2 :=
  gk_start (by decide) (by simp [lg_sl, gk_rc, gk_ic, gk_jc]) [some (va_rf a0), some (va_rf a1), some (va_rf a2), none, none, none] (by simp [gk_as, lv_args, gk_rc, gk_ic, gk_jc]) (fun p e s m args below meth c B hr hin => sn_Route_heaviestOfMethods_0 B hr h)
theorem d_Route_heaviestLocator_0 : decode c_Route_heaviestLocator 0 = .ok (.aconst_null, 1) := by decide +kernel
theorem d_Route_heaviestLocator_1 : decode c_Route_heaviestLocator 1 = .ok (.astore_n 3, 1) := by decide +kernel
theorem d_Route_heaviestLocator_2 : decode c_Route_heaviestLocator 2 = .ok (.iconst 0, 1) := by decide +kernel
theorem d_Route_heaviestLocator_3 : decode c_Route_heaviestLocator 3 = .ok (.istore 4, 2) := by decide +kernel
theorem d_Route_heaviestLocator_5 : decode c_Route_heaviestLocator 5 = .ok (.iload 4, 2) := by decide +kernel
theorem d_Route_heaviestLocator_7 : decode c_Route_heaviestLocator 7 = .ok (.aload_n 1, 1) := by decide +kernel
theorem d_Route_heaviestLocator_8 : decode c_Route_heaviestLocator 8 = .ok (.getfield 119, 3) := by decide +kernel
theorem d_Route_heaviestLocator_11 : decode c_Route_heaviestLocator 11 = .ok (.if_icmp .ge 75, 3) := by decide +kernel
theorem d_Route_heaviestLocator_14 : decode c_Route_heaviestLocator 14 = .ok (.aload_n 1, 1) := by decide +kernel
theorem d_Route_heaviestLocator_15 : decode c_Route_heaviestLocator 15 = .ok (.getfield 122, 3) := by decide +kernel
theorem d_Route_heaviestLocator_18 : decode c_Route_heaviestLocator 18 = .ok (.iload 4, 2) := by decide +kernel
theorem d_Route_heaviestLocator_20 : decode c_Route_heaviestLocator 20 = .ok (.aaload, 1) := by decide +kernel
theorem d_Route_heaviestLocator_21 : decode c_Route_heaviestLocator 21 = .ok (.astore 5, 2) := by decide +kernel
theorem d_Route_heaviestLocator_23 : decode c_Route_heaviestLocator 23 = .ok (.aload_n 0, 1) := by decide +kernel
theorem d_Route_heaviestLocator_24 : decode c_Route_heaviestLocator 24 = .ok (.getfield 22, 3) := by decide +kernel
theorem d_Route_heaviestLocator_27 : decode c_Route_heaviestLocator 27 = .ok (.aload 5, 2) := by decide +kernel
theorem d_Route_heaviestLocator_29 : decode c_Route_heaviestLocator 29 = .ok (.getfield 126, 3) := by decide +kernel
theorem d_Route_heaviestLocator_32 : decode c_Route_heaviestLocator 32 = .ok (.invokestatic 115, 3) := by decide +kernel
theorem d_Route_heaviestLocator_35 : decode c_Route_heaviestLocator 35 = .ok (.ifCond .eq 45, 3) := by decide +kernel
theorem d_Route_heaviestLocator_38 : decode c_Route_heaviestLocator 38 = .ok (.aload_n 3, 1) := by decide +kernel
theorem d_Route_heaviestLocator_39 : decode c_Route_heaviestLocator 39 = .ok (.ifnull 18, 3) := by decide +kernel
theorem d_Route_heaviestLocator_42 : decode c_Route_heaviestLocator 42 = .ok (.aload 5, 2) := by decide +kernel
theorem d_Route_heaviestLocator_44 : decode c_Route_heaviestLocator 44 = .ok (.getfield 85, 3) := by decide +kernel
theorem d_Route_heaviestLocator_47 : decode c_Route_heaviestLocator 47 = .ok (.aload_n 3, 1) := by decide +kernel
theorem d_Route_heaviestLocator_48 : decode c_Route_heaviestLocator 48 = .ok (.getfield 85, 3) := by decide +kernel
theorem d_Route_heaviestLocator_51 : decode c_Route_heaviestLocator 51 = .ok (.invokevirtual 37, 3) := by decide +kernel
theorem d_Route_heaviestLocator_54 : decode c_Route_heaviestLocator 54 = .ok (.ifCond .eq 26, 3) := by decide +kernel
theorem d_Route_heaviestLocator_57 : decode c_Route_heaviestLocator 57 = .ok (.aload_n 0, 1) := by decide +kernel
theorem d_Route_heaviestLocator_58 : decode c_Route_heaviestLocator 58 = .ok (.getfield 12, 3) := by decide +kernel
theorem d_Route_heaviestLocator_61 : decode c_Route_heaviestLocator 61 = .ok (.aload 5, 2) := by decide +kernel
theorem d_Route_heaviestLocator_63 : decode c_Route_heaviestLocator 63 = .ok (.getfield 85, 3) := by decide +kernel
theorem d_Route_heaviestLocator_66 : decode c_Route_heaviestLocator 66 = .ok (.aload_n 2, 1) := by decide +kernel
theorem d_Route_heaviestLocator_67 : decode c_Route_heaviestLocator 67 = .ok (.aload_n 0, 1) := by decide +kernel
theorem d_Route_heaviestLocator_68 : decode c_Route_heaviestLocator 68 = .ok (.getfield 18, 3) := by decide +kernel
theorem d_Route_heaviestLocator_71 : decode c_Route_heaviestLocator 71 = .ok (.invokevirtual 49, 3) := by decide +kernel
theorem d_Route_heaviestLocator_74 : decode c_Route_heaviestLocator 74 = .ok (.ifCond .eq 6, 3) := by decide +kernel
theorem d_Route_heaviestLocator_77 : decode c_Route_heaviestLocator 77 = .ok (.aload 5, 2) := by decide +kernel
theorem d_Route_heaviestLocator_79 : decode c_Route_heaviestLocator 79 = .ok (.astore_n 3, 1) := by decide +kernel
theorem d_Route_heaviestLocator_80 : decode c_Route_heaviestLocator 80 = .ok (.iinc 4 1, 3) := by decide +kernel
theorem d_Route_heaviestLocator_83 : decode c_Route_heaviestLocator 83 = .ok (.goto (-78), 3) := by decide +kernel
theorem d_Route_heaviestLocator_86 : decode c_Route_heaviestLocator 86 = .ok (.aload_n 3, 1) := by decide +kernel
theorem d_Route_heaviestLocator_87 : decode c_Route_heaviestLocator 87 = .ok (.areturn, 1) := by decide +kernel
set_option maxHeartbeats 4000000 in
set_option maxRecDepth 100000 in
theorem sn_Route_heaviestLocator_80 {l : Launch} {Γ : gk_G} {p : Program} {e : Env} {s : State} {m : MethodId} {args : Array Value} {below : List Frame} {meth : Method} {c : Code} (B : gk_B p s m args meth c gk_Y Γ c_Route_heaviestLocator 6 "StageDispatcher$Route") (hr : meth.sig.returnType = (some (.object "StageDispatcher$Locator"))) {ρ : Option Nat × gk_M} {k5 : Option Nat → Option Nat → Option Nat → Option Nat → Int32 → gk_M → Option (Option Nat × gk_M)} (H5 : ∀ (a0 : Option Nat) (a1 : Option Nat) (a2 : Option Nat) (a3 : Option Nat) (x4 : Int32) (M : gk_M), k5 a0 a1 a2 a3 x4 M = some ρ → Gk p l e rm_Route_heaviestLocator s m args below meth c gk_Y Γ 6 (MQ below (gk_Q gk_Y Γ (some (va_rf ρ.1)) ρ.2) args s rm_Route_heaviestLocator.cells rm_Route_heaviestLocator.slots (fun q => Γ.2.2 ≤ q)) 0 0 M 5 [some (va_rf a0), some (va_rf a1), some (va_rf a2), some (va_rf a3), some (.int x4), none] []) {a0 : Option Nat} {a1 : Option Nat} {a2 : Option Nat} {a3 : Option Nat} {x4 : Int32} {M : gk_M} (h : fn_Route_heaviestLocator_80 k5 a0 a1 a2 a3 x4 M = some ρ) : Gk p l e rm_Route_heaviestLocator s m args below meth c gk_Y Γ 6 (MQ below (gk_Q gk_Y Γ (some (va_rf ρ.1)) ρ.2) args s rm_Route_heaviestLocator.cells rm_Route_heaviestLocator.slots (fun q => Γ.2.2 ≤ q)) 0 0 M 80 [some (va_rf a0), some (va_rf a1), some (va_rf a2), some (va_rf a3), some (.int x4), none] [] := by
  unfold fn_Route_heaviestLocator_80 at h
  refine Gk_iinc (x := x4) (v := (x4 + 1)) (L' := [some (va_rf a0), some (va_rf a1), some (va_rf a2), some (va_rf a3), some (.int (x4 + 1)), none]) B d_Route_heaviestLocator_80 rfl (congrArg (fun z => x4 + z) (by decide : Int32.ofInt 1 = 1)) (by decide) (gk_c1_r rfl) rfl ?_
  refine Gk_goto (tgt := 5) B d_Route_heaviestLocator_83 rfl ?_
  exact H5 a0 a1 a2 a3 (x4 + 1) M h
set_option maxHeartbeats 4000000 in
set_option maxRecDepth 100000 in
theorem sn_Route_heaviestLocator_57 {l : Launch} {Γ : gk_G} {p : Program} {e : Env} {s : State} {m : MethodId} {args : Array Value} {below : List Frame} {meth : Method} {c : Code} (B : gk_B p s m args meth c gk_Y Γ c_Route_heaviestLocator 6 "StageDispatcher$Route") (hr : meth.sig.returnType = (some (.object "StageDispatcher$Locator"))) {ρ : Option Nat × gk_M} {k5 : Option Nat → Option Nat → Option Nat → Option Nat → Int32 → gk_M → Option (Option Nat × gk_M)} (H5 : ∀ (a0 : Option Nat) (a1 : Option Nat) (a2 : Option Nat) (a3 : Option Nat) (x4 : Int32) (M : gk_M), k5 a0 a1 a2 a3 x4 M = some ρ → Gk p l e rm_Route_heaviestLocator s m args below meth c gk_Y Γ 6 (MQ below (gk_Q gk_Y Γ (some (va_rf ρ.1)) ρ.2) args s rm_Route_heaviestLocator.cells rm_Route_heaviestLocator.slots (fun q => Γ.2.2 ≤ q)) 0 0 M 5 [some (va_rf a0), some (va_rf a1), some (va_rf a2), some (va_rf a3), some (.int x4), none] []) {a0 : Option Nat} {a1 : Option Nat} {a2 : Option Nat} {a3 : Option Nat} {x4 : Int32} {a5 : Option Nat} {M : gk_M} (h : fn_Route_heaviestLocator_57 k5 a0 a1 a2 a3 x4 a5 M = some ρ) : Gk p l e rm_Route_heaviestLocator s m args below meth c gk_Y Γ 6 (MQ below (gk_Q gk_Y Γ (some (va_rf ρ.1)) ρ.2) args s rm_Route_heaviestLocator.cells rm_Route_heaviestLocator.slots (fun q => Γ.2.2 ≤ q)) 0 0 M 57 [some (va_rf a0), some (va_rf a1), some (va_rf a2), some (va_rf a3), some (.int x4), some (va_rf a5)] [] := by
  unfold fn_Route_heaviestLocator_57 at h
  refine Gk_aload_n (i := 0) (r := a0) B d_Route_heaviestLocator_57 rfl rfl ?_
  obtain ⟨v58, h58, h⟩ := gk_bind h
  refine Gk_getR (j := 0) B d_Route_heaviestLocator_58 in_Route cl_Route (by decide) tw_202 rfl h58 ?_
  refine Gk_aload (r := a5) B d_Route_heaviestLocator_61 rfl ?_
  obtain ⟨v63, h63, h⟩ := gk_bind h
  refine Gk_getRN (j := 1) B d_Route_heaviestLocator_63 in_Locator cl_Locator (by decide) nw_456 rfl h63 ?_
  refine Gk_aload_n (i := 2) (r := a2) B d_Route_heaviestLocator_66 rfl rfl ?_
  refine Gk_aload_n (i := 0) (r := a0) B d_Route_heaviestLocator_67 rfl rfl ?_
  obtain ⟨v68, h68, h⟩ := gk_bind h
  refine Gk_getI (j := 1) B d_Route_heaviestLocator_68 in_Route cl_Route (by decide) tw_203 rfl h68 ?_
  obtain ⟨o71, g71, h⟩ := gk_bind h
  obtain ⟨w71, h71, h⟩ := gk_bind h
  refine Gk_callV (As := [va_rf v63, va_rf a2, .int v68]) (rest := []) (st1 := [.int w71.1]) (k1 := 0) (n1 := 0) B gk_hG d_Route_heaviestLocator_71 (sn_Fit_find h71) g71 cl_Fit tw_575 tw_572 tw_573 tw_574 tw_46 nm_Fit_find rfl (by decide) ⟨by decide, by decide⟩ ⟨by decide, by decide⟩ rfl rfl rfl rfl ?_
  refine Gk_if_eq (tgt := 80) B d_Route_heaviestLocator_74 rfl (fun c74 => ?_) (fun c74 => ?_)
  · rw [if_pos c74] at h
    refine Gk_weak [true, true, true, true, true, false] (L' := [some (va_rf a0), some (va_rf a1), some (va_rf a2), some (va_rf a3), some (.int x4), none]) rfl ?_
    exact sn_Route_heaviestLocator_80 B hr H5 h
  rw [if_neg c74] at h
  refine Gk_aload (r := a5) B d_Route_heaviestLocator_77 rfl ?_
  refine Gk_astore_n (i := 3) (L' := [some (va_rf a0), some (va_rf a1), some (va_rf a2), some (va_rf a5), some (.int x4), some (va_rf a5)]) B d_Route_heaviestLocator_79 rfl (by decide) (gk_c1_r rfl) rfl ?_
  refine Gk_weak [true, true, true, true, true, false] (L' := [some (va_rf a0), some (va_rf a1), some (va_rf a2), some (va_rf a5), some (.int x4), none]) rfl ?_
  exact sn_Route_heaviestLocator_80 B hr H5 h
set_option maxHeartbeats 4000000 in
set_option maxRecDepth 100000 in
theorem sn_Route_heaviestLocator_5_bd {l : Launch} {Γ : gk_G} {p : Program} {e : Env} {s : State} {m : MethodId} {args : Array Value} {below : List Frame} {meth : Method} {c : Code} (B : gk_B p s m args meth c gk_Y Γ c_Route_heaviestLocator 6 "StageDispatcher$Route") (hr : meth.sig.returnType = (some (.object "StageDispatcher$Locator"))) {ρ : Option Nat × gk_M} {k5 : Option Nat → Option Nat → Option Nat → Option Nat → Int32 → gk_M → Option (Option Nat × gk_M)} (H5 : ∀ (a0 : Option Nat) (a1 : Option Nat) (a2 : Option Nat) (a3 : Option Nat) (x4 : Int32) (M : gk_M), k5 a0 a1 a2 a3 x4 M = some ρ → Gk p l e rm_Route_heaviestLocator s m args below meth c gk_Y Γ 6 (MQ below (gk_Q gk_Y Γ (some (va_rf ρ.1)) ρ.2) args s rm_Route_heaviestLocator.cells rm_Route_heaviestLocator.slots (fun q => Γ.2.2 ≤ q)) 0 0 M 5 [some (va_rf a0), some (va_rf a1), some (va_rf a2), some (va_rf a3), some (.int x4), none] []) {a0 : Option Nat} {a1 : Option Nat} {a2 : Option Nat} {a3 : Option Nat} {x4 : Int32} {M : gk_M} (h : fn_Route_heaviestLocator_5_bd k5 a0 a1 a2 a3 x4 M = some ρ) : Gk p l e rm_Route_heaviestLocator s m args below meth c gk_Y Γ 6 (MQ below (gk_Q gk_Y Γ (some (va_rf ρ.1)) ρ.2) args s rm_Route_heaviestLocator.cells rm_Route_heaviestLocator.slots (fun q => Γ.2.2 ≤ q)) 0 0 M 5 [some (va_rf a0), some (va_rf a1), some (va_rf a2), some (va_rf a3), some (.int x4), none] [] := by
  unfold fn_Route_heaviestLocator_5_bd at h
  refine Gk_iload (x := x4) B d_Route_heaviestLocator_5 rfl ?_
  refine Gk_aload_n (i := 1) (r := a1) B d_Route_heaviestLocator_7 rfl rfl ?_
  obtain ⟨v8, h8, h⟩ := gk_bind h
  refine Gk_getI (j := 5) B d_Route_heaviestLocator_8 in_Catalog cl_Catalog (by decide) tw_111 rfl h8 ?_
  refine Gk_icmp_ge (tgt := 86) B d_Route_heaviestLocator_11 rfl (fun c11 => ?_) (fun c11 => ?_)
  · rw [if_pos c11] at h
    refine Gk_aload_n (i := 3) (r := a3) B d_Route_heaviestLocator_86 rfl rfl ?_
    cases h
    exact Gk_aret B hr d_Route_heaviestLocator_87 (Or.inl ⟨_, rfl⟩) (by decide) (by decide) rfl
  rw [if_neg c11] at h
  refine Gk_aload_n (i := 1) (r := a1) B d_Route_heaviestLocator_14 rfl rfl ?_
  obtain ⟨v15, h15, h⟩ := gk_bind h
  refine Gk_getR (j := 2) B d_Route_heaviestLocator_15 in_Catalog cl_Catalog (by decide) tw_103 rfl h15 ?_
  refine Gk_iload (x := x4) B d_Route_heaviestLocator_18 rfl ?_
  obtain ⟨v20, h20, h⟩ := gk_bind h
  refine Gk_aaload B d_Route_heaviestLocator_20 ty_5 h20 ?_
  refine Gk_astore (L' := [some (va_rf a0), some (va_rf a1), some (va_rf a2), some (va_rf a3), some (.int x4), some (va_rf v20)]) B d_Route_heaviestLocator_21 (by decide) (gk_c1_i rfl) rfl ?_
  refine Gk_aload_n (i := 0) (r := a0) B d_Route_heaviestLocator_23 rfl rfl ?_
  obtain ⟨v24, h24, h⟩ := gk_bind h
  refine Gk_getI (j := 2) B d_Route_heaviestLocator_24 in_Route cl_Route (by decide) tw_204 rfl h24 ?_
  refine Gk_aload (r := v20) B d_Route_heaviestLocator_27 rfl ?_
  obtain ⟨v29, h29, h⟩ := gk_bind h
  refine Gk_getIN (j := 0) B d_Route_heaviestLocator_29 in_Locator cl_Locator (by decide) nw_453 rfl h29 ?_
  obtain ⟨w32, h32, h⟩ := gk_bind h
  refine Gk_callSN (As := [.int v24, .int v29]) (rest := []) (st1 := [.int w32.1]) (k1 := 0) (n1 := 0) B gk_hG d_Route_heaviestLocator_32 (sn_SD_holds h32) tw_593 nw_631 tw_592 tw_40 nm_SD_holds rfl (by decide) ⟨by decide, by decide⟩ ⟨by decide, by decide⟩ rfl rfl rfl rfl ?_
  refine Gk_if_eq (tgt := 80) B d_Route_heaviestLocator_35 rfl (fun c35 => ?_) (fun c35 => ?_)
  · rw [if_pos c35] at h
    refine Gk_weak [true, true, true, true, true, false] (L' := [some (va_rf a0), some (va_rf a1), some (va_rf a2), some (va_rf a3), some (.int x4), none]) rfl ?_
    exact sn_Route_heaviestLocator_80 B hr H5 h
  rw [if_neg c35] at h
  refine Gk_aload_n (i := 3) (r := a3) B d_Route_heaviestLocator_38 rfl rfl ?_
  refine Gk_ifnull (tgt := 57) B d_Route_heaviestLocator_39 rfl (fun c39 => ?_) (fun c39 => ?_)
  · rw [if_pos c39] at h
    exact sn_Route_heaviestLocator_57 B hr H5 h
  rw [if_neg c39] at h
  refine Gk_aload (r := v20) B d_Route_heaviestLocator_42 rfl ?_
  obtain ⟨v44, h44, h⟩ := gk_bind h
  refine Gk_getRN (j := 1) B d_Route_heaviestLocator_44 in_Locator cl_Locator (by decide) nw_456 rfl h44 ?_
  refine Gk_aload_n (i := 3) (r := a3) B d_Route_heaviestLocator_47 rfl rfl ?_
  obtain ⟨v48, h48, h⟩ := gk_bind h
  refine Gk_getRN (j := 1) B d_Route_heaviestLocator_48 in_Locator cl_Locator (by decide) nw_456 rfl h48 ?_
  obtain ⟨o51, g51, h⟩ := gk_bind h
  obtain ⟨w51, h51, h⟩ := gk_bind h
  refine Gk_callV (As := [va_rf v48]) (rest := []) (st1 := [.int w51.1]) (k1 := 0) (n1 := 0) B gk_hG d_Route_heaviestLocator_51 (sn_Template_isHeavierThan h51) g51 cl_Template tw_571 tw_568 tw_569 tw_570 tw_49 nm_Template_isHeavierThan rfl (by decide) ⟨by decide, by decide⟩ ⟨by decide, by decide⟩ rfl rfl rfl rfl ?_
  refine Gk_if_eq (tgt := 80) B d_Route_heaviestLocator_54 rfl (fun c54 => ?_) (fun c54 => ?_)
  · rw [if_pos c54] at h
    refine Gk_weak [true, true, true, true, true, false] (L' := [some (va_rf a0), some (va_rf a1), some (va_rf a2), some (va_rf a3), some (.int x4), none]) rfl ?_
    exact sn_Route_heaviestLocator_80 B hr H5 h
  rw [if_neg c54] at h
  exact sn_Route_heaviestLocator_57 B hr H5 h
set_option maxHeartbeats 4000000 in
set_option maxRecDepth 100000 in
theorem sn_Route_heaviestLocator_5 {l : Launch} {Γ : gk_G} {p : Program} {e : Env} {s : State} {m : MethodId} {args : Array Value} {below : List Frame} {meth : Method} {c : Code} (B : gk_B p s m args meth c gk_Y Γ c_Route_heaviestLocator 6 "StageDispatcher$Route") (hr : meth.sig.returnType = (some (.object "StageDispatcher$Locator"))) {ρ : Option Nat × gk_M}   {a0 : Option Nat} {a1 : Option Nat} {a2 : Option Nat} {a3 : Option Nat} {x4 : Int32} {M : gk_M} (h : fn_Route_heaviestLocator_5  a0 a1 a2 a3 x4 M = some ρ) : Gk p l e rm_Route_heaviestLocator s m args below meth c gk_Y Γ 6 (MQ below (gk_Q gk_Y Γ (some (va_rf ρ.1)) ρ.2) args s rm_Route_heaviestLocator.cells rm_Route_heaviestLocator.slots (fun q => Γ.2.2 ≤ q)) 0 0 M 5 [some (va_rf a0), some (va_rf a1), some (va_rf a2), some (va_rf a3), some (.int x4), none] [] := by
  unfold fn_Route_heaviestLocator_5 at h
  exact gk_loop_sound (α := Option Nat × Option Nat × Option Nat × Option Nat × Int32 × gk_M) (P := fun a => Gk p l e rm_Route_heaviestLocator s m args below meth c gk_Y Γ 6 (MQ below (gk_Q gk_Y Γ (some (va_rf ρ.1)) ρ.2) args s rm_Route_heaviestLocator.cells rm_Route_heaviestLocator.slots (fun q => Γ.2.2 ≤ q)) 0 0 a.2.2.2.2.2 5 [some (va_rf a.1), some (va_rf a.2.1), some (va_rf a.2.2.1), some (va_rf a.2.2.2.1), some (.int a.2.2.2.2.1), none] []) (fun kk a Hk hb => sn_Route_heaviestLocator_5_bd B hr (fun a0 a1 a2 a3 x4 M hh => Hk (a0, a1, a2, a3, x4, M) hh) hb) _ _ h
set_option maxHeartbeats 4000000 in
set_option maxRecDepth 100000 in
theorem sn_Route_heaviestLocator_0 {l : Launch} {Γ : gk_G} {p : Program} {e : Env} {s : State} {m : MethodId} {args : Array Value} {below : List Frame} {meth : Method} {c : Code} (B : gk_B p s m args meth c gk_Y Γ c_Route_heaviestLocator 6 "StageDispatcher$Route") (hr : meth.sig.returnType = (some (.object "StageDispatcher$Locator"))) {ρ : Option Nat × gk_M}   {a0 : Option Nat} {a1 : Option Nat} {a2 : Option Nat} {M : gk_M} (h : fn_Route_heaviestLocator  a0 a1 a2 M = some ρ) : Gk p l e rm_Route_heaviestLocator s m args below meth c gk_Y Γ 6 (MQ below (gk_Q gk_Y Γ (some (va_rf ρ.1)) ρ.2) args s rm_Route_heaviestLocator.cells rm_Route_heaviestLocator.slots (fun q => Γ.2.2 ≤ q)) 0 0 M 0 [some (va_rf a0), some (va_rf a1), some (va_rf a2), none, none, none] [] := by
  unfold fn_Route_heaviestLocator at h
  refine Gk_null B d_Route_heaviestLocator_0 ?_
  refine Gk_astore_n (i := 3) (L' := [some (va_rf a0), some (va_rf a1), some (va_rf a2), some (va_rf none), none, none]) B d_Route_heaviestLocator_1 rfl (by decide) (gk_c1_r rfl) rfl ?_
  refine Gk_iconst (v := 0) B d_Route_heaviestLocator_2 (by decide) ?_
  refine Gk_istore (L' := [some (va_rf a0), some (va_rf a1), some (va_rf a2), some (va_rf none), some (.int 0), none]) B d_Route_heaviestLocator_3 (by decide) (gk_c1_r rfl) rfl ?_
  exact sn_Route_heaviestLocator_5 B hr h
theorem sn_Route_heaviestLocator {l : Launch} {Γ : gk_G} {a0 : Option Nat} {a1 : Option Nat} {a2 : Option Nat} {M : gk_M} {ρ : Option Nat × gk_M} (h : fn_Route_heaviestLocator a0 a1 a2 M = some ρ) : gk_Met l gk_Y Γ y_Route_heaviestLocator (.code y_Route_heaviestLocator c_Route_heaviestLocator 6 (some (.object "StageDispatcher$Locator")) :: gk_Y.2.2.2) rm_Route_heaviestLocator [va_rf a0, va_rf a1, va_rf a2] M (some (va_rf ρ.1)) ρ.2 :=
  gk_start (by decide) (by simp [lg_sl, gk_rc, gk_ic, gk_jc]) [some (va_rf a0), some (va_rf a1), some (va_rf a2), none, none, none] (by simp [gk_as, lv_args, gk_rc, gk_ic, gk_jc]) (fun p e s m args below meth c B hr hin => sn_Route_heaviestLocator_0 B hr h)
theorem d_Outcome_addHop_0 : decode c_Outcome_addHop 0 = .ok (.aload_n 0, 1) := by decide +kernel
theorem d_Outcome_addHop_1 : decode c_Outcome_addHop 1 = .ok (.getfield 31, 3) := by decide +kernel
theorem d_Outcome_addHop_4 : decode c_Outcome_addHop 4 = .ok (.aload_n 0, 1) := by decide +kernel
theorem d_Outcome_addHop_5 : decode c_Outcome_addHop 5 = .ok (.getfield 18, 3) := by decide +kernel
theorem d_Outcome_addHop_8 : decode c_Outcome_addHop 8 = .ok (.arraylength, 1) := by decide +kernel
theorem d_Outcome_addHop_9 : decode c_Outcome_addHop 9 = .ok (.if_icmp .ge 23, 3) := by decide +kernel
theorem d_Outcome_addHop_12 : decode c_Outcome_addHop 12 = .ok (.aload_n 0, 1) := by decide +kernel
theorem d_Outcome_addHop_13 : decode c_Outcome_addHop 13 = .ok (.getfield 18, 3) := by decide +kernel
theorem d_Outcome_addHop_16 : decode c_Outcome_addHop 16 = .ok (.aload_n 0, 1) := by decide +kernel
theorem d_Outcome_addHop_17 : decode c_Outcome_addHop 17 = .ok (.getfield 31, 3) := by decide +kernel
theorem d_Outcome_addHop_20 : decode c_Outcome_addHop 20 = .ok (.iload_n 1, 1) := by decide +kernel
theorem d_Outcome_addHop_21 : decode c_Outcome_addHop 21 = .ok (.iastore, 1) := by decide +kernel
theorem d_Outcome_addHop_22 : decode c_Outcome_addHop 22 = .ok (.aload_n 0, 1) := by decide +kernel
theorem d_Outcome_addHop_23 : decode c_Outcome_addHop 23 = .ok (.dup, 1) := by decide +kernel
theorem d_Outcome_addHop_24 : decode c_Outcome_addHop 24 = .ok (.getfield 31, 3) := by decide +kernel
theorem d_Outcome_addHop_27 : decode c_Outcome_addHop 27 = .ok (.iconst 1, 1) := by decide +kernel
theorem d_Outcome_addHop_28 : decode c_Outcome_addHop 28 = .ok (.iadd, 1) := by decide +kernel
theorem d_Outcome_addHop_29 : decode c_Outcome_addHop 29 = .ok (.putfield 31, 3) := by decide +kernel
theorem d_Outcome_addHop_32 : decode c_Outcome_addHop 32 = .ok (.return_, 1) := by decide +kernel
set_option maxHeartbeats 4000000 in
set_option maxRecDepth 100000 in
theorem sn_Outcome_addHop_0 {l : Launch} {Γ : gk_G} {p : Program} {e : Env} {s : State} {m : MethodId} {args : Array Value} {below : List Frame} {meth : Method} {c : Code} (B : gk_B p s m args meth c gk_Y Γ c_Outcome_addHop 2 "StageDispatcher$Outcome") (hr : meth.sig.returnType = none) {ρ : gk_M}   {a0 : Option Nat} {x1 : Int32} {M : gk_M} (h : fn_Outcome_addHop  a0 x1 M = some ρ) : Gk p l e rm_Outcome_addHop s m args below meth c gk_Y Γ 2 (MQ below (gk_Q gk_Y Γ none ρ) args s rm_Outcome_addHop.cells rm_Outcome_addHop.slots (fun q => Γ.2.2 ≤ q)) 0 0 M 0 [some (va_rf a0), some (.int x1)] [] := by
  unfold fn_Outcome_addHop at h
  refine Gk_aload_n (i := 0) (r := a0) B d_Outcome_addHop_0 rfl rfl ?_
  obtain ⟨v1, h1, h⟩ := gk_bind h
  refine Gk_getI (j := 5) B d_Outcome_addHop_1 in_Outcome cl_Outcome (by decide) tw_235 rfl h1 ?_
  refine Gk_aload_n (i := 0) (r := a0) B d_Outcome_addHop_4 rfl rfl ?_
  obtain ⟨v5, h5, h⟩ := gk_bind h
  refine Gk_getR (j := 1) B d_Outcome_addHop_5 in_Outcome cl_Outcome (by decide) tw_227 rfl h5 ?_
  obtain ⟨v8, h8, h⟩ := gk_bind h
  refine Gk_alen B d_Outcome_addHop_8 ty_0 h8 ?_
  refine Gk_icmp_ge (tgt := 32) B d_Outcome_addHop_9 rfl (fun c9 => ?_) (fun c9 => ?_)
  · rw [if_pos c9] at h
    cases h
    exact Gk_vret B hr d_Outcome_addHop_32 (by decide) (by decide) rfl
  rw [if_neg c9] at h
  refine Gk_aload_n (i := 0) (r := a0) B d_Outcome_addHop_12 rfl rfl ?_
  obtain ⟨v13, h13, h⟩ := gk_bind h
  refine Gk_getR (j := 1) B d_Outcome_addHop_13 in_Outcome cl_Outcome (by decide) tw_227 rfl h13 ?_
  refine Gk_aload_n (i := 0) (r := a0) B d_Outcome_addHop_16 rfl rfl ?_
  obtain ⟨v17, h17, h⟩ := gk_bind h
  refine Gk_getI (j := 5) B d_Outcome_addHop_17 in_Outcome cl_Outcome (by decide) tw_235 rfl h17 ?_
  refine Gk_iload_n (i := 1) (x := x1) B d_Outcome_addHop_20 rfl rfl ?_
  obtain ⟨M21, h21, h⟩ := gk_bind h
  refine Gk_iastore B d_Outcome_addHop_21 ty_0 h21 ?_
  refine Gk_aload_n (i := 0) (r := a0) B d_Outcome_addHop_22 rfl rfl ?_
  refine Gk_dup B d_Outcome_addHop_23 (gk_rc _) ?_
  obtain ⟨v24, h24, h⟩ := gk_bind h
  refine Gk_getI (j := 5) B d_Outcome_addHop_24 in_Outcome cl_Outcome (by decide) tw_235 rfl h24 ?_
  refine Gk_iconst (v := 1) B d_Outcome_addHop_27 (by decide) ?_
  refine Gk_iadd B d_Outcome_addHop_28 ?_
  obtain ⟨M29, h29, h⟩ := gk_bind h
  refine Gk_put (j := 5) (ty := .int) B d_Outcome_addHop_29 in_Outcome t_Outcome t_Outcome_ok n_Outcome cl_Outcome (by decide) tw_235 rfl rfl rfl rfl rfl h29 ?_
  cases h
  exact Gk_vret B hr d_Outcome_addHop_32 (by decide) (by decide) rfl
theorem sn_Outcome_addHop {l : Launch} {Γ : gk_G} {a0 : Option Nat} {x1 : Int32} {M : gk_M} {ρ : gk_M} (h : fn_Outcome_addHop a0 x1 M = some ρ) : gk_Met l gk_Y Γ y_Outcome_addHop (.code y_Outcome_addHop c_Outcome_addHop 2 none :: gk_Y.2.2.2) rm_Outcome_addHop [va_rf a0, .int x1] M none ρ :=
  gk_start (by decide) (by simp [lg_sl, gk_rc, gk_ic, gk_jc]) [some (va_rf a0), some (.int x1)] (by simp [gk_as, lv_args, gk_rc, gk_ic, gk_jc]) (fun p e s m args below meth c B hr hin => sn_Outcome_addHop_0 B hr h)
theorem d_Catalog_methodsWith_0 : decode c_Catalog_methodsWith 0 = .ok (.iconst 0, 1) := by decide +kernel
theorem d_Catalog_methodsWith_1 : decode c_Catalog_methodsWith 1 = .ok (.istore_n 3, 1) := by decide +kernel
theorem d_Catalog_methodsWith_2 : decode c_Catalog_methodsWith 2 = .ok (.iconst 0, 1) := by decide +kernel
theorem d_Catalog_methodsWith_3 : decode c_Catalog_methodsWith 3 = .ok (.istore 4, 2) := by decide +kernel
theorem d_Catalog_methodsWith_5 : decode c_Catalog_methodsWith 5 = .ok (.iload 4, 2) := by decide +kernel
theorem d_Catalog_methodsWith_7 : decode c_Catalog_methodsWith 7 = .ok (.aload_n 0, 1) := by decide +kernel
theorem d_Catalog_methodsWith_8 : decode c_Catalog_methodsWith 8 = .ok (.getfield 33, 3) := by decide +kernel
theorem d_Catalog_methodsWith_11 : decode c_Catalog_methodsWith 11 = .ok (.if_icmp .ge 57, 3) := by decide +kernel
theorem d_Catalog_methodsWith_14 : decode c_Catalog_methodsWith 14 = .ok (.aload_n 0, 1) := by decide +kernel
theorem d_Catalog_methodsWith_15 : decode c_Catalog_methodsWith 15 = .ok (.getfield 19, 3) := by decide +kernel
theorem d_Catalog_methodsWith_18 : decode c_Catalog_methodsWith 18 = .ok (.iload 4, 2) := by decide +kernel
theorem d_Catalog_methodsWith_20 : decode c_Catalog_methodsWith 20 = .ok (.aaload, 1) := by decide +kernel
theorem d_Catalog_methodsWith_21 : decode c_Catalog_methodsWith 21 = .ok (.astore 5, 2) := by decide +kernel
theorem d_Catalog_methodsWith_23 : decode c_Catalog_methodsWith 23 = .ok (.iload_n 1, 1) := by decide +kernel
theorem d_Catalog_methodsWith_24 : decode c_Catalog_methodsWith 24 = .ok (.aload 5, 2) := by decide +kernel
theorem d_Catalog_methodsWith_26 : decode c_Catalog_methodsWith 26 = .ok (.getfield 43, 3) := by decide +kernel
theorem d_Catalog_methodsWith_29 : decode c_Catalog_methodsWith 29 = .ok (.invokestatic 55, 3) := by decide +kernel
theorem d_Catalog_methodsWith_32 : decode c_Catalog_methodsWith 32 = .ok (.ifCond .eq 30, 3) := by decide +kernel
theorem d_Catalog_methodsWith_35 : decode c_Catalog_methodsWith 35 = .ok (.aload 5, 2) := by decide +kernel
theorem d_Catalog_methodsWith_37 : decode c_Catalog_methodsWith 37 = .ok (.getfield 46, 3) := by decide +kernel
theorem d_Catalog_methodsWith_40 : decode c_Catalog_methodsWith 40 = .ok (.ifnull 22, 3) := by decide +kernel
theorem d_Catalog_methodsWith_43 : decode c_Catalog_methodsWith 43 = .ok (.aload 5, 2) := by decide +kernel
theorem d_Catalog_methodsWith_45 : decode c_Catalog_methodsWith 45 = .ok (.getfield 46, 3) := by decide +kernel
theorem d_Catalog_methodsWith_48 : decode c_Catalog_methodsWith 48 = .ok (.aload_n 2, 1) := by decide +kernel
theorem d_Catalog_methodsWith_49 : decode c_Catalog_methodsWith 49 = .ok (.invokevirtual 51, 3) := by decide +kernel
theorem d_Catalog_methodsWith_52 : decode c_Catalog_methodsWith 52 = .ok (.ifCond .eq 10, 3) := by decide +kernel
theorem d_Catalog_methodsWith_55 : decode c_Catalog_methodsWith 55 = .ok (.iload_n 3, 1) := by decide +kernel
theorem d_Catalog_methodsWith_56 : decode c_Catalog_methodsWith 56 = .ok (.iconst 1, 1) := by decide +kernel
theorem d_Catalog_methodsWith_57 : decode c_Catalog_methodsWith 57 = .ok (.iload 4, 2) := by decide +kernel
theorem d_Catalog_methodsWith_59 : decode c_Catalog_methodsWith 59 = .ok (.ishl, 1) := by decide +kernel
theorem d_Catalog_methodsWith_60 : decode c_Catalog_methodsWith 60 = .ok (.ior, 1) := by decide +kernel
theorem d_Catalog_methodsWith_61 : decode c_Catalog_methodsWith 61 = .ok (.istore_n 3, 1) := by decide +kernel
theorem d_Catalog_methodsWith_62 : decode c_Catalog_methodsWith 62 = .ok (.iinc 4 1, 3) := by decide +kernel
theorem d_Catalog_methodsWith_65 : decode c_Catalog_methodsWith 65 = .ok (.goto (-60), 3) := by decide +kernel
theorem d_Catalog_methodsWith_68 : decode c_Catalog_methodsWith 68 = .ok (.iload_n 3, 1) := by decide +kernel
theorem d_Catalog_methodsWith_69 : decode c_Catalog_methodsWith 69 = .ok (.ireturn, 1) := by decide +kernel
set_option maxHeartbeats 4000000 in
set_option maxRecDepth 100000 in
theorem sn_Catalog_methodsWith_62 {l : Launch} {Γ : gk_G} {p : Program} {e : Env} {s : State} {m : MethodId} {args : Array Value} {below : List Frame} {meth : Method} {c : Code} (B : gk_B p s m args meth c gk_Y Γ c_Catalog_methodsWith 6 "StageDispatcher$Catalog") (hr : meth.sig.returnType = (some .int)) {ρ : Int32 × gk_M} {k5 : Option Nat → Int32 → Option Nat → Int32 → Int32 → gk_M → Option (Int32 × gk_M)} (H5 : ∀ (a0 : Option Nat) (x1 : Int32) (a2 : Option Nat) (x3 : Int32) (x4 : Int32) (M : gk_M), k5 a0 x1 a2 x3 x4 M = some ρ → Gk p l e rm_Catalog_methodsWith s m args below meth c gk_Y Γ 6 (MQ below (gk_Q gk_Y Γ (some (.int ρ.1)) ρ.2) args s rm_Catalog_methodsWith.cells rm_Catalog_methodsWith.slots (fun q => Γ.2.2 ≤ q)) 0 0 M 5 [some (va_rf a0), some (.int x1), some (va_rf a2), some (.int x3), some (.int x4), none] []) {a0 : Option Nat} {x1 : Int32} {a2 : Option Nat} {x3 : Int32} {x4 : Int32} {M : gk_M} (h : fn_Catalog_methodsWith_62 k5 a0 x1 a2 x3 x4 M = some ρ) : Gk p l e rm_Catalog_methodsWith s m args below meth c gk_Y Γ 6 (MQ below (gk_Q gk_Y Γ (some (.int ρ.1)) ρ.2) args s rm_Catalog_methodsWith.cells rm_Catalog_methodsWith.slots (fun q => Γ.2.2 ≤ q)) 0 0 M 62 [some (va_rf a0), some (.int x1), some (va_rf a2), some (.int x3), some (.int x4), none] [] := by
  unfold fn_Catalog_methodsWith_62 at h
  refine Gk_iinc (x := x4) (v := (x4 + 1)) (L' := [some (va_rf a0), some (.int x1), some (va_rf a2), some (.int x3), some (.int (x4 + 1)), none]) B d_Catalog_methodsWith_62 rfl (congrArg (fun z => x4 + z) (by decide : Int32.ofInt 1 = 1)) (by decide) (gk_c1_i rfl) rfl ?_
  refine Gk_goto (tgt := 5) B d_Catalog_methodsWith_65 rfl ?_
  exact H5 a0 x1 a2 x3 (x4 + 1) M h
set_option maxHeartbeats 4000000 in
set_option maxRecDepth 100000 in
theorem sn_Catalog_methodsWith_5_bd {l : Launch} {Γ : gk_G} {p : Program} {e : Env} {s : State} {m : MethodId} {args : Array Value} {below : List Frame} {meth : Method} {c : Code} (B : gk_B p s m args meth c gk_Y Γ c_Catalog_methodsWith 6 "StageDispatcher$Catalog") (hr : meth.sig.returnType = (some .int)) {ρ : Int32 × gk_M} {k5 : Option Nat → Int32 → Option Nat → Int32 → Int32 → gk_M → Option (Int32 × gk_M)} (H5 : ∀ (a0 : Option Nat) (x1 : Int32) (a2 : Option Nat) (x3 : Int32) (x4 : Int32) (M : gk_M), k5 a0 x1 a2 x3 x4 M = some ρ → Gk p l e rm_Catalog_methodsWith s m args below meth c gk_Y Γ 6 (MQ below (gk_Q gk_Y Γ (some (.int ρ.1)) ρ.2) args s rm_Catalog_methodsWith.cells rm_Catalog_methodsWith.slots (fun q => Γ.2.2 ≤ q)) 0 0 M 5 [some (va_rf a0), some (.int x1), some (va_rf a2), some (.int x3), some (.int x4), none] []) {a0 : Option Nat} {x1 : Int32} {a2 : Option Nat} {x3 : Int32} {x4 : Int32} {M : gk_M} (h : fn_Catalog_methodsWith_5_bd k5 a0 x1 a2 x3 x4 M = some ρ) : Gk p l e rm_Catalog_methodsWith s m args below meth c gk_Y Γ 6 (MQ below (gk_Q gk_Y Γ (some (.int ρ.1)) ρ.2) args s rm_Catalog_methodsWith.cells rm_Catalog_methodsWith.slots (fun q => Γ.2.2 ≤ q)) 0 0 M 5 [some (va_rf a0), some (.int x1), some (va_rf a2), some (.int x3), some (.int x4), none] [] := by
  unfold fn_Catalog_methodsWith_5_bd at h
  refine Gk_iload (x := x4) B d_Catalog_methodsWith_5 rfl ?_
  refine Gk_aload_n (i := 0) (r := a0) B d_Catalog_methodsWith_7 rfl rfl ?_
  obtain ⟨v8, h8, h⟩ := gk_bind h
  refine Gk_getI (j := 4) B d_Catalog_methodsWith_8 in_Catalog cl_Catalog (by decide) tw_107 rfl h8 ?_
  refine Gk_icmp_ge (tgt := 68) B d_Catalog_methodsWith_11 rfl (fun c11 => ?_) (fun c11 => ?_)
  · rw [if_pos c11] at h
    refine Gk_iload_n (i := 3) (x := x3) B d_Catalog_methodsWith_68 rfl rfl ?_
    cases h
    exact Gk_iret B hr d_Catalog_methodsWith_69 rfl (by decide) (by decide) rfl
  rw [if_neg c11] at h
  refine Gk_aload_n (i := 0) (r := a0) B d_Catalog_methodsWith_14 rfl rfl ?_
  obtain ⟨v15, h15, h⟩ := gk_bind h
  refine Gk_getR (j := 1) B d_Catalog_methodsWith_15 in_Catalog cl_Catalog (by decide) tw_99 rfl h15 ?_
  refine Gk_iload (x := x4) B d_Catalog_methodsWith_18 rfl ?_
  obtain ⟨v20, h20, h⟩ := gk_bind h
  refine Gk_aaload B d_Catalog_methodsWith_20 ty_4 h20 ?_
  refine Gk_astore (L' := [some (va_rf a0), some (.int x1), some (va_rf a2), some (.int x3), some (.int x4), some (va_rf v20)]) B d_Catalog_methodsWith_21 (by decide) (gk_c1_i rfl) rfl ?_
  refine Gk_iload_n (i := 1) (x := x1) B d_Catalog_methodsWith_23 rfl rfl ?_
  refine Gk_aload (r := v20) B d_Catalog_methodsWith_24 rfl ?_
  obtain ⟨v26, h26, h⟩ := gk_bind h
  refine Gk_getI (j := 0) B d_Catalog_methodsWith_26 in_Method cl_Method (by decide) tw_389 rfl h26 ?_
  obtain ⟨w29, h29, h⟩ := gk_bind h
  refine Gk_callSN (As := [.int x1, .int v26]) (rest := []) (st1 := [.int w29.1]) (k1 := 0) (n1 := 0) B gk_hG d_Catalog_methodsWith_29 (sn_SD_holds h29) tw_593 nw_626 tw_592 tw_40 nm_SD_holds rfl (by decide) ⟨by decide, by decide⟩ ⟨by decide, by decide⟩ rfl rfl rfl rfl ?_
  refine Gk_if_eq (tgt := 62) B d_Catalog_methodsWith_32 rfl (fun c32 => ?_) (fun c32 => ?_)
  · rw [if_pos c32] at h
    refine Gk_weak [true, true, true, true, true, false] (L' := [some (va_rf a0), some (.int x1), some (va_rf a2), some (.int x3), some (.int x4), none]) rfl ?_
    exact sn_Catalog_methodsWith_62 B hr H5 h
  rw [if_neg c32] at h
  refine Gk_aload (r := v20) B d_Catalog_methodsWith_35 rfl ?_
  obtain ⟨v37, h37, h⟩ := gk_bind h
  refine Gk_getR (j := 1) B d_Catalog_methodsWith_37 in_Method cl_Method (by decide) tw_392 rfl h37 ?_
  refine Gk_ifnull (tgt := 62) B d_Catalog_methodsWith_40 rfl (fun c40 => ?_) (fun c40 => ?_)
  · rw [if_pos c40] at h
    refine Gk_weak [true, true, true, true, true, false] (L' := [some (va_rf a0), some (.int x1), some (va_rf a2), some (.int x3), some (.int x4), none]) rfl ?_
    exact sn_Catalog_methodsWith_62 B hr H5 h
  rw [if_neg c40] at h
  refine Gk_aload (r := v20) B d_Catalog_methodsWith_43 rfl ?_
  obtain ⟨v45, h45, h⟩ := gk_bind h
  refine Gk_getR (j := 1) B d_Catalog_methodsWith_45 in_Method cl_Method (by decide) tw_392 rfl h45 ?_
  refine Gk_aload_n (i := 2) (r := a2) B d_Catalog_methodsWith_48 rfl rfl ?_
  obtain ⟨o49, g49, h⟩ := gk_bind h
  obtain ⟨w49, h49, h⟩ := gk_bind h
  refine Gk_callV (As := [va_rf a2]) (rest := []) (st1 := [.int w49.1]) (k1 := 0) (n1 := 0) B gk_hG d_Catalog_methodsWith_49 (sn_Template_isSameAs h49) g49 cl_Template tw_617 tw_614 tw_615 tw_616 tw_49 nm_Template_isSameAs rfl (by decide) ⟨by decide, by decide⟩ ⟨by decide, by decide⟩ rfl rfl rfl rfl ?_
  refine Gk_if_eq (tgt := 62) B d_Catalog_methodsWith_52 rfl (fun c52 => ?_) (fun c52 => ?_)
  · rw [if_pos c52] at h
    refine Gk_weak [true, true, true, true, true, false] (L' := [some (va_rf a0), some (.int x1), some (va_rf a2), some (.int x3), some (.int x4), none]) rfl ?_
    exact sn_Catalog_methodsWith_62 B hr H5 h
  rw [if_neg c52] at h
  refine Gk_iload_n (i := 3) (x := x3) B d_Catalog_methodsWith_55 rfl rfl ?_
  refine Gk_iconst (v := 1) B d_Catalog_methodsWith_56 (by decide) ?_
  refine Gk_iload (x := x4) B d_Catalog_methodsWith_57 rfl ?_
  refine Gk_ishl B d_Catalog_methodsWith_59 ?_
  refine Gk_ior B d_Catalog_methodsWith_60 ?_
  refine Gk_istore_n (i := 3) (L' := [some (va_rf a0), some (.int x1), some (va_rf a2), some (.int (x3 ||| ((1 : Int32) <<< (x4 &&& 31)))), some (.int x4), some (va_rf v20)]) B d_Catalog_methodsWith_61 rfl (by decide) (gk_c1_r rfl) rfl ?_
  refine Gk_weak [true, true, true, true, true, false] (L' := [some (va_rf a0), some (.int x1), some (va_rf a2), some (.int (x3 ||| ((1 : Int32) <<< (x4 &&& 31)))), some (.int x4), none]) rfl ?_
  exact sn_Catalog_methodsWith_62 B hr H5 h
set_option maxHeartbeats 4000000 in
set_option maxRecDepth 100000 in
theorem sn_Catalog_methodsWith_5 {l : Launch} {Γ : gk_G} {p : Program} {e : Env} {s : State} {m : MethodId} {args : Array Value} {below : List Frame} {meth : Method} {c : Code} (B : gk_B p s m args meth c gk_Y Γ c_Catalog_methodsWith 6 "StageDispatcher$Catalog") (hr : meth.sig.returnType = (some .int)) {ρ : Int32 × gk_M}   {a0 : Option Nat} {x1 : Int32} {a2 : Option Nat} {x3 : Int32} {x4 : Int32} {M : gk_M} (h : fn_Catalog_methodsWith_5  a0 x1 a2 x3 x4 M = some ρ) : Gk p l e rm_Catalog_methodsWith s m args below meth c gk_Y Γ 6 (MQ below (gk_Q gk_Y Γ (some (.int ρ.1)) ρ.2) args s rm_Catalog_methodsWith.cells rm_Catalog_methodsWith.slots (fun q => Γ.2.2 ≤ q)) 0 0 M 5 [some (va_rf a0), some (.int x1), some (va_rf a2), some (.int x3), some (.int x4), none] [] := by
  unfold fn_Catalog_methodsWith_5 at h
  exact gk_loop_sound (α := Option Nat × Int32 × Option Nat × Int32 × Int32 × gk_M) (P := fun a => Gk p l e rm_Catalog_methodsWith s m args below meth c gk_Y Γ 6 (MQ below (gk_Q gk_Y Γ (some (.int ρ.1)) ρ.2) args s rm_Catalog_methodsWith.cells rm_Catalog_methodsWith.slots (fun q => Γ.2.2 ≤ q)) 0 0 a.2.2.2.2.2 5 [some (va_rf a.1), some (.int a.2.1), some (va_rf a.2.2.1), some (.int a.2.2.2.1), some (.int a.2.2.2.2.1), none] []) (fun kk a Hk hb => sn_Catalog_methodsWith_5_bd B hr (fun a0 x1 a2 x3 x4 M hh => Hk (a0, x1, a2, x3, x4, M) hh) hb) _ _ h
set_option maxHeartbeats 4000000 in
set_option maxRecDepth 100000 in
theorem sn_Catalog_methodsWith_0 {l : Launch} {Γ : gk_G} {p : Program} {e : Env} {s : State} {m : MethodId} {args : Array Value} {below : List Frame} {meth : Method} {c : Code} (B : gk_B p s m args meth c gk_Y Γ c_Catalog_methodsWith 6 "StageDispatcher$Catalog") (hr : meth.sig.returnType = (some .int)) {ρ : Int32 × gk_M}   {a0 : Option Nat} {x1 : Int32} {a2 : Option Nat} {M : gk_M} (h : fn_Catalog_methodsWith  a0 x1 a2 M = some ρ) : Gk p l e rm_Catalog_methodsWith s m args below meth c gk_Y Γ 6 (MQ below (gk_Q gk_Y Γ (some (.int ρ.1)) ρ.2) args s rm_Catalog_methodsWith.cells rm_Catalog_methodsWith.slots (fun q => Γ.2.2 ≤ q)) 0 0 M 0 [some (va_rf a0), some (.int x1), some (va_rf a2), none, none, none] [] := by
  unfold fn_Catalog_methodsWith at h
  refine Gk_iconst (v := 0) B d_Catalog_methodsWith_0 (by decide) ?_
  refine Gk_istore_n (i := 3) (L' := [some (va_rf a0), some (.int x1), some (va_rf a2), some (.int 0), none, none]) B d_Catalog_methodsWith_1 rfl (by decide) (gk_c1_r rfl) rfl ?_
  refine Gk_iconst (v := 0) B d_Catalog_methodsWith_2 (by decide) ?_
  refine Gk_istore (L' := [some (va_rf a0), some (.int x1), some (va_rf a2), some (.int 0), some (.int 0), none]) B d_Catalog_methodsWith_3 (by decide) (gk_c1_i rfl) rfl ?_
  exact sn_Catalog_methodsWith_5 B hr h
theorem sn_Catalog_methodsWith {l : Launch} {Γ : gk_G} {a0 : Option Nat} {x1 : Int32} {a2 : Option Nat} {M : gk_M} {ρ : Int32 × gk_M} (h : fn_Catalog_methodsWith a0 x1 a2 M = some ρ) : gk_Met l gk_Y Γ y_Catalog_methodsWith (.code y_Catalog_methodsWith c_Catalog_methodsWith 6 (some .int) :: gk_Y.2.2.2) rm_Catalog_methodsWith [va_rf a0, .int x1, va_rf a2] M (some (.int ρ.1)) ρ.2 :=
  gk_start (by decide) (by simp [lg_sl, gk_rc, gk_ic, gk_jc]) [some (va_rf a0), some (.int x1), some (va_rf a2), none, none, none] (by simp [gk_as, lv_args, gk_rc, gk_ic, gk_jc]) (fun p e s m args below meth c B hr hin => sn_Catalog_methodsWith_0 B hr h)
theorem d_Route_findCandidates_0 : decode c_Route_findCandidates 0 = .ok (.iconst 0, 1) := by decide +kernel
theorem d_Route_findCandidates_1 : decode c_Route_findCandidates 1 = .ok (.istore_n 3, 1) := by decide +kernel
theorem d_Route_findCandidates_2 : decode c_Route_findCandidates 2 = .ok (.iload_n 3, 1) := by decide +kernel
theorem d_Route_findCandidates_3 : decode c_Route_findCandidates 3 = .ok (.bipush 24, 2) := by decide +kernel
theorem d_Route_findCandidates_5 : decode c_Route_findCandidates 5 = .ok (.if_icmp .gt 156, 3) := by decide +kernel
theorem d_Route_findCandidates_8 : decode c_Route_findCandidates 8 = .ok (.aload_n 0, 1) := by decide +kernel
theorem d_Route_findCandidates_9 : decode c_Route_findCandidates 9 = .ok (.aload_n 2, 1) := by decide +kernel
theorem d_Route_findCandidates_10 : decode c_Route_findCandidates 10 = .ok (.getfield 43, 3) := by decide +kernel
theorem d_Route_findCandidates_13 : decode c_Route_findCandidates 13 = .ok (.aload_n 0, 1) := by decide +kernel
theorem d_Route_findCandidates_14 : decode c_Route_findCandidates 14 = .ok (.getfield 18, 3) := by decide +kernel
theorem d_Route_findCandidates_17 : decode c_Route_findCandidates 17 = .ok (.invokevirtual 56, 3) := by decide +kernel
theorem d_Route_findCandidates_20 : decode c_Route_findCandidates 20 = .ok (.ifCond .eq 14, 3) := by decide +kernel
theorem d_Route_findCandidates_23 : decode c_Route_findCandidates 23 = .ok (.aload_n 1, 1) := by decide +kernel
theorem d_Route_findCandidates_24 : decode c_Route_findCandidates 24 = .ok (.aload_n 0, 1) := by decide +kernel
theorem d_Route_findCandidates_25 : decode c_Route_findCandidates 25 = .ok (.getfield 22, 3) := by decide +kernel
theorem d_Route_findCandidates_28 : decode c_Route_findCandidates 28 = .ok (.invokevirtual 73, 3) := by decide +kernel
theorem d_Route_findCandidates_31 : decode c_Route_findCandidates 31 = .ok (.goto 4, 3) := by decide +kernel
theorem d_Route_findCandidates_34 : decode c_Route_findCandidates 34 = .ok (.iconst 0, 1) := by decide +kernel
theorem d_Route_findCandidates_35 : decode c_Route_findCandidates 35 = .ok (.putfield 25, 3) := by decide +kernel
theorem d_Route_findCandidates_38 : decode c_Route_findCandidates 38 = .ok (.aload_n 0, 1) := by decide +kernel
theorem d_Route_findCandidates_39 : decode c_Route_findCandidates 39 = .ok (.getfield 25, 3) := by decide +kernel
theorem d_Route_findCandidates_42 : decode c_Route_findCandidates 42 = .ok (.ifCond .eq 5, 3) := by decide +kernel
theorem d_Route_findCandidates_45 : decode c_Route_findCandidates 45 = .ok (.iconst 1, 1) := by decide +kernel
theorem d_Route_findCandidates_46 : decode c_Route_findCandidates 46 = .ok (.ireturn, 1) := by decide +kernel
theorem d_Route_findCandidates_47 : decode c_Route_findCandidates 47 = .ok (.aload_n 0, 1) := by decide +kernel
theorem d_Route_findCandidates_48 : decode c_Route_findCandidates 48 = .ok (.aload_n 1, 1) := by decide +kernel
theorem d_Route_findCandidates_49 : decode c_Route_findCandidates 49 = .ok (.aload_n 2, 1) := by decide +kernel
theorem d_Route_findCandidates_50 : decode c_Route_findCandidates 50 = .ok (.getfield 43, 3) := by decide +kernel
theorem d_Route_findCandidates_53 : decode c_Route_findCandidates 53 = .ok (.invokevirtual 77, 3) := by decide +kernel
theorem d_Route_findCandidates_56 : decode c_Route_findCandidates 56 = .ok (.astore 4, 2) := by decide +kernel
theorem d_Route_findCandidates_58 : decode c_Route_findCandidates 58 = .ok (.aload_n 0, 1) := by decide +kernel
theorem d_Route_findCandidates_59 : decode c_Route_findCandidates 59 = .ok (.aload_n 1, 1) := by decide +kernel
theorem d_Route_findCandidates_60 : decode c_Route_findCandidates 60 = .ok (.aload_n 2, 1) := by decide +kernel
theorem d_Route_findCandidates_61 : decode c_Route_findCandidates 61 = .ok (.getfield 43, 3) := by decide +kernel
theorem d_Route_findCandidates_64 : decode c_Route_findCandidates 64 = .ok (.invokevirtual 81, 3) := by decide +kernel
theorem d_Route_findCandidates_67 : decode c_Route_findCandidates 67 = .ok (.astore 5, 2) := by decide +kernel
theorem d_Route_findCandidates_69 : decode c_Route_findCandidates 69 = .ok (.aload 5, 2) := by decide +kernel
theorem d_Route_findCandidates_71 : decode c_Route_findCandidates 71 = .ok (.ifnull 54, 3) := by decide +kernel
theorem d_Route_findCandidates_74 : decode c_Route_findCandidates 74 = .ok (.aload 4, 2) := by decide +kernel
theorem d_Route_findCandidates_76 : decode c_Route_findCandidates 76 = .ok (.ifnull 16, 3) := by decide +kernel
theorem d_Route_findCandidates_79 : decode c_Route_findCandidates 79 = .ok (.aload 5, 2) := by decide +kernel
theorem d_Route_findCandidates_81 : decode c_Route_findCandidates 81 = .ok (.getfield 85, 3) := by decide +kernel
theorem d_Route_findCandidates_84 : decode c_Route_findCandidates 84 = .ok (.aload 4, 2) := by decide +kernel
theorem d_Route_findCandidates_86 : decode c_Route_findCandidates 86 = .ok (.invokevirtual 37, 3) := by decide +kernel
theorem d_Route_findCandidates_89 : decode c_Route_findCandidates 89 = .ok (.ifCond .eq 36, 3) := by decide +kernel
theorem d_Route_findCandidates_92 : decode c_Route_findCandidates 92 = .ok (.aload_n 0, 1) := by decide +kernel
theorem d_Route_findCandidates_93 : decode c_Route_findCandidates 93 = .ok (.aload 5, 2) := by decide +kernel
theorem d_Route_findCandidates_95 : decode c_Route_findCandidates 95 = .ok (.getfield 85, 3) := by decide +kernel
theorem d_Route_findCandidates_98 : decode c_Route_findCandidates 98 = .ok (.aload_n 2, 1) := by decide +kernel
theorem d_Route_findCandidates_99 : decode c_Route_findCandidates 99 = .ok (.invokevirtual 65, 3) := by decide +kernel
theorem d_Route_findCandidates_102 : decode c_Route_findCandidates 102 = .ok (.aload_n 0, 1) := by decide +kernel
theorem d_Route_findCandidates_103 : decode c_Route_findCandidates 103 = .ok (.iconst 1, 1) := by decide +kernel
theorem d_Route_findCandidates_104 : decode c_Route_findCandidates 104 = .ok (.aload 5, 2) := by decide +kernel
theorem d_Route_findCandidates_106 : decode c_Route_findCandidates 106 = .ok (.getfield 91, 3) := by decide +kernel
theorem d_Route_findCandidates_109 : decode c_Route_findCandidates 109 = .ok (.ishl, 1) := by decide +kernel
theorem d_Route_findCandidates_110 : decode c_Route_findCandidates 110 = .ok (.putfield 22, 3) := by decide +kernel
theorem d_Route_findCandidates_113 : decode c_Route_findCandidates 113 = .ok (.aload_n 2, 1) := by decide +kernel
theorem d_Route_findCandidates_114 : decode c_Route_findCandidates 114 = .ok (.aload 5, 2) := by decide +kernel
theorem d_Route_findCandidates_116 : decode c_Route_findCandidates 116 = .ok (.getfield 91, 3) := by decide +kernel
theorem d_Route_findCandidates_119 : decode c_Route_findCandidates 119 = .ok (.invokevirtual 94, 3) := by decide +kernel
theorem d_Route_findCandidates_122 : decode c_Route_findCandidates 122 = .ok (.goto 33, 3) := by decide +kernel
theorem d_Route_findCandidates_125 : decode c_Route_findCandidates 125 = .ok (.aload 4, 2) := by decide +kernel
theorem d_Route_findCandidates_127 : decode c_Route_findCandidates 127 = .ok (.ifnull 26, 3) := by decide +kernel
theorem d_Route_findCandidates_130 : decode c_Route_findCandidates 130 = .ok (.aload_n 0, 1) := by decide +kernel
theorem d_Route_findCandidates_131 : decode c_Route_findCandidates 131 = .ok (.aload 4, 2) := by decide +kernel
theorem d_Route_findCandidates_133 : decode c_Route_findCandidates 133 = .ok (.aload_n 2, 1) := by decide +kernel
theorem d_Route_findCandidates_134 : decode c_Route_findCandidates 134 = .ok (.invokevirtual 65, 3) := by decide +kernel
theorem d_Route_findCandidates_137 : decode c_Route_findCandidates 137 = .ok (.aload_n 0, 1) := by decide +kernel
theorem d_Route_findCandidates_138 : decode c_Route_findCandidates 138 = .ok (.aload_n 1, 1) := by decide +kernel
theorem d_Route_findCandidates_139 : decode c_Route_findCandidates 139 = .ok (.aload_n 0, 1) := by decide +kernel
theorem d_Route_findCandidates_140 : decode c_Route_findCandidates 140 = .ok (.getfield 22, 3) := by decide +kernel
theorem d_Route_findCandidates_143 : decode c_Route_findCandidates 143 = .ok (.aload 4, 2) := by decide +kernel
theorem d_Route_findCandidates_145 : decode c_Route_findCandidates 145 = .ok (.invokevirtual 98, 3) := by decide +kernel
theorem d_Route_findCandidates_148 : decode c_Route_findCandidates 148 = .ok (.putfield 25, 3) := by decide +kernel
theorem d_Route_findCandidates_151 : decode c_Route_findCandidates 151 = .ok (.iconst 1, 1) := by decide +kernel
theorem d_Route_findCandidates_152 : decode c_Route_findCandidates 152 = .ok (.ireturn, 1) := by decide +kernel
theorem d_Route_findCandidates_153 : decode c_Route_findCandidates 153 = .ok (.iconst 0, 1) := by decide +kernel
theorem d_Route_findCandidates_154 : decode c_Route_findCandidates 154 = .ok (.ireturn, 1) := by decide +kernel
theorem d_Route_findCandidates_155 : decode c_Route_findCandidates 155 = .ok (.iinc 3 1, 3) := by decide +kernel
theorem d_Route_findCandidates_158 : decode c_Route_findCandidates 158 = .ok (.goto (-156), 3) := by decide +kernel
theorem d_Route_findCandidates_161 : decode c_Route_findCandidates 161 = .ok (.iconst 0, 1) := by decide +kernel
theorem d_Route_findCandidates_162 : decode c_Route_findCandidates 162 = .ok (.ireturn, 1) := by decide +kernel
set_option maxHeartbeats 4000000 in
set_option maxRecDepth 100000 in
theorem sn_Route_findCandidates_125 {l : Launch} {Γ : gk_G} {p : Program} {e : Env} {s : State} {m : MethodId} {args : Array Value} {below : List Frame} {meth : Method} {c : Code} (B : gk_B p s m args meth c gk_Y Γ c_Route_findCandidates 6 "StageDispatcher$Route") (hr : meth.sig.returnType = (some .boolean)) {ρ : Int32 × gk_M}   {a0 : Option Nat} {a1 : Option Nat} {a2 : Option Nat} {a4 : Option Nat} {M : gk_M} (h : fn_Route_findCandidates_125  a0 a1 a2 a4 M = some ρ) : Gk p l e rm_Route_findCandidates s m args below meth c gk_Y Γ 6 (MQ below (gk_Q gk_Y Γ (some (.int ρ.1)) ρ.2) args s rm_Route_findCandidates.cells rm_Route_findCandidates.slots (fun q => Γ.2.2 ≤ q)) 0 0 M 125 [some (va_rf a0), some (va_rf a1), some (va_rf a2), none, some (va_rf a4), none] [] := by
  unfold fn_Route_findCandidates_125 at h
  refine Gk_aload (r := a4) B d_Route_findCandidates_125 rfl ?_
  refine Gk_ifnull (tgt := 153) B d_Route_findCandidates_127 rfl (fun c127 => ?_) (fun c127 => ?_)
  · rw [if_pos c127] at h
    refine Gk_iconst (v := 0) B d_Route_findCandidates_153 (by decide) ?_
    obtain ⟨z, hz, h⟩ := gk_bind h
    obtain ⟨hz1, hz2⟩ := gk_z_eq hz
    cases h
    subst hz1
    exact Gk_iret B hr d_Route_findCandidates_154 (gk_nz hz2) (by decide) (by decide) rfl
  rw [if_neg c127] at h
  refine Gk_aload_n (i := 0) (r := a0) B d_Route_findCandidates_130 rfl rfl ?_
  refine Gk_aload (r := a4) B d_Route_findCandidates_131 rfl ?_
  refine Gk_aload_n (i := 2) (r := a2) B d_Route_findCandidates_133 rfl rfl ?_
  obtain ⟨o134, g134, h⟩ := gk_bind h
  obtain ⟨w134, h134, h⟩ := gk_bind h
  refine Gk_callV (As := [va_rf a4, va_rf a2]) (rest := []) (st1 := []) (k1 := 0) (n1 := 0) B gk_hG d_Route_findCandidates_134 (sn_Route_follow h134) g134 cl_Route tw_605 tw_602 tw_604 tw_4 tw_45 nm_Route_follow rfl (by decide) ⟨by decide, by decide⟩ ⟨by decide, by decide⟩ rfl rfl rfl rfl ?_
  refine Gk_aload_n (i := 0) (r := a0) B d_Route_findCandidates_137 rfl rfl ?_
  refine Gk_aload_n (i := 1) (r := a1) B d_Route_findCandidates_138 rfl rfl ?_
  refine Gk_aload_n (i := 0) (r := a0) B d_Route_findCandidates_139 rfl rfl ?_
  obtain ⟨v140, h140, h⟩ := gk_bind h
  refine Gk_getI (j := 2) B d_Route_findCandidates_140 in_Route cl_Route (by decide) tw_204 rfl h140 ?_
  refine Gk_aload (r := a4) B d_Route_findCandidates_143 rfl ?_
  obtain ⟨o145, g145, h⟩ := gk_bind h
  obtain ⟨w145, h145, h⟩ := gk_bind h
  refine Gk_callV (As := [.int v140, va_rf a4]) (rest := [va_rf a0]) (st1 := [.int w145.1, va_rf a0]) (k1 := 0) (n1 := 0) B gk_hG d_Route_findCandidates_145 (sn_Catalog_methodsWith h145) g145 cl_Catalog tw_643 tw_640 tw_641 tw_642 tw_42 nm_Catalog_methodsWith rfl (by simp [gk_rc, gk_ic, gk_jc, rm_Route_findCandidates]) ⟨by decide, by decide⟩ ⟨by decide, by decide⟩ rfl rfl rfl rfl ?_
  obtain ⟨M148, h148, h⟩ := gk_bind h
  refine Gk_put (j := 3) (ty := .int) B d_Route_findCandidates_148 in_Route t_Route t_Route_ok n_Route cl_Route (by decide) tw_205 rfl rfl rfl rfl rfl h148 ?_
  refine Gk_iconst (v := 1) B d_Route_findCandidates_151 (by decide) ?_
  obtain ⟨z, hz, h⟩ := gk_bind h
  obtain ⟨hz1, hz2⟩ := gk_z_eq hz
  cases h
  subst hz1
  exact Gk_iret B hr d_Route_findCandidates_152 (gk_nz hz2) (by decide) (by decide) rfl
set_option maxHeartbeats 4000000 in
set_option maxRecDepth 100000 in
theorem sn_Route_findCandidates_92 {l : Launch} {Γ : gk_G} {p : Program} {e : Env} {s : State} {m : MethodId} {args : Array Value} {below : List Frame} {meth : Method} {c : Code} (B : gk_B p s m args meth c gk_Y Γ c_Route_findCandidates 6 "StageDispatcher$Route") (hr : meth.sig.returnType = (some .boolean)) {ρ : Int32 × gk_M} {k2 : Option Nat → Option Nat → Option Nat → Int32 → gk_M → Option (Int32 × gk_M)} (H2 : ∀ (a0 : Option Nat) (a1 : Option Nat) (a2 : Option Nat) (x3 : Int32) (M : gk_M), k2 a0 a1 a2 x3 M = some ρ → Gk p l e rm_Route_findCandidates s m args below meth c gk_Y Γ 6 (MQ below (gk_Q gk_Y Γ (some (.int ρ.1)) ρ.2) args s rm_Route_findCandidates.cells rm_Route_findCandidates.slots (fun q => Γ.2.2 ≤ q)) 0 0 M 2 [some (va_rf a0), some (va_rf a1), some (va_rf a2), some (.int x3), none, none] []) {a0 : Option Nat} {a1 : Option Nat} {a2 : Option Nat} {x3 : Int32} {a5 : Option Nat} {M : gk_M} (h : fn_Route_findCandidates_92 k2 a0 a1 a2 x3 a5 M = some ρ) : Gk p l e rm_Route_findCandidates s m args below meth c gk_Y Γ 6 (MQ below (gk_Q gk_Y Γ (some (.int ρ.1)) ρ.2) args s rm_Route_findCandidates.cells rm_Route_findCandidates.slots (fun q => Γ.2.2 ≤ q)) 0 0 M 92 [some (va_rf a0), some (va_rf a1), some (va_rf a2), some (.int x3), none, some (va_rf a5)] [] := by
  unfold fn_Route_findCandidates_92 at h
  refine Gk_aload_n (i := 0) (r := a0) B d_Route_findCandidates_92 rfl rfl ?_
  refine Gk_aload (r := a5) B d_Route_findCandidates_93 rfl ?_
  obtain ⟨v95, h95, h⟩ := gk_bind h
  refine Gk_getRN (j := 1) B d_Route_findCandidates_95 in_Locator cl_Locator (by decide) nw_456 rfl h95 ?_
  refine Gk_aload_n (i := 2) (r := a2) B d_Route_findCandidates_98 rfl rfl ?_
  obtain ⟨o99, g99, h⟩ := gk_bind h
  obtain ⟨w99, h99, h⟩ := gk_bind h
  refine Gk_callV (As := [va_rf v95, va_rf a2]) (rest := []) (st1 := []) (k1 := 0) (n1 := 0) B gk_hG d_Route_findCandidates_99 (sn_Route_follow h99) g99 cl_Route tw_605 tw_602 tw_604 tw_4 tw_45 nm_Route_follow rfl (by decide) ⟨by decide, by decide⟩ ⟨by decide, by decide⟩ rfl rfl rfl rfl ?_
  refine Gk_aload_n (i := 0) (r := a0) B d_Route_findCandidates_102 rfl rfl ?_
  refine Gk_iconst (v := 1) B d_Route_findCandidates_103 (by decide) ?_
  refine Gk_aload (r := a5) B d_Route_findCandidates_104 rfl ?_
  obtain ⟨v106, h106, h⟩ := gk_bind h
  refine Gk_getIN (j := 2) B d_Route_findCandidates_106 in_Locator cl_Locator (by decide) nw_458 rfl h106 ?_
  refine Gk_ishl B d_Route_findCandidates_109 ?_
  obtain ⟨M110, h110, h⟩ := gk_bind h
  refine Gk_put (j := 2) (ty := .int) B d_Route_findCandidates_110 in_Route t_Route t_Route_ok n_Route cl_Route (by decide) tw_204 rfl rfl rfl rfl rfl h110 ?_
  refine Gk_aload_n (i := 2) (r := a2) B d_Route_findCandidates_113 rfl rfl ?_
  refine Gk_aload (r := a5) B d_Route_findCandidates_114 rfl ?_
  obtain ⟨v116, h116, h⟩ := gk_bind h
  refine Gk_getIN (j := 2) B d_Route_findCandidates_116 in_Locator cl_Locator (by decide) nw_458 rfl h116 ?_
  obtain ⟨o119, g119, h⟩ := gk_bind h
  obtain ⟨w119, h119, h⟩ := gk_bind h
  refine Gk_callV (As := [.int v116]) (rest := []) (st1 := []) (k1 := 0) (n1 := 0) B gk_hG d_Route_findCandidates_119 (sn_Outcome_addHop h119) g119 cl_Outcome tw_639 tw_636 tw_637 tw_638 tw_47 nm_Outcome_addHop rfl (by decide) ⟨by decide, by decide⟩ ⟨by decide, by decide⟩ rfl rfl rfl rfl ?_
  refine Gk_goto (tgt := 155) B d_Route_findCandidates_122 rfl ?_
  refine Gk_iinc (x := x3) (v := (x3 + 1)) (L' := [some (va_rf a0), some (va_rf a1), some (va_rf a2), some (.int (x3 + 1)), none, some (va_rf a5)]) B d_Route_findCandidates_155 rfl (congrArg (fun z => x3 + z) (by decide : Int32.ofInt 1 = 1)) (by decide) (gk_c1_r rfl) rfl ?_
  refine Gk_goto (tgt := 2) B d_Route_findCandidates_158 rfl ?_
  refine Gk_weak [true, true, true, true, false, false] (L' := [some (va_rf a0), some (va_rf a1), some (va_rf a2), some (.int (x3 + 1)), none, none]) rfl ?_
  exact H2 a0 a1 a2 (x3 + 1) w119 h
set_option maxHeartbeats 4000000 in
set_option maxRecDepth 100000 in
theorem sn_Route_findCandidates_35 {l : Launch} {Γ : gk_G} {p : Program} {e : Env} {s : State} {m : MethodId} {args : Array Value} {below : List Frame} {meth : Method} {c : Code} (B : gk_B p s m args meth c gk_Y Γ c_Route_findCandidates 6 "StageDispatcher$Route") (hr : meth.sig.returnType = (some .boolean)) {ρ : Int32 × gk_M} {k2 : Option Nat → Option Nat → Option Nat → Int32 → gk_M → Option (Int32 × gk_M)} (H2 : ∀ (a0 : Option Nat) (a1 : Option Nat) (a2 : Option Nat) (x3 : Int32) (M : gk_M), k2 a0 a1 a2 x3 M = some ρ → Gk p l e rm_Route_findCandidates s m args below meth c gk_Y Γ 6 (MQ below (gk_Q gk_Y Γ (some (.int ρ.1)) ρ.2) args s rm_Route_findCandidates.cells rm_Route_findCandidates.slots (fun q => Γ.2.2 ≤ q)) 0 0 M 2 [some (va_rf a0), some (va_rf a1), some (va_rf a2), some (.int x3), none, none] []) {a0 : Option Nat} {a1 : Option Nat} {a2 : Option Nat} {x3 : Int32} {s0 : Option Nat} {s1 : Int32} {M : gk_M} (h : fn_Route_findCandidates_35 k2 a0 a1 a2 x3 s0 s1 M = some ρ) : Gk p l e rm_Route_findCandidates s m args below meth c gk_Y Γ 6 (MQ below (gk_Q gk_Y Γ (some (.int ρ.1)) ρ.2) args s rm_Route_findCandidates.cells rm_Route_findCandidates.slots (fun q => Γ.2.2 ≤ q)) 0 0 M 35 [some (va_rf a0), some (va_rf a1), some (va_rf a2), some (.int x3), none, none] [.int s1, va_rf s0] := by
  unfold fn_Route_findCandidates_35 at h
  obtain ⟨M35, h35, h⟩ := gk_bind h
  refine Gk_put (j := 3) (ty := .int) B d_Route_findCandidates_35 in_Route t_Route t_Route_ok n_Route cl_Route (by decide) tw_205 rfl rfl rfl rfl rfl h35 ?_
  refine Gk_aload_n (i := 0) (r := a0) B d_Route_findCandidates_38 rfl rfl ?_
  obtain ⟨v39, h39, h⟩ := gk_bind h
  refine Gk_getI (j := 3) B d_Route_findCandidates_39 in_Route cl_Route (by decide) tw_205 rfl h39 ?_
  refine Gk_if_eq (tgt := 47) B d_Route_findCandidates_42 rfl (fun c42 => ?_) (fun c42 => ?_)
  · rw [if_pos c42] at h
    refine Gk_aload_n (i := 0) (r := a0) B d_Route_findCandidates_47 rfl rfl ?_
    refine Gk_aload_n (i := 1) (r := a1) B d_Route_findCandidates_48 rfl rfl ?_
    refine Gk_aload_n (i := 2) (r := a2) B d_Route_findCandidates_49 rfl rfl ?_
    obtain ⟨v50, h50, h⟩ := gk_bind h
    refine Gk_getR (j := 0) B d_Route_findCandidates_50 in_Outcome cl_Outcome (by decide) tw_225 rfl h50 ?_
    obtain ⟨o53, g53, h⟩ := gk_bind h
    obtain ⟨w53, h53, h⟩ := gk_bind h
    refine Gk_callV (As := [va_rf a1, va_rf v50]) (rest := []) (st1 := [va_rf w53.1]) (k1 := 0) (n1 := 0) B gk_hG d_Route_findCandidates_53 (sn_Route_heaviestOfMethods h53) g53 cl_Route tw_630 tw_627 tw_629 tw_5 tw_45 nm_Route_heaviestOfMethods rfl (by decide) ⟨by decide, by decide⟩ ⟨by decide, by decide⟩ rfl rfl rfl rfl ?_
    refine Gk_astore (L' := [some (va_rf a0), some (va_rf a1), some (va_rf a2), some (.int x3), some (va_rf w53.1), none]) B d_Route_findCandidates_56 (by decide) (gk_c1_i rfl) rfl ?_
    refine Gk_aload_n (i := 0) (r := a0) B d_Route_findCandidates_58 rfl rfl ?_
    refine Gk_aload_n (i := 1) (r := a1) B d_Route_findCandidates_59 rfl rfl ?_
    refine Gk_aload_n (i := 2) (r := a2) B d_Route_findCandidates_60 rfl rfl ?_
    obtain ⟨v61, h61, h⟩ := gk_bind h
    refine Gk_getR (j := 0) B d_Route_findCandidates_61 in_Outcome cl_Outcome (by decide) tw_225 rfl h61 ?_
    obtain ⟨o64, g64, h⟩ := gk_bind h
    obtain ⟨w64, h64, h⟩ := gk_bind h
    refine Gk_callV (As := [va_rf a1, va_rf v61]) (rest := []) (st1 := [va_rf w64.1]) (k1 := 0) (n1 := 0) B gk_hG d_Route_findCandidates_64 (sn_Route_heaviestLocator h64) g64 cl_Route tw_635 tw_632 tw_634 tw_6 tw_45 nm_Route_heaviestLocator rfl (by decide) ⟨by decide, by decide⟩ ⟨by decide, by decide⟩ rfl rfl rfl rfl ?_
    refine Gk_astore (L' := [some (va_rf a0), some (va_rf a1), some (va_rf a2), some (.int x3), some (va_rf w53.1), some (va_rf w64.1)]) B d_Route_findCandidates_67 (by decide) (gk_c1_r rfl) rfl ?_
    refine Gk_aload (r := w64.1) B d_Route_findCandidates_69 rfl ?_
    refine Gk_ifnull (tgt := 125) B d_Route_findCandidates_71 rfl (fun c71 => ?_) (fun c71 => ?_)
    · rw [if_pos c71] at h
      refine Gk_weak [true, true, true, false, true, false] (L' := [some (va_rf a0), some (va_rf a1), some (va_rf a2), none, some (va_rf w53.1), none]) rfl ?_
      exact sn_Route_findCandidates_125 B hr h
    rw [if_neg c71] at h
    refine Gk_aload (r := w53.1) B d_Route_findCandidates_74 rfl ?_
    refine Gk_ifnull (tgt := 92) B d_Route_findCandidates_76 rfl (fun c76 => ?_) (fun c76 => ?_)
    · rw [if_pos c76] at h
      refine Gk_weak [true, true, true, true, false, true] (L' := [some (va_rf a0), some (va_rf a1), some (va_rf a2), some (.int x3), none, some (va_rf w64.1)]) rfl ?_
      exact sn_Route_findCandidates_92 B hr H2 h
    rw [if_neg c76] at h
    refine Gk_aload (r := w64.1) B d_Route_findCandidates_79 rfl ?_
    obtain ⟨v81, h81, h⟩ := gk_bind h
    refine Gk_getRN (j := 1) B d_Route_findCandidates_81 in_Locator cl_Locator (by decide) nw_456 rfl h81 ?_
    refine Gk_aload (r := w53.1) B d_Route_findCandidates_84 rfl ?_
    obtain ⟨o86, g86, h⟩ := gk_bind h
    obtain ⟨w86, h86, h⟩ := gk_bind h
    refine Gk_callV (As := [va_rf w53.1]) (rest := []) (st1 := [.int w86.1]) (k1 := 0) (n1 := 0) B gk_hG d_Route_findCandidates_86 (sn_Template_isHeavierThan h86) g86 cl_Template tw_571 tw_568 tw_569 tw_570 tw_49 nm_Template_isHeavierThan rfl (by decide) ⟨by decide, by decide⟩ ⟨by decide, by decide⟩ rfl rfl rfl rfl ?_
    refine Gk_if_eq (tgt := 125) B d_Route_findCandidates_89 rfl (fun c89 => ?_) (fun c89 => ?_)
    · rw [if_pos c89] at h
      refine Gk_weak [true, true, true, false, true, false] (L' := [some (va_rf a0), some (va_rf a1), some (va_rf a2), none, some (va_rf w53.1), none]) rfl ?_
      exact sn_Route_findCandidates_125 B hr h
    rw [if_neg c89] at h
    refine Gk_weak [true, true, true, true, false, true] (L' := [some (va_rf a0), some (va_rf a1), some (va_rf a2), some (.int x3), none, some (va_rf w64.1)]) rfl ?_
    exact sn_Route_findCandidates_92 B hr H2 h
  rw [if_neg c42] at h
  refine Gk_iconst (v := 1) B d_Route_findCandidates_45 (by decide) ?_
  obtain ⟨z, hz, h⟩ := gk_bind h
  obtain ⟨hz1, hz2⟩ := gk_z_eq hz
  cases h
  subst hz1
  exact Gk_iret B hr d_Route_findCandidates_46 (gk_nz hz2) (by decide) (by decide) rfl
set_option maxHeartbeats 4000000 in
set_option maxRecDepth 100000 in
theorem sn_Route_findCandidates_2_bd {l : Launch} {Γ : gk_G} {p : Program} {e : Env} {s : State} {m : MethodId} {args : Array Value} {below : List Frame} {meth : Method} {c : Code} (B : gk_B p s m args meth c gk_Y Γ c_Route_findCandidates 6 "StageDispatcher$Route") (hr : meth.sig.returnType = (some .boolean)) {ρ : Int32 × gk_M} {k2 : Option Nat → Option Nat → Option Nat → Int32 → gk_M → Option (Int32 × gk_M)} (H2 : ∀ (a0 : Option Nat) (a1 : Option Nat) (a2 : Option Nat) (x3 : Int32) (M : gk_M), k2 a0 a1 a2 x3 M = some ρ → Gk p l e rm_Route_findCandidates s m args below meth c gk_Y Γ 6 (MQ below (gk_Q gk_Y Γ (some (.int ρ.1)) ρ.2) args s rm_Route_findCandidates.cells rm_Route_findCandidates.slots (fun q => Γ.2.2 ≤ q)) 0 0 M 2 [some (va_rf a0), some (va_rf a1), some (va_rf a2), some (.int x3), none, none] []) {a0 : Option Nat} {a1 : Option Nat} {a2 : Option Nat} {x3 : Int32} {M : gk_M} (h : fn_Route_findCandidates_2_bd k2 a0 a1 a2 x3 M = some ρ) : Gk p l e rm_Route_findCandidates s m args below meth c gk_Y Γ 6 (MQ below (gk_Q gk_Y Γ (some (.int ρ.1)) ρ.2) args s rm_Route_findCandidates.cells rm_Route_findCandidates.slots (fun q => Γ.2.2 ≤ q)) 0 0 M 2 [some (va_rf a0), some (va_rf a1), some (va_rf a2), some (.int x3), none, none] [] := by
  unfold fn_Route_findCandidates_2_bd at h
  refine Gk_iload_n (i := 3) (x := x3) B d_Route_findCandidates_2 rfl rfl ?_
  refine Gk_bipush (v := 24) B d_Route_findCandidates_3 (by decide) ?_
  refine Gk_icmp_gt (tgt := 161) B d_Route_findCandidates_5 rfl (fun c5 => ?_) (fun c5 => ?_)
  · rw [if_pos c5] at h
    refine Gk_iconst (v := 0) B d_Route_findCandidates_161 (by decide) ?_
    obtain ⟨z, hz, h⟩ := gk_bind h
    obtain ⟨hz1, hz2⟩ := gk_z_eq hz
    cases h
    subst hz1
    exact Gk_iret B hr d_Route_findCandidates_162 (gk_nz hz2) (by decide) (by decide) rfl
  rw [if_neg c5] at h
  refine Gk_aload_n (i := 0) (r := a0) B d_Route_findCandidates_8 rfl rfl ?_
  refine Gk_aload_n (i := 2) (r := a2) B d_Route_findCandidates_9 rfl rfl ?_
  obtain ⟨v10, h10, h⟩ := gk_bind h
  refine Gk_getR (j := 0) B d_Route_findCandidates_10 in_Outcome cl_Outcome (by decide) tw_225 rfl h10 ?_
  refine Gk_aload_n (i := 0) (r := a0) B d_Route_findCandidates_13 rfl rfl ?_
  obtain ⟨v14, h14, h⟩ := gk_bind h
  refine Gk_getI (j := 1) B d_Route_findCandidates_14 in_Route cl_Route (by decide) tw_203 rfl h14 ?_
  obtain ⟨o17, g17, h⟩ := gk_bind h
  obtain ⟨w17, h17, h⟩ := gk_bind h
  refine Gk_callV (As := [.int v14]) (rest := [va_rf a0]) (st1 := [.int w17.1, va_rf a0]) (k1 := 0) (n1 := 0) B gk_hG d_Route_findCandidates_17 (sn_Text_endsAt h17) g17 cl_Text tw_597 tw_594 tw_595 tw_596 tw_41 nm_Text_endsAt rfl (by simp [gk_rc, gk_ic, gk_jc, rm_Route_findCandidates]) ⟨by decide, by decide⟩ ⟨by decide, by decide⟩ rfl rfl rfl rfl ?_
  refine Gk_if_eq (tgt := 34) B d_Route_findCandidates_20 rfl (fun c20 => ?_) (fun c20 => ?_)
  · rw [if_pos c20] at h
    refine Gk_iconst (v := 0) B d_Route_findCandidates_34 (by decide) ?_
    exact sn_Route_findCandidates_35 B hr H2 h
  rw [if_neg c20] at h
  refine Gk_aload_n (i := 1) (r := a1) B d_Route_findCandidates_23 rfl rfl ?_
  refine Gk_aload_n (i := 0) (r := a0) B d_Route_findCandidates_24 rfl rfl ?_
  obtain ⟨v25, h25, h⟩ := gk_bind h
  refine Gk_getI (j := 2) B d_Route_findCandidates_25 in_Route cl_Route (by decide) tw_204 rfl h25 ?_
  obtain ⟨o28, g28, h⟩ := gk_bind h
  obtain ⟨w28, h28, h⟩ := gk_bind h
  refine Gk_callV (As := [.int v25]) (rest := [va_rf a0]) (st1 := [.int w28.1, va_rf a0]) (k1 := 0) (n1 := 0) B gk_hG d_Route_findCandidates_28 (sn_Catalog_bareMethods h28) g28 cl_Catalog tw_625 tw_622 tw_623 tw_624 tw_42 nm_Catalog_bareMethods rfl (by simp [gk_rc, gk_ic, gk_jc, rm_Route_findCandidates]) ⟨by decide, by decide⟩ ⟨by decide, by decide⟩ rfl rfl rfl rfl ?_
  refine Gk_goto (tgt := 35) B d_Route_findCandidates_31 rfl ?_
  exact sn_Route_findCandidates_35 B hr H2 h
set_option maxHeartbeats 4000000 in
set_option maxRecDepth 100000 in
theorem sn_Route_findCandidates_2 {l : Launch} {Γ : gk_G} {p : Program} {e : Env} {s : State} {m : MethodId} {args : Array Value} {below : List Frame} {meth : Method} {c : Code} (B : gk_B p s m args meth c gk_Y Γ c_Route_findCandidates 6 "StageDispatcher$Route") (hr : meth.sig.returnType = (some .boolean)) {ρ : Int32 × gk_M}   {a0 : Option Nat} {a1 : Option Nat} {a2 : Option Nat} {x3 : Int32} {M : gk_M} (h : fn_Route_findCandidates_2  a0 a1 a2 x3 M = some ρ) : Gk p l e rm_Route_findCandidates s m args below meth c gk_Y Γ 6 (MQ below (gk_Q gk_Y Γ (some (.int ρ.1)) ρ.2) args s rm_Route_findCandidates.cells rm_Route_findCandidates.slots (fun q => Γ.2.2 ≤ q)) 0 0 M 2 [some (va_rf a0), some (va_rf a1), some (va_rf a2), some (.int x3), none, none] [] := by
  unfold fn_Route_findCandidates_2 at h
  exact gk_loop_sound (α := Option Nat × Option Nat × Option Nat × Int32 × gk_M) (P := fun a => Gk p l e rm_Route_findCandidates s m args below meth c gk_Y Γ 6 (MQ below (gk_Q gk_Y Γ (some (.int ρ.1)) ρ.2) args s rm_Route_findCandidates.cells rm_Route_findCandidates.slots (fun q => Γ.2.2 ≤ q)) 0 0 a.2.2.2.2 2 [some (va_rf a.1), some (va_rf a.2.1), some (va_rf a.2.2.1), some (.int a.2.2.2.1), none, none] []) (fun kk a Hk hb => sn_Route_findCandidates_2_bd B hr (fun a0 a1 a2 x3 M hh => Hk (a0, a1, a2, x3, M) hh) hb) _ _ h
set_option maxHeartbeats 4000000 in
set_option maxRecDepth 100000 in
theorem sn_Route_findCandidates_0 {l : Launch} {Γ : gk_G} {p : Program} {e : Env} {s : State} {m : MethodId} {args : Array Value} {below : List Frame} {meth : Method} {c : Code} (B : gk_B p s m args meth c gk_Y Γ c_Route_findCandidates 6 "StageDispatcher$Route") (hr : meth.sig.returnType = (some .boolean)) {ρ : Int32 × gk_M}   {a0 : Option Nat} {a1 : Option Nat} {a2 : Option Nat} {M : gk_M} (h : fn_Route_findCandidates  a0 a1 a2 M = some ρ) : Gk p l e rm_Route_findCandidates s m args below meth c gk_Y Γ 6 (MQ below (gk_Q gk_Y Γ (some (.int ρ.1)) ρ.2) args s rm_Route_findCandidates.cells rm_Route_findCandidates.slots (fun q => Γ.2.2 ≤ q)) 0 0 M 0 [some (va_rf a0), some (va_rf a1), some (va_rf a2), none, none, none] [] := by
  unfold fn_Route_findCandidates at h
  refine Gk_iconst (v := 0) B d_Route_findCandidates_0 (by decide) ?_
  refine Gk_istore_n (i := 3) (L' := [some (va_rf a0), some (va_rf a1), some (va_rf a2), some (.int 0), none, none]) B d_Route_findCandidates_1 rfl (by decide) (gk_c1_r rfl) rfl ?_
  exact sn_Route_findCandidates_2 B hr h
theorem sn_Route_findCandidates {l : Launch} {Γ : gk_G} {a0 : Option Nat} {a1 : Option Nat} {a2 : Option Nat} {M : gk_M} {ρ : Int32 × gk_M} (h : fn_Route_findCandidates a0 a1 a2 M = some ρ) : gk_Met l gk_Y Γ y_Route_findCandidates (.code y_Route_findCandidates c_Route_findCandidates 6 (some .boolean) :: gk_Y.2.2.2) rm_Route_findCandidates [va_rf a0, va_rf a1, va_rf a2] M (some (.int ρ.1)) ρ.2 :=
  gk_start (by decide) (by simp [lg_sl, gk_rc, gk_ic, gk_jc]) [some (va_rf a0), some (va_rf a1), some (va_rf a2), none, none, none] (by simp [gk_as, lv_args, gk_rc, gk_ic, gk_jc]) (fun p e s m args below meth c B hr hin => sn_Route_findCandidates_0 B hr h)
theorem d_Catalog_verbsAllowedBy_0 : decode c_Catalog_verbsAllowedBy 0 = .ok (.bipush 32, 2) := by decide +kernel
theorem d_Catalog_verbsAllowedBy_2 : decode c_Catalog_verbsAllowedBy 2 = .ok (.istore_n 2, 1) := by decide +kernel
theorem d_Catalog_verbsAllowedBy_3 : decode c_Catalog_verbsAllowedBy 3 = .ok (.iconst 0, 1) := by decide +kernel
theorem d_Catalog_verbsAllowedBy_4 : decode c_Catalog_verbsAllowedBy 4 = .ok (.istore_n 3, 1) := by decide +kernel
theorem d_Catalog_verbsAllowedBy_5 : decode c_Catalog_verbsAllowedBy 5 = .ok (.iload_n 3, 1) := by decide +kernel
theorem d_Catalog_verbsAllowedBy_6 : decode c_Catalog_verbsAllowedBy 6 = .ok (.aload_n 0, 1) := by decide +kernel
theorem d_Catalog_verbsAllowedBy_7 : decode c_Catalog_verbsAllowedBy 7 = .ok (.getfield 33, 3) := by decide +kernel
theorem d_Catalog_verbsAllowedBy_10 : decode c_Catalog_verbsAllowedBy 10 = .ok (.if_icmp .ge 31, 3) := by decide +kernel
theorem d_Catalog_verbsAllowedBy_13 : decode c_Catalog_verbsAllowedBy 13 = .ok (.iload_n 1, 1) := by decide +kernel
theorem d_Catalog_verbsAllowedBy_14 : decode c_Catalog_verbsAllowedBy 14 = .ok (.iload_n 3, 1) := by decide +kernel
theorem d_Catalog_verbsAllowedBy_15 : decode c_Catalog_verbsAllowedBy 15 = .ok (.invokestatic 55, 3) := by decide +kernel
theorem d_Catalog_verbsAllowedBy_18 : decode c_Catalog_verbsAllowedBy 18 = .ok (.ifCond .eq 17, 3) := by decide +kernel
theorem d_Catalog_verbsAllowedBy_21 : decode c_Catalog_verbsAllowedBy 21 = .ok (.iload_n 2, 1) := by decide +kernel
theorem d_Catalog_verbsAllowedBy_22 : decode c_Catalog_verbsAllowedBy 22 = .ok (.iconst 1, 1) := by decide +kernel
theorem d_Catalog_verbsAllowedBy_23 : decode c_Catalog_verbsAllowedBy 23 = .ok (.aload_n 0, 1) := by decide +kernel
theorem d_Catalog_verbsAllowedBy_24 : decode c_Catalog_verbsAllowedBy 24 = .ok (.getfield 19, 3) := by decide +kernel
theorem d_Catalog_verbsAllowedBy_27 : decode c_Catalog_verbsAllowedBy 27 = .ok (.iload_n 3, 1) := by decide +kernel
theorem d_Catalog_verbsAllowedBy_28 : decode c_Catalog_verbsAllowedBy 28 = .ok (.aaload, 1) := by decide +kernel
theorem d_Catalog_verbsAllowedBy_29 : decode c_Catalog_verbsAllowedBy 29 = .ok (.getfield 59, 3) := by decide +kernel
theorem d_Catalog_verbsAllowedBy_32 : decode c_Catalog_verbsAllowedBy 32 = .ok (.ishl, 1) := by decide +kernel
theorem d_Catalog_verbsAllowedBy_33 : decode c_Catalog_verbsAllowedBy 33 = .ok (.ior, 1) := by decide +kernel
theorem d_Catalog_verbsAllowedBy_34 : decode c_Catalog_verbsAllowedBy 34 = .ok (.istore_n 2, 1) := by decide +kernel
theorem d_Catalog_verbsAllowedBy_35 : decode c_Catalog_verbsAllowedBy 35 = .ok (.iinc 3 1, 3) := by decide +kernel
theorem d_Catalog_verbsAllowedBy_38 : decode c_Catalog_verbsAllowedBy 38 = .ok (.goto (-33), 3) := by decide +kernel
theorem d_Catalog_verbsAllowedBy_41 : decode c_Catalog_verbsAllowedBy 41 = .ok (.iload_n 2, 1) := by decide +kernel
theorem d_Catalog_verbsAllowedBy_42 : decode c_Catalog_verbsAllowedBy 42 = .ok (.iconst 0, 1) := by decide +kernel
theorem d_Catalog_verbsAllowedBy_43 : decode c_Catalog_verbsAllowedBy 43 = .ok (.invokestatic 55, 3) := by decide +kernel
theorem d_Catalog_verbsAllowedBy_46 : decode c_Catalog_verbsAllowedBy 46 = .ok (.ifCond .eq 10, 3) := by decide +kernel
theorem d_Catalog_verbsAllowedBy_49 : decode c_Catalog_verbsAllowedBy 49 = .ok (.iload_n 2, 1) := by decide +kernel
theorem d_Catalog_verbsAllowedBy_50 : decode c_Catalog_verbsAllowedBy 50 = .ok (.bipush 16, 2) := by decide +kernel
theorem d_Catalog_verbsAllowedBy_52 : decode c_Catalog_verbsAllowedBy 52 = .ok (.ior, 1) := by decide +kernel
theorem d_Catalog_verbsAllowedBy_53 : decode c_Catalog_verbsAllowedBy 53 = .ok (.goto 4, 3) := by decide +kernel
theorem d_Catalog_verbsAllowedBy_56 : decode c_Catalog_verbsAllowedBy 56 = .ok (.iload_n 2, 1) := by decide +kernel
theorem d_Catalog_verbsAllowedBy_57 : decode c_Catalog_verbsAllowedBy 57 = .ok (.ireturn, 1) := by decide +kernel
set_option maxHeartbeats 4000000 in
set_option maxRecDepth 100000 in
theorem sn_Catalog_verbsAllowedBy_35 {l : Launch} {Γ : gk_G} {p : Program} {e : Env} {s : State} {m : MethodId} {args : Array Value} {below : List Frame} {meth : Method} {c : Code} (B : gk_B p s m args meth c gk_Y Γ c_Catalog_verbsAllowedBy 4 "StageDispatcher$Catalog") (hr : meth.sig.returnType = (some .int)) {ρ : Int32 × gk_M} {k5 : Option Nat → Int32 → Int32 → Int32 → gk_M → Option (Int32 × gk_M)} (H5 : ∀ (a0 : Option Nat) (x1 : Int32) (x2 : Int32) (x3 : Int32) (M : gk_M), k5 a0 x1 x2 x3 M = some ρ → Gk p l e rm_Catalog_verbsAllowedBy s m args below meth c gk_Y Γ 4 (MQ below (gk_Q gk_Y Γ (some (.int ρ.1)) ρ.2) args s rm_Catalog_verbsAllowedBy.cells rm_Catalog_verbsAllowedBy.slots (fun q => Γ.2.2 ≤ q)) 0 0 M 5 [some (va_rf a0), some (.int x1), some (.int x2), some (.int x3)] []) {a0 : Option Nat} {x1 : Int32} {x2 : Int32} {x3 : Int32} {M : gk_M} (h : fn_Catalog_verbsAllowedBy_35 k5 a0 x1 x2 x3 M = some ρ) : Gk p l e rm_Catalog_verbsAllowedBy s m args below meth c gk_Y Γ 4 (MQ below (gk_Q gk_Y Γ (some (.int ρ.1)) ρ.2) args s rm_Catalog_verbsAllowedBy.cells rm_Catalog_verbsAllowedBy.slots (fun q => Γ.2.2 ≤ q)) 0 0 M 35 [some (va_rf a0), some (.int x1), some (.int x2), some (.int x3)] [] := by
  unfold fn_Catalog_verbsAllowedBy_35 at h
  refine Gk_iinc (x := x3) (v := (x3 + 1)) (L' := [some (va_rf a0), some (.int x1), some (.int x2), some (.int (x3 + 1))]) B d_Catalog_verbsAllowedBy_35 rfl (congrArg (fun z => x3 + z) (by decide : Int32.ofInt 1 = 1)) (by decide) (gk_c1_i rfl) rfl ?_
  refine Gk_goto (tgt := 5) B d_Catalog_verbsAllowedBy_38 rfl ?_
  exact H5 a0 x1 x2 (x3 + 1) M h
set_option maxHeartbeats 4000000 in
set_option maxRecDepth 100000 in
theorem sn_Catalog_verbsAllowedBy_5_bd {l : Launch} {Γ : gk_G} {p : Program} {e : Env} {s : State} {m : MethodId} {args : Array Value} {below : List Frame} {meth : Method} {c : Code} (B : gk_B p s m args meth c gk_Y Γ c_Catalog_verbsAllowedBy 4 "StageDispatcher$Catalog") (hr : meth.sig.returnType = (some .int)) {ρ : Int32 × gk_M} {k5 : Option Nat → Int32 → Int32 → Int32 → gk_M → Option (Int32 × gk_M)} (H5 : ∀ (a0 : Option Nat) (x1 : Int32) (x2 : Int32) (x3 : Int32) (M : gk_M), k5 a0 x1 x2 x3 M = some ρ → Gk p l e rm_Catalog_verbsAllowedBy s m args below meth c gk_Y Γ 4 (MQ below (gk_Q gk_Y Γ (some (.int ρ.1)) ρ.2) args s rm_Catalog_verbsAllowedBy.cells rm_Catalog_verbsAllowedBy.slots (fun q => Γ.2.2 ≤ q)) 0 0 M 5 [some (va_rf a0), some (.int x1), some (.int x2), some (.int x3)] []) {a0 : Option Nat} {x1 : Int32} {x2 : Int32} {x3 : Int32} {M : gk_M} (h : fn_Catalog_verbsAllowedBy_5_bd k5 a0 x1 x2 x3 M = some ρ) : Gk p l e rm_Catalog_verbsAllowedBy s m args below meth c gk_Y Γ 4 (MQ below (gk_Q gk_Y Γ (some (.int ρ.1)) ρ.2) args s rm_Catalog_verbsAllowedBy.cells rm_Catalog_verbsAllowedBy.slots (fun q => Γ.2.2 ≤ q)) 0 0 M 5 [some (va_rf a0), some (.int x1), some (.int x2), some (.int x3)] [] := by
  unfold fn_Catalog_verbsAllowedBy_5_bd at h
  refine Gk_iload_n (i := 3) (x := x3) B d_Catalog_verbsAllowedBy_5 rfl rfl ?_
  refine Gk_aload_n (i := 0) (r := a0) B d_Catalog_verbsAllowedBy_6 rfl rfl ?_
  obtain ⟨v7, h7, h⟩ := gk_bind h
  refine Gk_getI (j := 4) B d_Catalog_verbsAllowedBy_7 in_Catalog cl_Catalog (by decide) tw_107 rfl h7 ?_
  refine Gk_icmp_ge (tgt := 41) B d_Catalog_verbsAllowedBy_10 rfl (fun c10 => ?_) (fun c10 => ?_)
  · rw [if_pos c10] at h
    refine Gk_iload_n (i := 2) (x := x2) B d_Catalog_verbsAllowedBy_41 rfl rfl ?_
    refine Gk_iconst (v := 0) B d_Catalog_verbsAllowedBy_42 (by decide) ?_
    obtain ⟨w43, h43, h⟩ := gk_bind h
    refine Gk_callSN (As := [.int x2, .int 0]) (rest := []) (st1 := [.int w43.1]) (k1 := 0) (n1 := 0) B gk_hG d_Catalog_verbsAllowedBy_43 (sn_SD_holds h43) tw_593 nw_626 tw_592 tw_40 nm_SD_holds rfl (by decide) ⟨by decide, by decide⟩ ⟨by decide, by decide⟩ rfl rfl rfl rfl ?_
    refine Gk_if_eq (tgt := 56) B d_Catalog_verbsAllowedBy_46 rfl (fun c46 => ?_) (fun c46 => ?_)
    · rw [if_pos c46] at h
      refine Gk_iload_n (i := 2) (x := x2) B d_Catalog_verbsAllowedBy_56 rfl rfl ?_
      cases h
      exact Gk_iret B hr d_Catalog_verbsAllowedBy_57 rfl (by decide) (by decide) rfl
    rw [if_neg c46] at h
    refine Gk_iload_n (i := 2) (x := x2) B d_Catalog_verbsAllowedBy_49 rfl rfl ?_
    refine Gk_bipush (v := 16) B d_Catalog_verbsAllowedBy_50 (by decide) ?_
    refine Gk_ior B d_Catalog_verbsAllowedBy_52 ?_
    refine Gk_goto (tgt := 57) B d_Catalog_verbsAllowedBy_53 rfl ?_
    cases h
    exact Gk_iret B hr d_Catalog_verbsAllowedBy_57 rfl (by decide) (by decide) rfl
  rw [if_neg c10] at h
  refine Gk_iload_n (i := 1) (x := x1) B d_Catalog_verbsAllowedBy_13 rfl rfl ?_
  refine Gk_iload_n (i := 3) (x := x3) B d_Catalog_verbsAllowedBy_14 rfl rfl ?_
  obtain ⟨w15, h15, h⟩ := gk_bind h
  refine Gk_callSN (As := [.int x1, .int x3]) (rest := []) (st1 := [.int w15.1]) (k1 := 0) (n1 := 0) B gk_hG d_Catalog_verbsAllowedBy_15 (sn_SD_holds h15) tw_593 nw_626 tw_592 tw_40 nm_SD_holds rfl (by decide) ⟨by decide, by decide⟩ ⟨by decide, by decide⟩ rfl rfl rfl rfl ?_
  refine Gk_if_eq (tgt := 35) B d_Catalog_verbsAllowedBy_18 rfl (fun c18 => ?_) (fun c18 => ?_)
  · rw [if_pos c18] at h
    exact sn_Catalog_verbsAllowedBy_35 B hr H5 h
  rw [if_neg c18] at h
  refine Gk_iload_n (i := 2) (x := x2) B d_Catalog_verbsAllowedBy_21 rfl rfl ?_
  refine Gk_iconst (v := 1) B d_Catalog_verbsAllowedBy_22 (by decide) ?_
  refine Gk_aload_n (i := 0) (r := a0) B d_Catalog_verbsAllowedBy_23 rfl rfl ?_
  obtain ⟨v24, h24, h⟩ := gk_bind h
  refine Gk_getR (j := 1) B d_Catalog_verbsAllowedBy_24 in_Catalog cl_Catalog (by decide) tw_99 rfl h24 ?_
  refine Gk_iload_n (i := 3) (x := x3) B d_Catalog_verbsAllowedBy_27 rfl rfl ?_
  obtain ⟨v28, h28, h⟩ := gk_bind h
  refine Gk_aaload B d_Catalog_verbsAllowedBy_28 ty_4 h28 ?_
  obtain ⟨v29, h29, h⟩ := gk_bind h
  refine Gk_getI (j := 2) B d_Catalog_verbsAllowedBy_29 in_Method cl_Method (by decide) tw_394 rfl h29 ?_
  refine Gk_ishl B d_Catalog_verbsAllowedBy_32 ?_
  refine Gk_ior B d_Catalog_verbsAllowedBy_33 ?_
  refine Gk_istore_n (i := 2) (L' := [some (va_rf a0), some (.int x1), some (.int (x2 ||| ((1 : Int32) <<< (v29 &&& 31)))), some (.int x3)]) B d_Catalog_verbsAllowedBy_34 rfl (by decide) (gk_c1_i rfl) rfl ?_
  exact sn_Catalog_verbsAllowedBy_35 B hr H5 h
set_option maxHeartbeats 4000000 in
set_option maxRecDepth 100000 in
theorem sn_Catalog_verbsAllowedBy_5 {l : Launch} {Γ : gk_G} {p : Program} {e : Env} {s : State} {m : MethodId} {args : Array Value} {below : List Frame} {meth : Method} {c : Code} (B : gk_B p s m args meth c gk_Y Γ c_Catalog_verbsAllowedBy 4 "StageDispatcher$Catalog") (hr : meth.sig.returnType = (some .int)) {ρ : Int32 × gk_M}   {a0 : Option Nat} {x1 : Int32} {x2 : Int32} {x3 : Int32} {M : gk_M} (h : fn_Catalog_verbsAllowedBy_5  a0 x1 x2 x3 M = some ρ) : Gk p l e rm_Catalog_verbsAllowedBy s m args below meth c gk_Y Γ 4 (MQ below (gk_Q gk_Y Γ (some (.int ρ.1)) ρ.2) args s rm_Catalog_verbsAllowedBy.cells rm_Catalog_verbsAllowedBy.slots (fun q => Γ.2.2 ≤ q)) 0 0 M 5 [some (va_rf a0), some (.int x1), some (.int x2), some (.int x3)] [] := by
  unfold fn_Catalog_verbsAllowedBy_5 at h
  exact gk_loop_sound (α := Option Nat × Int32 × Int32 × Int32 × gk_M) (P := fun a => Gk p l e rm_Catalog_verbsAllowedBy s m args below meth c gk_Y Γ 4 (MQ below (gk_Q gk_Y Γ (some (.int ρ.1)) ρ.2) args s rm_Catalog_verbsAllowedBy.cells rm_Catalog_verbsAllowedBy.slots (fun q => Γ.2.2 ≤ q)) 0 0 a.2.2.2.2 5 [some (va_rf a.1), some (.int a.2.1), some (.int a.2.2.1), some (.int a.2.2.2.1)] []) (fun kk a Hk hb => sn_Catalog_verbsAllowedBy_5_bd B hr (fun a0 x1 x2 x3 M hh => Hk (a0, x1, x2, x3, M) hh) hb) _ _ h
set_option maxHeartbeats 4000000 in
set_option maxRecDepth 100000 in
theorem sn_Catalog_verbsAllowedBy_0 {l : Launch} {Γ : gk_G} {p : Program} {e : Env} {s : State} {m : MethodId} {args : Array Value} {below : List Frame} {meth : Method} {c : Code} (B : gk_B p s m args meth c gk_Y Γ c_Catalog_verbsAllowedBy 4 "StageDispatcher$Catalog") (hr : meth.sig.returnType = (some .int)) {ρ : Int32 × gk_M}   {a0 : Option Nat} {x1 : Int32} {M : gk_M} (h : fn_Catalog_verbsAllowedBy  a0 x1 M = some ρ) : Gk p l e rm_Catalog_verbsAllowedBy s m args below meth c gk_Y Γ 4 (MQ below (gk_Q gk_Y Γ (some (.int ρ.1)) ρ.2) args s rm_Catalog_verbsAllowedBy.cells rm_Catalog_verbsAllowedBy.slots (fun q => Γ.2.2 ≤ q)) 0 0 M 0 [some (va_rf a0), some (.int x1), none, none] [] := by
  unfold fn_Catalog_verbsAllowedBy at h
  refine Gk_bipush (v := 32) B d_Catalog_verbsAllowedBy_0 (by decide) ?_
  refine Gk_istore_n (i := 2) (L' := [some (va_rf a0), some (.int x1), some (.int 32), none]) B d_Catalog_verbsAllowedBy_2 rfl (by decide) (gk_c1_i rfl) rfl ?_
  refine Gk_iconst (v := 0) B d_Catalog_verbsAllowedBy_3 (by decide) ?_
  refine Gk_istore_n (i := 3) (L' := [some (va_rf a0), some (.int x1), some (.int 32), some (.int 0)]) B d_Catalog_verbsAllowedBy_4 rfl (by decide) (gk_c1_i rfl) rfl ?_
  exact sn_Catalog_verbsAllowedBy_5 B hr h
theorem sn_Catalog_verbsAllowedBy {l : Launch} {Γ : gk_G} {a0 : Option Nat} {x1 : Int32} {M : gk_M} {ρ : Int32 × gk_M} (h : fn_Catalog_verbsAllowedBy a0 x1 M = some ρ) : gk_Met l gk_Y Γ y_Catalog_verbsAllowedBy (.code y_Catalog_verbsAllowedBy c_Catalog_verbsAllowedBy 4 (some .int) :: gk_Y.2.2.2) rm_Catalog_verbsAllowedBy [va_rf a0, .int x1] M (some (.int ρ.1)) ρ.2 :=
  gk_start (by decide) (by simp [lg_sl, gk_rc, gk_ic, gk_jc]) [some (va_rf a0), some (.int x1), none, none] (by simp [gk_as, lv_args, gk_rc, gk_ic, gk_jc]) (fun p e s m args below meth c B hr hin => sn_Catalog_verbsAllowedBy_0 B hr h)
theorem d_Catalog_withVerb_0 : decode c_Catalog_withVerb 0 = .ok (.iconst 0, 1) := by decide +kernel
theorem d_Catalog_withVerb_1 : decode c_Catalog_withVerb 1 = .ok (.istore_n 3, 1) := by decide +kernel
theorem d_Catalog_withVerb_2 : decode c_Catalog_withVerb 2 = .ok (.iconst 0, 1) := by decide +kernel
theorem d_Catalog_withVerb_3 : decode c_Catalog_withVerb 3 = .ok (.istore 4, 2) := by decide +kernel
theorem d_Catalog_withVerb_5 : decode c_Catalog_withVerb 5 = .ok (.iload 4, 2) := by decide +kernel
theorem d_Catalog_withVerb_7 : decode c_Catalog_withVerb 7 = .ok (.aload_n 0, 1) := by decide +kernel
theorem d_Catalog_withVerb_8 : decode c_Catalog_withVerb 8 = .ok (.getfield 33, 3) := by decide +kernel
theorem d_Catalog_withVerb_11 : decode c_Catalog_withVerb 11 = .ok (.if_icmp .ge 39, 3) := by decide +kernel
theorem d_Catalog_withVerb_14 : decode c_Catalog_withVerb 14 = .ok (.iload_n 1, 1) := by decide +kernel
theorem d_Catalog_withVerb_15 : decode c_Catalog_withVerb 15 = .ok (.iload 4, 2) := by decide +kernel
theorem d_Catalog_withVerb_17 : decode c_Catalog_withVerb 17 = .ok (.invokestatic 55, 3) := by decide +kernel
theorem d_Catalog_withVerb_20 : decode c_Catalog_withVerb 20 = .ok (.ifCond .eq 24, 3) := by decide +kernel
theorem d_Catalog_withVerb_23 : decode c_Catalog_withVerb 23 = .ok (.aload_n 0, 1) := by decide +kernel
theorem d_Catalog_withVerb_24 : decode c_Catalog_withVerb 24 = .ok (.getfield 19, 3) := by decide +kernel
theorem d_Catalog_withVerb_27 : decode c_Catalog_withVerb 27 = .ok (.iload 4, 2) := by decide +kernel
theorem d_Catalog_withVerb_29 : decode c_Catalog_withVerb 29 = .ok (.aaload, 1) := by decide +kernel
theorem d_Catalog_withVerb_30 : decode c_Catalog_withVerb 30 = .ok (.getfield 59, 3) := by decide +kernel
theorem d_Catalog_withVerb_33 : decode c_Catalog_withVerb 33 = .ok (.iload_n 2, 1) := by decide +kernel
theorem d_Catalog_withVerb_34 : decode c_Catalog_withVerb 34 = .ok (.if_icmp .ne 10, 3) := by decide +kernel
theorem d_Catalog_withVerb_37 : decode c_Catalog_withVerb 37 = .ok (.iload_n 3, 1) := by decide +kernel
theorem d_Catalog_withVerb_38 : decode c_Catalog_withVerb 38 = .ok (.iconst 1, 1) := by decide +kernel
theorem d_Catalog_withVerb_39 : decode c_Catalog_withVerb 39 = .ok (.iload 4, 2) := by decide +kernel
theorem d_Catalog_withVerb_41 : decode c_Catalog_withVerb 41 = .ok (.ishl, 1) := by decide +kernel
theorem d_Catalog_withVerb_42 : decode c_Catalog_withVerb 42 = .ok (.ior, 1) := by decide +kernel
theorem d_Catalog_withVerb_43 : decode c_Catalog_withVerb 43 = .ok (.istore_n 3, 1) := by decide +kernel
theorem d_Catalog_withVerb_44 : decode c_Catalog_withVerb 44 = .ok (.iinc 4 1, 3) := by decide +kernel
theorem d_Catalog_withVerb_47 : decode c_Catalog_withVerb 47 = .ok (.goto (-42), 3) := by decide +kernel
theorem d_Catalog_withVerb_50 : decode c_Catalog_withVerb 50 = .ok (.iload_n 3, 1) := by decide +kernel
theorem d_Catalog_withVerb_51 : decode c_Catalog_withVerb 51 = .ok (.ireturn, 1) := by decide +kernel
set_option maxHeartbeats 4000000 in
set_option maxRecDepth 100000 in
theorem sn_Catalog_withVerb_44 {l : Launch} {Γ : gk_G} {p : Program} {e : Env} {s : State} {m : MethodId} {args : Array Value} {below : List Frame} {meth : Method} {c : Code} (B : gk_B p s m args meth c gk_Y Γ c_Catalog_withVerb 5 "StageDispatcher$Catalog") (hr : meth.sig.returnType = (some .int)) {ρ : Int32 × gk_M} {k5 : Option Nat → Int32 → Int32 → Int32 → Int32 → gk_M → Option (Int32 × gk_M)} (H5 : ∀ (a0 : Option Nat) (x1 : Int32) (x2 : Int32) (x3 : Int32) (x4 : Int32) (M : gk_M), k5 a0 x1 x2 x3 x4 M = some ρ → Gk p l e rm_Catalog_withVerb s m args below meth c gk_Y Γ 5 (MQ below (gk_Q gk_Y Γ (some (.int ρ.1)) ρ.2) args s rm_Catalog_withVerb.cells rm_Catalog_withVerb.slots (fun q => Γ.2.2 ≤ q)) 0 0 M 5 [some (va_rf a0), some (.int x1), some (.int x2), some (.int x3), some (.int x4)] []) {a0 : Option Nat} {x1 : Int32} {x2 : Int32} {x3 : Int32} {x4 : Int32} {M : gk_M} (h : fn_Catalog_withVerb_44 k5 a0 x1 x2 x3 x4 M = some ρ) : Gk p l e rm_Catalog_withVerb s m args below meth c gk_Y Γ 5 (MQ below (gk_Q gk_Y Γ (some (.int ρ.1)) ρ.2) args s rm_Catalog_withVerb.cells rm_Catalog_withVerb.slots (fun q => Γ.2.2 ≤ q)) 0 0 M 44 [some (va_rf a0), some (.int x1), some (.int x2), some (.int x3), some (.int x4)] [] := by
  unfold fn_Catalog_withVerb_44 at h
  refine Gk_iinc (x := x4) (v := (x4 + 1)) (L' := [some (va_rf a0), some (.int x1), some (.int x2), some (.int x3), some (.int (x4 + 1))]) B d_Catalog_withVerb_44 rfl (congrArg (fun z => x4 + z) (by decide : Int32.ofInt 1 = 1)) (by decide) (gk_c1_i rfl) rfl ?_
  refine Gk_goto (tgt := 5) B d_Catalog_withVerb_47 rfl ?_
  exact H5 a0 x1 x2 x3 (x4 + 1) M h
set_option maxHeartbeats 4000000 in
set_option maxRecDepth 100000 in
theorem sn_Catalog_withVerb_5_bd {l : Launch} {Γ : gk_G} {p : Program} {e : Env} {s : State} {m : MethodId} {args : Array Value} {below : List Frame} {meth : Method} {c : Code} (B : gk_B p s m args meth c gk_Y Γ c_Catalog_withVerb 5 "StageDispatcher$Catalog") (hr : meth.sig.returnType = (some .int)) {ρ : Int32 × gk_M} {k5 : Option Nat → Int32 → Int32 → Int32 → Int32 → gk_M → Option (Int32 × gk_M)} (H5 : ∀ (a0 : Option Nat) (x1 : Int32) (x2 : Int32) (x3 : Int32) (x4 : Int32) (M : gk_M), k5 a0 x1 x2 x3 x4 M = some ρ → Gk p l e rm_Catalog_withVerb s m args below meth c gk_Y Γ 5 (MQ below (gk_Q gk_Y Γ (some (.int ρ.1)) ρ.2) args s rm_Catalog_withVerb.cells rm_Catalog_withVerb.slots (fun q => Γ.2.2 ≤ q)) 0 0 M 5 [some (va_rf a0), some (.int x1), some (.int x2), some (.int x3), some (.int x4)] []) {a0 : Option Nat} {x1 : Int32} {x2 : Int32} {x3 : Int32} {x4 : Int32} {M : gk_M} (h : fn_Catalog_withVerb_5_bd k5 a0 x1 x2 x3 x4 M = some ρ) : Gk p l e rm_Catalog_withVerb s m args below meth c gk_Y Γ 5 (MQ below (gk_Q gk_Y Γ (some (.int ρ.1)) ρ.2) args s rm_Catalog_withVerb.cells rm_Catalog_withVerb.slots (fun q => Γ.2.2 ≤ q)) 0 0 M 5 [some (va_rf a0), some (.int x1), some (.int x2), some (.int x3), some (.int x4)] [] := by
  unfold fn_Catalog_withVerb_5_bd at h
  refine Gk_iload (x := x4) B d_Catalog_withVerb_5 rfl ?_
  refine Gk_aload_n (i := 0) (r := a0) B d_Catalog_withVerb_7 rfl rfl ?_
  obtain ⟨v8, h8, h⟩ := gk_bind h
  refine Gk_getI (j := 4) B d_Catalog_withVerb_8 in_Catalog cl_Catalog (by decide) tw_107 rfl h8 ?_
  refine Gk_icmp_ge (tgt := 50) B d_Catalog_withVerb_11 rfl (fun c11 => ?_) (fun c11 => ?_)
  · rw [if_pos c11] at h
    refine Gk_iload_n (i := 3) (x := x3) B d_Catalog_withVerb_50 rfl rfl ?_
    cases h
    exact Gk_iret B hr d_Catalog_withVerb_51 rfl (by decide) (by decide) rfl
  rw [if_neg c11] at h
  refine Gk_iload_n (i := 1) (x := x1) B d_Catalog_withVerb_14 rfl rfl ?_
  refine Gk_iload (x := x4) B d_Catalog_withVerb_15 rfl ?_
  obtain ⟨w17, h17, h⟩ := gk_bind h
  refine Gk_callSN (As := [.int x1, .int x4]) (rest := []) (st1 := [.int w17.1]) (k1 := 0) (n1 := 0) B gk_hG d_Catalog_withVerb_17 (sn_SD_holds h17) tw_593 nw_626 tw_592 tw_40 nm_SD_holds rfl (by decide) ⟨by decide, by decide⟩ ⟨by decide, by decide⟩ rfl rfl rfl rfl ?_
  refine Gk_if_eq (tgt := 44) B d_Catalog_withVerb_20 rfl (fun c20 => ?_) (fun c20 => ?_)
  · rw [if_pos c20] at h
    exact sn_Catalog_withVerb_44 B hr H5 h
  rw [if_neg c20] at h
  refine Gk_aload_n (i := 0) (r := a0) B d_Catalog_withVerb_23 rfl rfl ?_
  obtain ⟨v24, h24, h⟩ := gk_bind h
  refine Gk_getR (j := 1) B d_Catalog_withVerb_24 in_Catalog cl_Catalog (by decide) tw_99 rfl h24 ?_
  refine Gk_iload (x := x4) B d_Catalog_withVerb_27 rfl ?_
  obtain ⟨v29, h29, h⟩ := gk_bind h
  refine Gk_aaload B d_Catalog_withVerb_29 ty_4 h29 ?_
  obtain ⟨v30, h30, h⟩ := gk_bind h
  refine Gk_getI (j := 2) B d_Catalog_withVerb_30 in_Method cl_Method (by decide) tw_394 rfl h30 ?_
  refine Gk_iload_n (i := 2) (x := x2) B d_Catalog_withVerb_33 rfl rfl ?_
  refine Gk_icmp_ne (tgt := 44) B d_Catalog_withVerb_34 rfl (fun c34 => ?_) (fun c34 => ?_)
  · rw [if_neg c34] at h
    exact sn_Catalog_withVerb_44 B hr H5 h
  rw [if_pos c34] at h
  refine Gk_iload_n (i := 3) (x := x3) B d_Catalog_withVerb_37 rfl rfl ?_
  refine Gk_iconst (v := 1) B d_Catalog_withVerb_38 (by decide) ?_
  refine Gk_iload (x := x4) B d_Catalog_withVerb_39 rfl ?_
  refine Gk_ishl B d_Catalog_withVerb_41 ?_
  refine Gk_ior B d_Catalog_withVerb_42 ?_
  refine Gk_istore_n (i := 3) (L' := [some (va_rf a0), some (.int x1), some (.int x2), some (.int (x3 ||| ((1 : Int32) <<< (x4 &&& 31)))), some (.int x4)]) B d_Catalog_withVerb_43 rfl (by decide) (gk_c1_i rfl) rfl ?_
  exact sn_Catalog_withVerb_44 B hr H5 h
set_option maxHeartbeats 4000000 in
set_option maxRecDepth 100000 in
theorem sn_Catalog_withVerb_5 {l : Launch} {Γ : gk_G} {p : Program} {e : Env} {s : State} {m : MethodId} {args : Array Value} {below : List Frame} {meth : Method} {c : Code} (B : gk_B p s m args meth c gk_Y Γ c_Catalog_withVerb 5 "StageDispatcher$Catalog") (hr : meth.sig.returnType = (some .int)) {ρ : Int32 × gk_M}   {a0 : Option Nat} {x1 : Int32} {x2 : Int32} {x3 : Int32} {x4 : Int32} {M : gk_M} (h : fn_Catalog_withVerb_5  a0 x1 x2 x3 x4 M = some ρ) : Gk p l e rm_Catalog_withVerb s m args below meth c gk_Y Γ 5 (MQ below (gk_Q gk_Y Γ (some (.int ρ.1)) ρ.2) args s rm_Catalog_withVerb.cells rm_Catalog_withVerb.slots (fun q => Γ.2.2 ≤ q)) 0 0 M 5 [some (va_rf a0), some (.int x1), some (.int x2), some (.int x3), some (.int x4)] [] := by
  unfold fn_Catalog_withVerb_5 at h
  exact gk_loop_sound (α := Option Nat × Int32 × Int32 × Int32 × Int32 × gk_M) (P := fun a => Gk p l e rm_Catalog_withVerb s m args below meth c gk_Y Γ 5 (MQ below (gk_Q gk_Y Γ (some (.int ρ.1)) ρ.2) args s rm_Catalog_withVerb.cells rm_Catalog_withVerb.slots (fun q => Γ.2.2 ≤ q)) 0 0 a.2.2.2.2.2 5 [some (va_rf a.1), some (.int a.2.1), some (.int a.2.2.1), some (.int a.2.2.2.1), some (.int a.2.2.2.2.1)] []) (fun kk a Hk hb => sn_Catalog_withVerb_5_bd B hr (fun a0 x1 x2 x3 x4 M hh => Hk (a0, x1, x2, x3, x4, M) hh) hb) _ _ h
set_option maxHeartbeats 4000000 in
set_option maxRecDepth 100000 in
theorem sn_Catalog_withVerb_0 {l : Launch} {Γ : gk_G} {p : Program} {e : Env} {s : State} {m : MethodId} {args : Array Value} {below : List Frame} {meth : Method} {c : Code} (B : gk_B p s m args meth c gk_Y Γ c_Catalog_withVerb 5 "StageDispatcher$Catalog") (hr : meth.sig.returnType = (some .int)) {ρ : Int32 × gk_M}   {a0 : Option Nat} {x1 : Int32} {x2 : Int32} {M : gk_M} (h : fn_Catalog_withVerb  a0 x1 x2 M = some ρ) : Gk p l e rm_Catalog_withVerb s m args below meth c gk_Y Γ 5 (MQ below (gk_Q gk_Y Γ (some (.int ρ.1)) ρ.2) args s rm_Catalog_withVerb.cells rm_Catalog_withVerb.slots (fun q => Γ.2.2 ≤ q)) 0 0 M 0 [some (va_rf a0), some (.int x1), some (.int x2), none, none] [] := by
  unfold fn_Catalog_withVerb at h
  refine Gk_iconst (v := 0) B d_Catalog_withVerb_0 (by decide) ?_
  refine Gk_istore_n (i := 3) (L' := [some (va_rf a0), some (.int x1), some (.int x2), some (.int 0), none]) B d_Catalog_withVerb_1 rfl (by decide) (gk_c1_i rfl) rfl ?_
  refine Gk_iconst (v := 0) B d_Catalog_withVerb_2 (by decide) ?_
  refine Gk_istore (L' := [some (va_rf a0), some (.int x1), some (.int x2), some (.int 0), some (.int 0)]) B d_Catalog_withVerb_3 (by decide) (gk_c1_i rfl) rfl ?_
  exact sn_Catalog_withVerb_5 B hr h
theorem sn_Catalog_withVerb {l : Launch} {Γ : gk_G} {a0 : Option Nat} {x1 : Int32} {x2 : Int32} {M : gk_M} {ρ : Int32 × gk_M} (h : fn_Catalog_withVerb a0 x1 x2 M = some ρ) : gk_Met l gk_Y Γ y_Catalog_withVerb (.code y_Catalog_withVerb c_Catalog_withVerb 5 (some .int) :: gk_Y.2.2.2) rm_Catalog_withVerb [va_rf a0, .int x1, .int x2] M (some (.int ρ.1)) ρ.2 :=
  gk_start (by decide) (by simp [lg_sl, gk_rc, gk_ic, gk_jc]) [some (va_rf a0), some (.int x1), some (.int x2), none, none] (by simp [gk_as, lv_args, gk_rc, gk_ic, gk_jc]) (fun p e s m args below meth c B hr hin => sn_Catalog_withVerb_0 B hr h)
theorem d_SD_covers_0 : decode c_SD_covers 0 = .ok (.iload_n 0, 1) := by decide +kernel
theorem d_SD_covers_1 : decode c_SD_covers 1 = .ok (.ifCond .eq 24, 3) := by decide +kernel
theorem d_SD_covers_4 : decode c_SD_covers 4 = .ok (.iload_n 0, 1) := by decide +kernel
theorem d_SD_covers_5 : decode c_SD_covers 5 = .ok (.iload_n 1, 1) := by decide +kernel
theorem d_SD_covers_6 : decode c_SD_covers 6 = .ok (.if_icmp .eq 19, 3) := by decide +kernel
theorem d_SD_covers_9 : decode c_SD_covers 9 = .ok (.iload_n 0, 1) := by decide +kernel
theorem d_SD_covers_10 : decode c_SD_covers 10 = .ok (.bipush 15, 2) := by decide +kernel
theorem d_SD_covers_12 : decode c_SD_covers 12 = .ok (.iand, 1) := by decide +kernel
theorem d_SD_covers_13 : decode c_SD_covers 13 = .ok (.ifCond .ne 16, 3) := by decide +kernel
theorem d_SD_covers_16 : decode c_SD_covers 16 = .ok (.iload_n 0, 1) := by decide +kernel
theorem d_SD_covers_17 : decode c_SD_covers 17 = .ok (.iconst 4, 1) := by decide +kernel
theorem d_SD_covers_18 : decode c_SD_covers 18 = .ok (.ishr, 1) := by decide +kernel
theorem d_SD_covers_19 : decode c_SD_covers 19 = .ok (.iload_n 1, 1) := by decide +kernel
theorem d_SD_covers_20 : decode c_SD_covers 20 = .ok (.iconst 4, 1) := by decide +kernel
theorem d_SD_covers_21 : decode c_SD_covers 21 = .ok (.ishr, 1) := by decide +kernel
theorem d_SD_covers_22 : decode c_SD_covers 22 = .ok (.if_icmp .ne 7, 3) := by decide +kernel
theorem d_SD_covers_25 : decode c_SD_covers 25 = .ok (.iconst 1, 1) := by decide +kernel
theorem d_SD_covers_26 : decode c_SD_covers 26 = .ok (.goto 4, 3) := by decide +kernel
theorem d_SD_covers_29 : decode c_SD_covers 29 = .ok (.iconst 0, 1) := by decide +kernel
theorem d_SD_covers_30 : decode c_SD_covers 30 = .ok (.ireturn, 1) := by decide +kernel
set_option maxHeartbeats 4000000 in
set_option maxRecDepth 100000 in
theorem sn_SD_covers_25 {l : Launch} {Γ : gk_G} {p : Program} {e : Env} {s : State} {m : MethodId} {args : Array Value} {below : List Frame} {meth : Method} {c : Code} (B : gk_B p s m args meth c gk_Y Γ c_SD_covers 2 "StageDispatcher") (hr : meth.sig.returnType = (some .boolean)) {ρ : Int32 × gk_M}    {M : gk_M} (h : fn_SD_covers_25   M = some ρ) : Gk p l e rm_SD_covers s m args below meth c gk_Y Γ 2 (MQ below (gk_Q gk_Y Γ (some (.int ρ.1)) ρ.2) args s rm_SD_covers.cells rm_SD_covers.slots (fun q => Γ.2.2 ≤ q)) 0 0 M 25 [none, none] [] := by
  unfold fn_SD_covers_25 at h
  refine Gk_iconst (v := 1) B d_SD_covers_25 (by decide) ?_
  refine Gk_goto (tgt := 30) B d_SD_covers_26 rfl ?_
  obtain ⟨z, hz, h⟩ := gk_bind h
  obtain ⟨hz1, hz2⟩ := gk_z_eq hz
  cases h
  subst hz1
  exact Gk_iret B hr d_SD_covers_30 (gk_nz hz2) (by decide) (by decide) rfl
set_option maxHeartbeats 4000000 in
set_option maxRecDepth 100000 in
theorem sn_SD_covers_29 {l : Launch} {Γ : gk_G} {p : Program} {e : Env} {s : State} {m : MethodId} {args : Array Value} {below : List Frame} {meth : Method} {c : Code} (B : gk_B p s m args meth c gk_Y Γ c_SD_covers 2 "StageDispatcher") (hr : meth.sig.returnType = (some .boolean)) {ρ : Int32 × gk_M}    {M : gk_M} (h : fn_SD_covers_29   M = some ρ) : Gk p l e rm_SD_covers s m args below meth c gk_Y Γ 2 (MQ below (gk_Q gk_Y Γ (some (.int ρ.1)) ρ.2) args s rm_SD_covers.cells rm_SD_covers.slots (fun q => Γ.2.2 ≤ q)) 0 0 M 29 [none, none] [] := by
  unfold fn_SD_covers_29 at h
  refine Gk_iconst (v := 0) B d_SD_covers_29 (by decide) ?_
  obtain ⟨z, hz, h⟩ := gk_bind h
  obtain ⟨hz1, hz2⟩ := gk_z_eq hz
  cases h
  subst hz1
  exact Gk_iret B hr d_SD_covers_30 (gk_nz hz2) (by decide) (by decide) rfl
set_option maxHeartbeats 4000000 in
set_option maxRecDepth 100000 in
theorem sn_SD_covers_0 {l : Launch} {Γ : gk_G} {p : Program} {e : Env} {s : State} {m : MethodId} {args : Array Value} {below : List Frame} {meth : Method} {c : Code} (B : gk_B p s m args meth c gk_Y Γ c_SD_covers 2 "StageDispatcher") (hr : meth.sig.returnType = (some .boolean)) {ρ : Int32 × gk_M}   {x0 : Int32} {x1 : Int32} {M : gk_M} (h : fn_SD_covers  x0 x1 M = some ρ) : Gk p l e rm_SD_covers s m args below meth c gk_Y Γ 2 (MQ below (gk_Q gk_Y Γ (some (.int ρ.1)) ρ.2) args s rm_SD_covers.cells rm_SD_covers.slots (fun q => Γ.2.2 ≤ q)) 0 0 M 0 [some (.int x0), some (.int x1)] [] := by
  unfold fn_SD_covers at h
  refine Gk_iload_n (i := 0) (x := x0) B d_SD_covers_0 rfl rfl ?_
  refine Gk_if_eq (tgt := 25) B d_SD_covers_1 rfl (fun c1 => ?_) (fun c1 => ?_)
  · rw [if_pos c1] at h
    refine Gk_weak [false, false] (L' := [none, none]) rfl ?_
    exact sn_SD_covers_25 B hr h
  rw [if_neg c1] at h
  refine Gk_iload_n (i := 0) (x := x0) B d_SD_covers_4 rfl rfl ?_
  refine Gk_iload_n (i := 1) (x := x1) B d_SD_covers_5 rfl rfl ?_
  refine Gk_icmp_eq (tgt := 25) B d_SD_covers_6 rfl (fun c6 => ?_) (fun c6 => ?_)
  · rw [if_pos c6] at h
    refine Gk_weak [false, false] (L' := [none, none]) rfl ?_
    exact sn_SD_covers_25 B hr h
  rw [if_neg c6] at h
  refine Gk_iload_n (i := 0) (x := x0) B d_SD_covers_9 rfl rfl ?_
  refine Gk_bipush (v := 15) B d_SD_covers_10 (by decide) ?_
  refine Gk_iand B d_SD_covers_12 ?_
  refine Gk_if_ne (tgt := 29) B d_SD_covers_13 rfl (fun c13 => ?_) (fun c13 => ?_)
  · rw [if_neg c13] at h
    refine Gk_weak [false, false] (L' := [none, none]) rfl ?_
    exact sn_SD_covers_29 B hr h
  rw [if_pos c13] at h
  refine Gk_iload_n (i := 0) (x := x0) B d_SD_covers_16 rfl rfl ?_
  refine Gk_iconst (v := 4) B d_SD_covers_17 (by decide) ?_
  refine Gk_ishr B d_SD_covers_18 ?_
  refine Gk_iload_n (i := 1) (x := x1) B d_SD_covers_19 rfl rfl ?_
  refine Gk_iconst (v := 4) B d_SD_covers_20 (by decide) ?_
  refine Gk_ishr B d_SD_covers_21 ?_
  refine Gk_icmp_ne (tgt := 29) B d_SD_covers_22 rfl (fun c22 => ?_) (fun c22 => ?_)
  · rw [if_neg c22] at h
    refine Gk_weak [false, false] (L' := [none, none]) rfl ?_
    exact sn_SD_covers_29 B hr h
  rw [if_pos c22] at h
  refine Gk_weak [false, false] (L' := [none, none]) rfl ?_
  exact sn_SD_covers_25 B hr h
theorem sn_SD_covers {l : Launch} {Γ : gk_G} {x0 : Int32} {x1 : Int32} {M : gk_M} {ρ : Int32 × gk_M} (h : fn_SD_covers x0 x1 M = some ρ) : gk_Met l gk_Y Γ y_SD_covers (.code y_SD_covers c_SD_covers 2 (some .boolean) :: gk_Y.2.2.2) rm_SD_covers [.int x0, .int x1] M (some (.int ρ.1)) ρ.2 :=
  gk_start (by decide) (by simp [lg_sl, gk_rc, gk_ic, gk_jc]) [some (.int x0), some (.int x1)] (by simp [gk_as, lv_args, gk_rc, gk_ic, gk_jc]) (fun p e s m args below meth c B hr hin => sn_SD_covers_0 B hr h)
theorem d_Catalog_consuming_0 : decode c_Catalog_consuming 0 = .ok (.iconst 0, 1) := by decide +kernel
theorem d_Catalog_consuming_1 : decode c_Catalog_consuming 1 = .ok (.istore_n 3, 1) := by decide +kernel
theorem d_Catalog_consuming_2 : decode c_Catalog_consuming 2 = .ok (.iconst 0, 1) := by decide +kernel
theorem d_Catalog_consuming_3 : decode c_Catalog_consuming 3 = .ok (.istore 4, 2) := by decide +kernel
theorem d_Catalog_consuming_5 : decode c_Catalog_consuming 5 = .ok (.iload 4, 2) := by decide +kernel
theorem d_Catalog_consuming_7 : decode c_Catalog_consuming 7 = .ok (.aload_n 0, 1) := by decide +kernel
theorem d_Catalog_consuming_8 : decode c_Catalog_consuming 8 = .ok (.getfield 33, 3) := by decide +kernel
theorem d_Catalog_consuming_11 : decode c_Catalog_consuming 11 = .ok (.if_icmp .ge 46, 3) := by decide +kernel
theorem d_Catalog_consuming_14 : decode c_Catalog_consuming 14 = .ok (.iload_n 1, 1) := by decide +kernel
theorem d_Catalog_consuming_15 : decode c_Catalog_consuming 15 = .ok (.iload 4, 2) := by decide +kernel
theorem d_Catalog_consuming_17 : decode c_Catalog_consuming 17 = .ok (.invokestatic 55, 3) := by decide +kernel
theorem d_Catalog_consuming_20 : decode c_Catalog_consuming 20 = .ok (.ifCond .eq 31, 3) := by decide +kernel
theorem d_Catalog_consuming_23 : decode c_Catalog_consuming 23 = .ok (.iload_n 2, 1) := by decide +kernel
theorem d_Catalog_consuming_24 : decode c_Catalog_consuming 24 = .ok (.ifCond .eq 20, 3) := by decide +kernel
theorem d_Catalog_consuming_27 : decode c_Catalog_consuming 27 = .ok (.aload_n 0, 1) := by decide +kernel
theorem d_Catalog_consuming_28 : decode c_Catalog_consuming 28 = .ok (.getfield 19, 3) := by decide +kernel
theorem d_Catalog_consuming_31 : decode c_Catalog_consuming 31 = .ok (.iload 4, 2) := by decide +kernel
theorem d_Catalog_consuming_33 : decode c_Catalog_consuming 33 = .ok (.aaload, 1) := by decide +kernel
theorem d_Catalog_consuming_34 : decode c_Catalog_consuming 34 = .ok (.getfield 62, 3) := by decide +kernel
theorem d_Catalog_consuming_37 : decode c_Catalog_consuming 37 = .ok (.iload_n 2, 1) := by decide +kernel
theorem d_Catalog_consuming_38 : decode c_Catalog_consuming 38 = .ok (.invokestatic 65, 3) := by decide +kernel
theorem d_Catalog_consuming_41 : decode c_Catalog_consuming 41 = .ok (.ifCond .eq 10, 3) := by decide +kernel
theorem d_Catalog_consuming_44 : decode c_Catalog_consuming 44 = .ok (.iload_n 3, 1) := by decide +kernel
theorem d_Catalog_consuming_45 : decode c_Catalog_consuming 45 = .ok (.iconst 1, 1) := by decide +kernel
theorem d_Catalog_consuming_46 : decode c_Catalog_consuming 46 = .ok (.iload 4, 2) := by decide +kernel
theorem d_Catalog_consuming_48 : decode c_Catalog_consuming 48 = .ok (.ishl, 1) := by decide +kernel
theorem d_Catalog_consuming_49 : decode c_Catalog_consuming 49 = .ok (.ior, 1) := by decide +kernel
theorem d_Catalog_consuming_50 : decode c_Catalog_consuming 50 = .ok (.istore_n 3, 1) := by decide +kernel
theorem d_Catalog_consuming_51 : decode c_Catalog_consuming 51 = .ok (.iinc 4 1, 3) := by decide +kernel
theorem d_Catalog_consuming_54 : decode c_Catalog_consuming 54 = .ok (.goto (-49), 3) := by decide +kernel
theorem d_Catalog_consuming_57 : decode c_Catalog_consuming 57 = .ok (.iload_n 3, 1) := by decide +kernel
theorem d_Catalog_consuming_58 : decode c_Catalog_consuming 58 = .ok (.ireturn, 1) := by decide +kernel
set_option maxHeartbeats 4000000 in
set_option maxRecDepth 100000 in
theorem sn_Catalog_consuming_51 {l : Launch} {Γ : gk_G} {p : Program} {e : Env} {s : State} {m : MethodId} {args : Array Value} {below : List Frame} {meth : Method} {c : Code} (B : gk_B p s m args meth c gk_Y Γ c_Catalog_consuming 5 "StageDispatcher$Catalog") (hr : meth.sig.returnType = (some .int)) {ρ : Int32 × gk_M} {k5 : Option Nat → Int32 → Int32 → Int32 → Int32 → gk_M → Option (Int32 × gk_M)} (H5 : ∀ (a0 : Option Nat) (x1 : Int32) (x2 : Int32) (x3 : Int32) (x4 : Int32) (M : gk_M), k5 a0 x1 x2 x3 x4 M = some ρ → Gk p l e rm_Catalog_consuming s m args below meth c gk_Y Γ 5 (MQ below (gk_Q gk_Y Γ (some (.int ρ.1)) ρ.2) args s rm_Catalog_consuming.cells rm_Catalog_consuming.slots (fun q => Γ.2.2 ≤ q)) 0 0 M 5 [some (va_rf a0), some (.int x1), some (.int x2), some (.int x3), some (.int x4)] []) {a0 : Option Nat} {x1 : Int32} {x2 : Int32} {x3 : Int32} {x4 : Int32} {M : gk_M} (h : fn_Catalog_consuming_51 k5 a0 x1 x2 x3 x4 M = some ρ) : Gk p l e rm_Catalog_consuming s m args below meth c gk_Y Γ 5 (MQ below (gk_Q gk_Y Γ (some (.int ρ.1)) ρ.2) args s rm_Catalog_consuming.cells rm_Catalog_consuming.slots (fun q => Γ.2.2 ≤ q)) 0 0 M 51 [some (va_rf a0), some (.int x1), some (.int x2), some (.int x3), some (.int x4)] [] := by
  unfold fn_Catalog_consuming_51 at h
  refine Gk_iinc (x := x4) (v := (x4 + 1)) (L' := [some (va_rf a0), some (.int x1), some (.int x2), some (.int x3), some (.int (x4 + 1))]) B d_Catalog_consuming_51 rfl (congrArg (fun z => x4 + z) (by decide : Int32.ofInt 1 = 1)) (by decide) (gk_c1_i rfl) rfl ?_
  refine Gk_goto (tgt := 5) B d_Catalog_consuming_54 rfl ?_
  exact H5 a0 x1 x2 x3 (x4 + 1) M h
set_option maxHeartbeats 4000000 in
set_option maxRecDepth 100000 in
theorem sn_Catalog_consuming_44 {l : Launch} {Γ : gk_G} {p : Program} {e : Env} {s : State} {m : MethodId} {args : Array Value} {below : List Frame} {meth : Method} {c : Code} (B : gk_B p s m args meth c gk_Y Γ c_Catalog_consuming 5 "StageDispatcher$Catalog") (hr : meth.sig.returnType = (some .int)) {ρ : Int32 × gk_M} {k5 : Option Nat → Int32 → Int32 → Int32 → Int32 → gk_M → Option (Int32 × gk_M)} (H5 : ∀ (a0 : Option Nat) (x1 : Int32) (x2 : Int32) (x3 : Int32) (x4 : Int32) (M : gk_M), k5 a0 x1 x2 x3 x4 M = some ρ → Gk p l e rm_Catalog_consuming s m args below meth c gk_Y Γ 5 (MQ below (gk_Q gk_Y Γ (some (.int ρ.1)) ρ.2) args s rm_Catalog_consuming.cells rm_Catalog_consuming.slots (fun q => Γ.2.2 ≤ q)) 0 0 M 5 [some (va_rf a0), some (.int x1), some (.int x2), some (.int x3), some (.int x4)] []) {a0 : Option Nat} {x1 : Int32} {x2 : Int32} {x3 : Int32} {x4 : Int32} {M : gk_M} (h : fn_Catalog_consuming_44 k5 a0 x1 x2 x3 x4 M = some ρ) : Gk p l e rm_Catalog_consuming s m args below meth c gk_Y Γ 5 (MQ below (gk_Q gk_Y Γ (some (.int ρ.1)) ρ.2) args s rm_Catalog_consuming.cells rm_Catalog_consuming.slots (fun q => Γ.2.2 ≤ q)) 0 0 M 44 [some (va_rf a0), some (.int x1), some (.int x2), some (.int x3), some (.int x4)] [] := by
  unfold fn_Catalog_consuming_44 at h
  refine Gk_iload_n (i := 3) (x := x3) B d_Catalog_consuming_44 rfl rfl ?_
  refine Gk_iconst (v := 1) B d_Catalog_consuming_45 (by decide) ?_
  refine Gk_iload (x := x4) B d_Catalog_consuming_46 rfl ?_
  refine Gk_ishl B d_Catalog_consuming_48 ?_
  refine Gk_ior B d_Catalog_consuming_49 ?_
  refine Gk_istore_n (i := 3) (L' := [some (va_rf a0), some (.int x1), some (.int x2), some (.int (x3 ||| ((1 : Int32) <<< (x4 &&& 31)))), some (.int x4)]) B d_Catalog_consuming_50 rfl (by decide) (gk_c1_i rfl) rfl ?_
  exact sn_Catalog_consuming_51 B hr H5 h
set_option maxHeartbeats 4000000 in
set_option maxRecDepth 100000 in
theorem sn_Catalog_consuming_5_bd {l : Launch} {Γ : gk_G} {p : Program} {e : Env} {s : State} {m : MethodId} {args : Array Value} {below : List Frame} {meth : Method} {c : Code} (B : gk_B p s m args meth c gk_Y Γ c_Catalog_consuming 5 "StageDispatcher$Catalog") (hr : meth.sig.returnType = (some .int)) {ρ : Int32 × gk_M} {k5 : Option Nat → Int32 → Int32 → Int32 → Int32 → gk_M → Option (Int32 × gk_M)} (H5 : ∀ (a0 : Option Nat) (x1 : Int32) (x2 : Int32) (x3 : Int32) (x4 : Int32) (M : gk_M), k5 a0 x1 x2 x3 x4 M = some ρ → Gk p l e rm_Catalog_consuming s m args below meth c gk_Y Γ 5 (MQ below (gk_Q gk_Y Γ (some (.int ρ.1)) ρ.2) args s rm_Catalog_consuming.cells rm_Catalog_consuming.slots (fun q => Γ.2.2 ≤ q)) 0 0 M 5 [some (va_rf a0), some (.int x1), some (.int x2), some (.int x3), some (.int x4)] []) {a0 : Option Nat} {x1 : Int32} {x2 : Int32} {x3 : Int32} {x4 : Int32} {M : gk_M} (h : fn_Catalog_consuming_5_bd k5 a0 x1 x2 x3 x4 M = some ρ) : Gk p l e rm_Catalog_consuming s m args below meth c gk_Y Γ 5 (MQ below (gk_Q gk_Y Γ (some (.int ρ.1)) ρ.2) args s rm_Catalog_consuming.cells rm_Catalog_consuming.slots (fun q => Γ.2.2 ≤ q)) 0 0 M 5 [some (va_rf a0), some (.int x1), some (.int x2), some (.int x3), some (.int x4)] [] := by
  unfold fn_Catalog_consuming_5_bd at h
  refine Gk_iload (x := x4) B d_Catalog_consuming_5 rfl ?_
  refine Gk_aload_n (i := 0) (r := a0) B d_Catalog_consuming_7 rfl rfl ?_
  obtain ⟨v8, h8, h⟩ := gk_bind h
  refine Gk_getI (j := 4) B d_Catalog_consuming_8 in_Catalog cl_Catalog (by decide) tw_107 rfl h8 ?_
  refine Gk_icmp_ge (tgt := 57) B d_Catalog_consuming_11 rfl (fun c11 => ?_) (fun c11 => ?_)
  · rw [if_pos c11] at h
    refine Gk_iload_n (i := 3) (x := x3) B d_Catalog_consuming_57 rfl rfl ?_
    cases h
    exact Gk_iret B hr d_Catalog_consuming_58 rfl (by decide) (by decide) rfl
  rw [if_neg c11] at h
  refine Gk_iload_n (i := 1) (x := x1) B d_Catalog_consuming_14 rfl rfl ?_
  refine Gk_iload (x := x4) B d_Catalog_consuming_15 rfl ?_
  obtain ⟨w17, h17, h⟩ := gk_bind h
  refine Gk_callSN (As := [.int x1, .int x4]) (rest := []) (st1 := [.int w17.1]) (k1 := 0) (n1 := 0) B gk_hG d_Catalog_consuming_17 (sn_SD_holds h17) tw_593 nw_626 tw_592 tw_40 nm_SD_holds rfl (by decide) ⟨by decide, by decide⟩ ⟨by decide, by decide⟩ rfl rfl rfl rfl ?_
  refine Gk_if_eq (tgt := 51) B d_Catalog_consuming_20 rfl (fun c20 => ?_) (fun c20 => ?_)
  · rw [if_pos c20] at h
    exact sn_Catalog_consuming_51 B hr H5 h
  rw [if_neg c20] at h
  refine Gk_iload_n (i := 2) (x := x2) B d_Catalog_consuming_23 rfl rfl ?_
  refine Gk_if_eq (tgt := 44) B d_Catalog_consuming_24 rfl (fun c24 => ?_) (fun c24 => ?_)
  · rw [if_pos c24] at h
    exact sn_Catalog_consuming_44 B hr H5 h
  rw [if_neg c24] at h
  refine Gk_aload_n (i := 0) (r := a0) B d_Catalog_consuming_27 rfl rfl ?_
  obtain ⟨v28, h28, h⟩ := gk_bind h
  refine Gk_getR (j := 1) B d_Catalog_consuming_28 in_Catalog cl_Catalog (by decide) tw_99 rfl h28 ?_
  refine Gk_iload (x := x4) B d_Catalog_consuming_31 rfl ?_
  obtain ⟨v33, h33, h⟩ := gk_bind h
  refine Gk_aaload B d_Catalog_consuming_33 ty_4 h33 ?_
  obtain ⟨v34, h34, h⟩ := gk_bind h
  refine Gk_getI (j := 3) B d_Catalog_consuming_34 in_Method cl_Method (by decide) tw_396 rfl h34 ?_
  refine Gk_iload_n (i := 2) (x := x2) B d_Catalog_consuming_37 rfl rfl ?_
  obtain ⟨w38, h38, h⟩ := gk_bind h
  refine Gk_callSN (As := [.int v34, .int x2]) (rest := []) (st1 := [.int w38.1]) (k1 := 0) (n1 := 0) B gk_hG d_Catalog_consuming_38 (sn_SD_covers h38) tw_662 nw_660 tw_661 tw_40 nm_SD_covers rfl (by decide) ⟨by decide, by decide⟩ ⟨by decide, by decide⟩ rfl rfl rfl rfl ?_
  refine Gk_if_eq (tgt := 51) B d_Catalog_consuming_41 rfl (fun c41 => ?_) (fun c41 => ?_)
  · rw [if_pos c41] at h
    exact sn_Catalog_consuming_51 B hr H5 h
  rw [if_neg c41] at h
  exact sn_Catalog_consuming_44 B hr H5 h
set_option maxHeartbeats 4000000 in
set_option maxRecDepth 100000 in
theorem sn_Catalog_consuming_5 {l : Launch} {Γ : gk_G} {p : Program} {e : Env} {s : State} {m : MethodId} {args : Array Value} {below : List Frame} {meth : Method} {c : Code} (B : gk_B p s m args meth c gk_Y Γ c_Catalog_consuming 5 "StageDispatcher$Catalog") (hr : meth.sig.returnType = (some .int)) {ρ : Int32 × gk_M}   {a0 : Option Nat} {x1 : Int32} {x2 : Int32} {x3 : Int32} {x4 : Int32} {M : gk_M} (h : fn_Catalog_consuming_5  a0 x1 x2 x3 x4 M = some ρ) : Gk p l e rm_Catalog_consuming s m args below meth c gk_Y Γ 5 (MQ below (gk_Q gk_Y Γ (some (.int ρ.1)) ρ.2) args s rm_Catalog_consuming.cells rm_Catalog_consuming.slots (fun q => Γ.2.2 ≤ q)) 0 0 M 5 [some (va_rf a0), some (.int x1), some (.int x2), some (.int x3), some (.int x4)] [] := by
  unfold fn_Catalog_consuming_5 at h
  exact gk_loop_sound (α := Option Nat × Int32 × Int32 × Int32 × Int32 × gk_M) (P := fun a => Gk p l e rm_Catalog_consuming s m args below meth c gk_Y Γ 5 (MQ below (gk_Q gk_Y Γ (some (.int ρ.1)) ρ.2) args s rm_Catalog_consuming.cells rm_Catalog_consuming.slots (fun q => Γ.2.2 ≤ q)) 0 0 a.2.2.2.2.2 5 [some (va_rf a.1), some (.int a.2.1), some (.int a.2.2.1), some (.int a.2.2.2.1), some (.int a.2.2.2.2.1)] []) (fun kk a Hk hb => sn_Catalog_consuming_5_bd B hr (fun a0 x1 x2 x3 x4 M hh => Hk (a0, x1, x2, x3, x4, M) hh) hb) _ _ h
set_option maxHeartbeats 4000000 in
set_option maxRecDepth 100000 in
theorem sn_Catalog_consuming_0 {l : Launch} {Γ : gk_G} {p : Program} {e : Env} {s : State} {m : MethodId} {args : Array Value} {below : List Frame} {meth : Method} {c : Code} (B : gk_B p s m args meth c gk_Y Γ c_Catalog_consuming 5 "StageDispatcher$Catalog") (hr : meth.sig.returnType = (some .int)) {ρ : Int32 × gk_M}   {a0 : Option Nat} {x1 : Int32} {x2 : Int32} {M : gk_M} (h : fn_Catalog_consuming  a0 x1 x2 M = some ρ) : Gk p l e rm_Catalog_consuming s m args below meth c gk_Y Γ 5 (MQ below (gk_Q gk_Y Γ (some (.int ρ.1)) ρ.2) args s rm_Catalog_consuming.cells rm_Catalog_consuming.slots (fun q => Γ.2.2 ≤ q)) 0 0 M 0 [some (va_rf a0), some (.int x1), some (.int x2), none, none] [] := by
  unfold fn_Catalog_consuming at h
  refine Gk_iconst (v := 0) B d_Catalog_consuming_0 (by decide) ?_
  refine Gk_istore_n (i := 3) (L' := [some (va_rf a0), some (.int x1), some (.int x2), some (.int 0), none]) B d_Catalog_consuming_1 rfl (by decide) (gk_c1_i rfl) rfl ?_
  refine Gk_iconst (v := 0) B d_Catalog_consuming_2 (by decide) ?_
  refine Gk_istore (L' := [some (va_rf a0), some (.int x1), some (.int x2), some (.int 0), some (.int 0)]) B d_Catalog_consuming_3 (by decide) (gk_c1_i rfl) rfl ?_
  exact sn_Catalog_consuming_5 B hr h
theorem sn_Catalog_consuming {l : Launch} {Γ : gk_G} {a0 : Option Nat} {x1 : Int32} {x2 : Int32} {M : gk_M} {ρ : Int32 × gk_M} (h : fn_Catalog_consuming a0 x1 x2 M = some ρ) : gk_Met l gk_Y Γ y_Catalog_consuming (.code y_Catalog_consuming c_Catalog_consuming 5 (some .int) :: gk_Y.2.2.2) rm_Catalog_consuming [va_rf a0, .int x1, .int x2] M (some (.int ρ.1)) ρ.2 :=
  gk_start (by decide) (by simp [lg_sl, gk_rc, gk_ic, gk_jc]) [some (va_rf a0), some (.int x1), some (.int x2), none, none] (by simp [gk_as, lv_args, gk_rc, gk_ic, gk_jc]) (fun p e s m args below meth c B hr hin => sn_Catalog_consuming_0 B hr h)
theorem d_SD_meeting_0 : decode c_SD_meeting 0 = .ok (.iload_n 0, 1) := by decide +kernel
theorem d_SD_meeting_1 : decode c_SD_meeting 1 = .ok (.iload_n 1, 1) := by decide +kernel
theorem d_SD_meeting_2 : decode c_SD_meeting 2 = .ok (.invokestatic 317, 3) := by decide +kernel
theorem d_SD_meeting_5 : decode c_SD_meeting 5 = .ok (.ifCond .eq 5, 3) := by decide +kernel
theorem d_SD_meeting_8 : decode c_SD_meeting 8 = .ok (.iload_n 1, 1) := by decide +kernel
theorem d_SD_meeting_9 : decode c_SD_meeting 9 = .ok (.ireturn, 1) := by decide +kernel
theorem d_SD_meeting_10 : decode c_SD_meeting 10 = .ok (.iload_n 1, 1) := by decide +kernel
theorem d_SD_meeting_11 : decode c_SD_meeting 11 = .ok (.iload_n 0, 1) := by decide +kernel
theorem d_SD_meeting_12 : decode c_SD_meeting 12 = .ok (.invokestatic 317, 3) := by decide +kernel
theorem d_SD_meeting_15 : decode c_SD_meeting 15 = .ok (.ifCond .eq 7, 3) := by decide +kernel
theorem d_SD_meeting_18 : decode c_SD_meeting 18 = .ok (.iload_n 0, 1) := by decide +kernel
theorem d_SD_meeting_19 : decode c_SD_meeting 19 = .ok (.goto 4, 3) := by decide +kernel
theorem d_SD_meeting_22 : decode c_SD_meeting 22 = .ok (.iconst (-1), 1) := by decide +kernel
theorem d_SD_meeting_23 : decode c_SD_meeting 23 = .ok (.ireturn, 1) := by decide +kernel
set_option maxHeartbeats 4000000 in
set_option maxRecDepth 100000 in
theorem sn_SD_meeting_0 {l : Launch} {Γ : gk_G} {p : Program} {e : Env} {s : State} {m : MethodId} {args : Array Value} {below : List Frame} {meth : Method} {c : Code} (B : gk_B p s m args meth c gk_Y Γ c_SD_meeting 2 "StageDispatcher") (hr : meth.sig.returnType = (some .int)) {ρ : Int32 × gk_M}   {x0 : Int32} {x1 : Int32} {M : gk_M} (h : fn_SD_meeting  x0 x1 M = some ρ) : Gk p l e rm_SD_meeting s m args below meth c gk_Y Γ 2 (MQ below (gk_Q gk_Y Γ (some (.int ρ.1)) ρ.2) args s rm_SD_meeting.cells rm_SD_meeting.slots (fun q => Γ.2.2 ≤ q)) 0 0 M 0 [some (.int x0), some (.int x1)] [] := by
  unfold fn_SD_meeting at h
  refine Gk_iload_n (i := 0) (x := x0) B d_SD_meeting_0 rfl rfl ?_
  refine Gk_iload_n (i := 1) (x := x1) B d_SD_meeting_1 rfl rfl ?_
  obtain ⟨w2, h2, h⟩ := gk_bind h
  refine Gk_callS (As := [.int x0, .int x1]) (rest := []) (st1 := [.int w2.1]) (k1 := 0) (n1 := 0) B gk_hG d_SD_meeting_2 (sn_SD_covers h2) tw_662 tw_679 tw_661 tw_40 nm_SD_covers rfl (by decide) ⟨by decide, by decide⟩ ⟨by decide, by decide⟩ rfl rfl rfl rfl ?_
  refine Gk_if_eq (tgt := 10) B d_SD_meeting_5 rfl (fun c5 => ?_) (fun c5 => ?_)
  · rw [if_pos c5] at h
    refine Gk_iload_n (i := 1) (x := x1) B d_SD_meeting_10 rfl rfl ?_
    refine Gk_iload_n (i := 0) (x := x0) B d_SD_meeting_11 rfl rfl ?_
    obtain ⟨w12, h12, h⟩ := gk_bind h
    refine Gk_callS (As := [.int x1, .int x0]) (rest := []) (st1 := [.int w12.1]) (k1 := 0) (n1 := 0) B gk_hG d_SD_meeting_12 (sn_SD_covers h12) tw_662 tw_679 tw_661 tw_40 nm_SD_covers rfl (by decide) ⟨by decide, by decide⟩ ⟨by decide, by decide⟩ rfl rfl rfl rfl ?_
    refine Gk_if_eq (tgt := 22) B d_SD_meeting_15 rfl (fun c15 => ?_) (fun c15 => ?_)
    · rw [if_pos c15] at h
      refine Gk_iconst (v := (-1)) B d_SD_meeting_22 (by decide) ?_
      cases h
      exact Gk_iret B hr d_SD_meeting_23 rfl (by decide) (by decide) rfl
    rw [if_neg c15] at h
    refine Gk_iload_n (i := 0) (x := x0) B d_SD_meeting_18 rfl rfl ?_
    refine Gk_goto (tgt := 23) B d_SD_meeting_19 rfl ?_
    cases h
    exact Gk_iret B hr d_SD_meeting_23 rfl (by decide) (by decide) rfl
  rw [if_neg c5] at h
  refine Gk_iload_n (i := 1) (x := x1) B d_SD_meeting_8 rfl rfl ?_
  cases h
  exact Gk_iret B hr d_SD_meeting_9 rfl (by decide) (by decide) rfl
theorem sn_SD_meeting {l : Launch} {Γ : gk_G} {x0 : Int32} {x1 : Int32} {M : gk_M} {ρ : Int32 × gk_M} (h : fn_SD_meeting x0 x1 M = some ρ) : gk_Met l gk_Y Γ y_SD_meeting (.code y_SD_meeting c_SD_meeting 2 (some .int) :: gk_Y.2.2.2) rm_SD_meeting [.int x0, .int x1] M (some (.int ρ.1)) ρ.2 :=
  gk_start (by decide) (by simp [lg_sl, gk_rc, gk_ic, gk_jc]) [some (.int x0), some (.int x1)] (by simp [gk_as, lv_args, gk_rc, gk_ic, gk_jc]) (fun p e s m args below meth c B hr hin => sn_SD_meeting_0 B hr h)
theorem d_SD_rankOf_0 : decode c_SD_rankOf 0 = .ok (.iload_n 0, 1) := by decide +kernel
theorem d_SD_rankOf_1 : decode c_SD_rankOf 1 = .ok (.ifCond .ne 5, 3) := by decide +kernel
theorem d_SD_rankOf_4 : decode c_SD_rankOf 4 = .ok (.iconst 0, 1) := by decide +kernel
theorem d_SD_rankOf_5 : decode c_SD_rankOf 5 = .ok (.ireturn, 1) := by decide +kernel
theorem d_SD_rankOf_6 : decode c_SD_rankOf 6 = .ok (.iload_n 0, 1) := by decide +kernel
theorem d_SD_rankOf_7 : decode c_SD_rankOf 7 = .ok (.bipush 15, 2) := by decide +kernel
theorem d_SD_rankOf_9 : decode c_SD_rankOf 9 = .ok (.iand, 1) := by decide +kernel
theorem d_SD_rankOf_10 : decode c_SD_rankOf 10 = .ok (.ifCond .ne 7, 3) := by decide +kernel
theorem d_SD_rankOf_13 : decode c_SD_rankOf 13 = .ok (.iconst 1, 1) := by decide +kernel
theorem d_SD_rankOf_14 : decode c_SD_rankOf 14 = .ok (.goto 4, 3) := by decide +kernel
theorem d_SD_rankOf_17 : decode c_SD_rankOf 17 = .ok (.iconst 2, 1) := by decide +kernel
theorem d_SD_rankOf_18 : decode c_SD_rankOf 18 = .ok (.ireturn, 1) := by decide +kernel
set_option maxHeartbeats 4000000 in
set_option maxRecDepth 100000 in
theorem sn_SD_rankOf_0 {l : Launch} {Γ : gk_G} {p : Program} {e : Env} {s : State} {m : MethodId} {args : Array Value} {below : List Frame} {meth : Method} {c : Code} (B : gk_B p s m args meth c gk_Y Γ c_SD_rankOf 1 "StageDispatcher") (hr : meth.sig.returnType = (some .int)) {ρ : Int32 × gk_M}   {x0 : Int32} {M : gk_M} (h : fn_SD_rankOf  x0 M = some ρ) : Gk p l e rm_SD_rankOf s m args below meth c gk_Y Γ 1 (MQ below (gk_Q gk_Y Γ (some (.int ρ.1)) ρ.2) args s rm_SD_rankOf.cells rm_SD_rankOf.slots (fun q => Γ.2.2 ≤ q)) 0 0 M 0 [some (.int x0)] [] := by
  unfold fn_SD_rankOf at h
  refine Gk_iload_n (i := 0) (x := x0) B d_SD_rankOf_0 rfl rfl ?_
  refine Gk_if_ne (tgt := 6) B d_SD_rankOf_1 rfl (fun c1 => ?_) (fun c1 => ?_)
  · rw [if_neg c1] at h
    refine Gk_iload_n (i := 0) (x := x0) B d_SD_rankOf_6 rfl rfl ?_
    refine Gk_bipush (v := 15) B d_SD_rankOf_7 (by decide) ?_
    refine Gk_iand B d_SD_rankOf_9 ?_
    refine Gk_if_ne (tgt := 17) B d_SD_rankOf_10 rfl (fun c10 => ?_) (fun c10 => ?_)
    · rw [if_neg c10] at h
      refine Gk_iconst (v := 2) B d_SD_rankOf_17 (by decide) ?_
      cases h
      exact Gk_iret B hr d_SD_rankOf_18 rfl (by decide) (by decide) rfl
    rw [if_pos c10] at h
    refine Gk_iconst (v := 1) B d_SD_rankOf_13 (by decide) ?_
    refine Gk_goto (tgt := 18) B d_SD_rankOf_14 rfl ?_
    cases h
    exact Gk_iret B hr d_SD_rankOf_18 rfl (by decide) (by decide) rfl
  rw [if_pos c1] at h
  refine Gk_iconst (v := 0) B d_SD_rankOf_4 (by decide) ?_
  cases h
  exact Gk_iret B hr d_SD_rankOf_5 rfl (by decide) (by decide) rfl
theorem sn_SD_rankOf {l : Launch} {Γ : gk_G} {x0 : Int32} {M : gk_M} {ρ : Int32 × gk_M} (h : fn_SD_rankOf x0 M = some ρ) : gk_Met l gk_Y Γ y_SD_rankOf (.code y_SD_rankOf c_SD_rankOf 1 (some .int) :: gk_Y.2.2.2) rm_SD_rankOf [.int x0] M (some (.int ρ.1)) ρ.2 :=
  gk_start (by decide) (by simp [lg_sl, gk_rc, gk_ic, gk_jc]) [some (.int x0)] (by simp [gk_as, lv_args, gk_rc, gk_ic, gk_jc]) (fun p e s m args below meth c B hr hin => sn_SD_rankOf_0 B hr h)
theorem d_Accepted_worth_0 : decode c_Accepted_worth 0 = .ok (.aload_n 0, 1) := by decide +kernel
theorem d_Accepted_worth_1 : decode c_Accepted_worth 1 = .ok (.getfield 9, 3) := by decide +kernel
theorem d_Accepted_worth_4 : decode c_Accepted_worth 4 = .ok (.iload_n 1, 1) := by decide +kernel
theorem d_Accepted_worth_5 : decode c_Accepted_worth 5 = .ok (.iaload, 1) := by decide +kernel
theorem d_Accepted_worth_6 : decode c_Accepted_worth 6 = .ok (.aload_n 2, 1) := by decide +kernel
theorem d_Accepted_worth_7 : decode c_Accepted_worth 7 = .ok (.getfield 30, 3) := by decide +kernel
theorem d_Accepted_worth_10 : decode c_Accepted_worth 10 = .ok (.invokestatic 35, 3) := by decide +kernel
theorem d_Accepted_worth_13 : decode c_Accepted_worth 13 = .ok (.istore_n 3, 1) := by decide +kernel
theorem d_Accepted_worth_14 : decode c_Accepted_worth 14 = .ok (.iload_n 3, 1) := by decide +kernel
theorem d_Accepted_worth_15 : decode c_Accepted_worth 15 = .ok (.iconst (-1), 1) := by decide +kernel
theorem d_Accepted_worth_16 : decode c_Accepted_worth 16 = .ok (.if_icmp .eq 12, 3) := by decide +kernel
theorem d_Accepted_worth_19 : decode c_Accepted_worth 19 = .ok (.aload_n 0, 1) := by decide +kernel
theorem d_Accepted_worth_20 : decode c_Accepted_worth 20 = .ok (.getfield 15, 3) := by decide +kernel
theorem d_Accepted_worth_23 : decode c_Accepted_worth 23 = .ok (.iload_n 1, 1) := by decide +kernel
theorem d_Accepted_worth_24 : decode c_Accepted_worth 24 = .ok (.iaload, 1) := by decide +kernel
theorem d_Accepted_worth_25 : decode c_Accepted_worth 25 = .ok (.ifCond .ne 5, 3) := by decide +kernel
theorem d_Accepted_worth_28 : decode c_Accepted_worth 28 = .ok (.iconst (-1), 1) := by decide +kernel
theorem d_Accepted_worth_29 : decode c_Accepted_worth 29 = .ok (.ireturn, 1) := by decide +kernel
theorem d_Accepted_worth_30 : decode c_Accepted_worth 30 = .ok (.aload_n 0, 1) := by decide +kernel
theorem d_Accepted_worth_31 : decode c_Accepted_worth 31 = .ok (.getfield 9, 3) := by decide +kernel
theorem d_Accepted_worth_34 : decode c_Accepted_worth 34 = .ok (.iload_n 1, 1) := by decide +kernel
theorem d_Accepted_worth_35 : decode c_Accepted_worth 35 = .ok (.iaload, 1) := by decide +kernel
theorem d_Accepted_worth_36 : decode c_Accepted_worth 36 = .ok (.invokestatic 39, 3) := by decide +kernel
theorem d_Accepted_worth_39 : decode c_Accepted_worth 39 = .ok (.aload_n 2, 1) := by decide +kernel
theorem d_Accepted_worth_40 : decode c_Accepted_worth 40 = .ok (.getfield 30, 3) := by decide +kernel
theorem d_Accepted_worth_43 : decode c_Accepted_worth 43 = .ok (.invokestatic 39, 3) := by decide +kernel
theorem d_Accepted_worth_46 : decode c_Accepted_worth 46 = .ok (.isub, 1) := by decide +kernel
theorem d_Accepted_worth_47 : decode c_Accepted_worth 47 = .ok (.invokestatic 43, 3) := by decide +kernel
theorem d_Accepted_worth_50 : decode c_Accepted_worth 50 = .ok (.istore 4, 2) := by decide +kernel
theorem d_Accepted_worth_52 : decode c_Accepted_worth 52 = .ok (.iload_n 3, 1) := by decide +kernel
theorem d_Accepted_worth_53 : decode c_Accepted_worth 53 = .ok (.invokestatic 39, 3) := by decide +kernel
theorem d_Accepted_worth_56 : decode c_Accepted_worth 56 = .ok (.istore 5, 2) := by decide +kernel
theorem d_Accepted_worth_58 : decode c_Accepted_worth 58 = .ok (.iload 5, 2) := by decide +kernel
theorem d_Accepted_worth_60 : decode c_Accepted_worth 60 = .ok (.sipush 1001, 3) := by decide +kernel
theorem d_Accepted_worth_63 : decode c_Accepted_worth 63 = .ok (.imul, 1) := by decide +kernel
theorem d_Accepted_worth_64 : decode c_Accepted_worth 64 = .ok (.aload_n 0, 1) := by decide +kernel
theorem d_Accepted_worth_65 : decode c_Accepted_worth 65 = .ok (.getfield 15, 3) := by decide +kernel
theorem d_Accepted_worth_68 : decode c_Accepted_worth 68 = .ok (.iload_n 1, 1) := by decide +kernel
theorem d_Accepted_worth_69 : decode c_Accepted_worth 69 = .ok (.iaload, 1) := by decide +kernel
theorem d_Accepted_worth_70 : decode c_Accepted_worth 70 = .ok (.iadd, 1) := by decide +kernel
theorem d_Accepted_worth_71 : decode c_Accepted_worth 71 = .ok (.istore 5, 2) := by decide +kernel
theorem d_Accepted_worth_73 : decode c_Accepted_worth 73 = .ok (.iload 5, 2) := by decide +kernel
theorem d_Accepted_worth_75 : decode c_Accepted_worth 75 = .ok (.sipush 1001, 3) := by decide +kernel
theorem d_Accepted_worth_78 : decode c_Accepted_worth 78 = .ok (.imul, 1) := by decide +kernel
theorem d_Accepted_worth_79 : decode c_Accepted_worth 79 = .ok (.aload_n 2, 1) := by decide +kernel
theorem d_Accepted_worth_80 : decode c_Accepted_worth 80 = .ok (.getfield 48, 3) := by decide +kernel
theorem d_Accepted_worth_83 : decode c_Accepted_worth 83 = .ok (.iadd, 1) := by decide +kernel
theorem d_Accepted_worth_84 : decode c_Accepted_worth 84 = .ok (.istore 5, 2) := by decide +kernel
theorem d_Accepted_worth_86 : decode c_Accepted_worth 86 = .ok (.iload 5, 2) := by decide +kernel
theorem d_Accepted_worth_88 : decode c_Accepted_worth 88 = .ok (.iconst 3, 1) := by decide +kernel
theorem d_Accepted_worth_89 : decode c_Accepted_worth 89 = .ok (.imul, 1) := by decide +kernel
theorem d_Accepted_worth_90 : decode c_Accepted_worth 90 = .ok (.iconst 2, 1) := by decide +kernel
theorem d_Accepted_worth_91 : decode c_Accepted_worth 91 = .ok (.iload 4, 2) := by decide +kernel
theorem d_Accepted_worth_93 : decode c_Accepted_worth 93 = .ok (.isub, 1) := by decide +kernel
theorem d_Accepted_worth_94 : decode c_Accepted_worth 94 = .ok (.iadd, 1) := by decide +kernel
theorem d_Accepted_worth_95 : decode c_Accepted_worth 95 = .ok (.ireturn, 1) := by decide +kernel
set_option maxHeartbeats 4000000 in
set_option maxRecDepth 100000 in
theorem sn_Accepted_worth_0 {l : Launch} {Γ : gk_G} {p : Program} {e : Env} {s : State} {m : MethodId} {args : Array Value} {below : List Frame} {meth : Method} {c : Code} (B : gk_B p s m args meth c gk_Y Γ c_Accepted_worth 6 "StageDispatcher$Accepted") (hr : meth.sig.returnType = (some .int)) {ρ : Int32 × gk_M}   {a0 : Option Nat} {x1 : Int32} {a2 : Option Nat} {M : gk_M} (h : fn_Accepted_worth  a0 x1 a2 M = some ρ) : Gk p l e rm_Accepted_worth s m args below meth c gk_Y Γ 6 (MQ below (gk_Q gk_Y Γ (some (.int ρ.1)) ρ.2) args s rm_Accepted_worth.cells rm_Accepted_worth.slots (fun q => Γ.2.2 ≤ q)) 0 0 M 0 [some (va_rf a0), some (.int x1), some (va_rf a2), none, none, none] [] := by
  unfold fn_Accepted_worth at h
  refine Gk_aload_n (i := 0) (r := a0) B d_Accepted_worth_0 rfl rfl ?_
  obtain ⟨v1, h1, h⟩ := gk_bind h
  refine Gk_getR (j := 0) B d_Accepted_worth_1 in_Accepted cl_Accepted (by decide) tw_158 rfl h1 ?_
  refine Gk_iload_n (i := 1) (x := x1) B d_Accepted_worth_4 rfl rfl ?_
  obtain ⟨v5, h5, h⟩ := gk_bind h
  refine Gk_iaload B d_Accepted_worth_5 ty_0 h5 ?_
  refine Gk_aload_n (i := 2) (r := a2) B d_Accepted_worth_6 rfl rfl ?_
  obtain ⟨v7, h7, h⟩ := gk_bind h
  refine Gk_getI (j := 4) B d_Accepted_worth_7 in_Method cl_Method (by decide) tw_399 rfl h7 ?_
  obtain ⟨w10, h10, h⟩ := gk_bind h
  refine Gk_callSN (As := [.int v5, .int v7]) (rest := []) (st1 := [.int w10.1]) (k1 := 0) (n1 := 0) B gk_hG d_Accepted_worth_10 (sn_SD_meeting h10) tw_678 nw_676 tw_677 tw_40 nm_SD_meeting rfl (by decide) ⟨by decide, by decide⟩ ⟨by decide, by decide⟩ rfl rfl rfl rfl ?_
  refine Gk_istore_n (i := 3) (L' := [some (va_rf a0), some (.int x1), some (va_rf a2), some (.int w10.1), none, none]) B d_Accepted_worth_13 rfl (by decide) (gk_c1_r rfl) rfl ?_
  refine Gk_iload_n (i := 3) (x := w10.1) B d_Accepted_worth_14 rfl rfl ?_
  refine Gk_iconst (v := (-1)) B d_Accepted_worth_15 (by decide) ?_
  refine Gk_icmp_eq (tgt := 28) B d_Accepted_worth_16 rfl (fun c16 => ?_) (fun c16 => ?_)
  · rw [if_pos c16] at h
    refine Gk_iconst (v := (-1)) B d_Accepted_worth_28 (by decide) ?_
    cases h
    exact Gk_iret B hr d_Accepted_worth_29 rfl (by decide) (by decide) rfl
  rw [if_neg c16] at h
  refine Gk_aload_n (i := 0) (r := a0) B d_Accepted_worth_19 rfl rfl ?_
  obtain ⟨v20, h20, h⟩ := gk_bind h
  refine Gk_getR (j := 1) B d_Accepted_worth_20 in_Accepted cl_Accepted (by decide) tw_160 rfl h20 ?_
  refine Gk_iload_n (i := 1) (x := x1) B d_Accepted_worth_23 rfl rfl ?_
  obtain ⟨v24, h24, h⟩ := gk_bind h
  refine Gk_iaload B d_Accepted_worth_24 ty_0 h24 ?_
  refine Gk_if_ne (tgt := 30) B d_Accepted_worth_25 rfl (fun c25 => ?_) (fun c25 => ?_)
  · rw [if_neg c25] at h
    refine Gk_aload_n (i := 0) (r := a0) B d_Accepted_worth_30 rfl rfl ?_
    obtain ⟨v31, h31, h⟩ := gk_bind h
    refine Gk_getR (j := 0) B d_Accepted_worth_31 in_Accepted cl_Accepted (by decide) tw_158 rfl h31 ?_
    refine Gk_iload_n (i := 1) (x := x1) B d_Accepted_worth_34 rfl rfl ?_
    obtain ⟨v35, h35, h⟩ := gk_bind h
    refine Gk_iaload B d_Accepted_worth_35 ty_0 h35 ?_
    obtain ⟨w36, h36, h⟩ := gk_bind h
    refine Gk_callSN (As := [.int v35]) (rest := []) (st1 := [.int w36.1]) (k1 := 0) (n1 := 0) B gk_hG d_Accepted_worth_36 (sn_SD_rankOf h36) tw_682 nw_680 tw_681 tw_40 nm_SD_rankOf rfl (by decide) ⟨by decide, by decide⟩ ⟨by decide, by decide⟩ rfl rfl rfl rfl ?_
    refine Gk_aload_n (i := 2) (r := a2) B d_Accepted_worth_39 rfl rfl ?_
    obtain ⟨v40, h40, h⟩ := gk_bind h
    refine Gk_getI (j := 4) B d_Accepted_worth_40 in_Method cl_Method (by decide) tw_399 rfl h40 ?_
    obtain ⟨w43, h43, h⟩ := gk_bind h
    refine Gk_callSN (As := [.int v40]) (rest := [.int w36.1]) (st1 := [.int w43.1, .int w36.1]) (k1 := 0) (n1 := 0) B gk_hG d_Accepted_worth_43 (sn_SD_rankOf h43) tw_682 nw_680 tw_681 tw_40 nm_SD_rankOf rfl (by simp [gk_rc, gk_ic, gk_jc, rm_Accepted_worth]) ⟨by decide, by decide⟩ ⟨by decide, by decide⟩ rfl rfl rfl rfl ?_
    refine Gk_isub B d_Accepted_worth_46 ?_
    refine Gk_mabs B d_Accepted_worth_47 tw_683 tw_684 tw_50 tw_685 (by decide) (by decide) (by decide) (by decide) ?_
    refine Gk_istore (L' := [some (va_rf a0), some (.int x1), some (va_rf a2), some (.int w10.1), some (.int (if 0 ≤ (w36.1 - w43.1) then (w36.1 - w43.1) else 0 - (w36.1 - w43.1))), none]) B d_Accepted_worth_50 (by decide) (gk_c1_i rfl) rfl ?_
    refine Gk_iload_n (i := 3) (x := w10.1) B d_Accepted_worth_52 rfl rfl ?_
    obtain ⟨w53, h53, h⟩ := gk_bind h
    refine Gk_callSN (As := [.int w10.1]) (rest := []) (st1 := [.int w53.1]) (k1 := 0) (n1 := 0) B gk_hG d_Accepted_worth_53 (sn_SD_rankOf h53) tw_682 nw_680 tw_681 tw_40 nm_SD_rankOf rfl (by decide) ⟨by decide, by decide⟩ ⟨by decide, by decide⟩ rfl rfl rfl rfl ?_
    refine Gk_istore (L' := [some (va_rf a0), some (.int x1), some (va_rf a2), some (.int w10.1), some (.int (if 0 ≤ (w36.1 - w43.1) then (w36.1 - w43.1) else 0 - (w36.1 - w43.1))), some (.int w53.1)]) B d_Accepted_worth_56 (by decide) (gk_c1_i rfl) rfl ?_
    refine Gk_iload (x := w53.1) B d_Accepted_worth_58 rfl ?_
    refine Gk_sipush (v := 1001) B d_Accepted_worth_60 (by decide) ?_
    refine Gk_imul B d_Accepted_worth_63 ?_
    refine Gk_aload_n (i := 0) (r := a0) B d_Accepted_worth_64 rfl rfl ?_
    obtain ⟨v65, h65, h⟩ := gk_bind h
    refine Gk_getR (j := 1) B d_Accepted_worth_65 in_Accepted cl_Accepted (by decide) tw_160 rfl h65 ?_
    refine Gk_iload_n (i := 1) (x := x1) B d_Accepted_worth_68 rfl rfl ?_
    obtain ⟨v69, h69, h⟩ := gk_bind h
    refine Gk_iaload B d_Accepted_worth_69 ty_0 h69 ?_
    refine Gk_iadd B d_Accepted_worth_70 ?_
    refine Gk_istore (L' := [some (va_rf a0), some (.int x1), some (va_rf a2), some (.int w10.1), some (.int (if 0 ≤ (w36.1 - w43.1) then (w36.1 - w43.1) else 0 - (w36.1 - w43.1))), some (.int ((w53.1 * (1001 : Int32)) + v69))]) B d_Accepted_worth_71 (by decide) (gk_c1_i rfl) rfl ?_
    refine Gk_iload (x := ((w53.1 * (1001 : Int32)) + v69)) B d_Accepted_worth_73 rfl ?_
    refine Gk_sipush (v := 1001) B d_Accepted_worth_75 (by decide) ?_
    refine Gk_imul B d_Accepted_worth_78 ?_
    refine Gk_aload_n (i := 2) (r := a2) B d_Accepted_worth_79 rfl rfl ?_
    obtain ⟨v80, h80, h⟩ := gk_bind h
    refine Gk_getI (j := 5) B d_Accepted_worth_80 in_Method cl_Method (by decide) tw_402 rfl h80 ?_
    refine Gk_iadd B d_Accepted_worth_83 ?_
    refine Gk_istore (L' := [some (va_rf a0), some (.int x1), some (va_rf a2), some (.int w10.1), some (.int (if 0 ≤ (w36.1 - w43.1) then (w36.1 - w43.1) else 0 - (w36.1 - w43.1))), some (.int ((((w53.1 * (1001 : Int32)) + v69) * (1001 : Int32)) + v80))]) B d_Accepted_worth_84 (by decide) (gk_c1_i rfl) rfl ?_
    refine Gk_iload (x := ((((w53.1 * (1001 : Int32)) + v69) * (1001 : Int32)) + v80)) B d_Accepted_worth_86 rfl ?_
    refine Gk_iconst (v := 3) B d_Accepted_worth_88 (by decide) ?_
    refine Gk_imul B d_Accepted_worth_89 ?_
    refine Gk_iconst (v := 2) B d_Accepted_worth_90 (by decide) ?_
    refine Gk_iload (x := (if 0 ≤ (w36.1 - w43.1) then (w36.1 - w43.1) else 0 - (w36.1 - w43.1))) B d_Accepted_worth_91 rfl ?_
    refine Gk_isub B d_Accepted_worth_93 ?_
    refine Gk_iadd B d_Accepted_worth_94 ?_
    cases h
    exact Gk_iret B hr d_Accepted_worth_95 rfl (by decide) (by decide) rfl
  rw [if_pos c25] at h
  refine Gk_iconst (v := (-1)) B d_Accepted_worth_28 (by decide) ?_
  cases h
  exact Gk_iret B hr d_Accepted_worth_29 rfl (by decide) (by decide) rfl
theorem sn_Accepted_worth {l : Launch} {Γ : gk_G} {a0 : Option Nat} {x1 : Int32} {a2 : Option Nat} {M : gk_M} {ρ : Int32 × gk_M} (h : fn_Accepted_worth a0 x1 a2 M = some ρ) : gk_Met l gk_Y Γ y_Accepted_worth (.code y_Accepted_worth c_Accepted_worth 6 (some .int) :: gk_Y.2.2.2) rm_Accepted_worth [va_rf a0, .int x1, va_rf a2] M (some (.int ρ.1)) ρ.2 :=
  gk_start (by decide) (by simp [lg_sl, gk_rc, gk_ic, gk_jc]) [some (va_rf a0), some (.int x1), some (va_rf a2), none, none, none] (by simp [gk_as, lv_args, gk_rc, gk_ic, gk_jc]) (fun p e s m args below meth c B hr hin => sn_Accepted_worth_0 B hr h)
