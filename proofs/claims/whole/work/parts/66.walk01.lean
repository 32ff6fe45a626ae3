theorem d_Template_pieceSize_0 : decode c_Template_pieceSize 0 = .ok (.aload_n 0, 1) := by decide +kernel
theorem d_Template_pieceSize_1 : decode c_Template_pieceSize 1 = .ok (.iload_n 1, 1) := by decide +kernel
theorem d_Template_pieceSize_2 : decode c_Template_pieceSize 2 = .ok (.bipush 125, 2) := by decide +kernel
theorem d_Template_pieceSize_4 : decode c_Template_pieceSize 4 = .ok (.invokevirtual 50, 3) := by decide +kernel
theorem d_Template_pieceSize_7 : decode c_Template_pieceSize 7 = .ok (.ifCond .eq 5, 3) := by decide +kernel
theorem d_Template_pieceSize_10 : decode c_Template_pieceSize 10 = .ok (.iconst 0, 1) := by decide +kernel
theorem d_Template_pieceSize_11 : decode c_Template_pieceSize 11 = .ok (.ireturn, 1) := by decide +kernel
theorem d_Template_pieceSize_12 : decode c_Template_pieceSize 12 = .ok (.aload_n 0, 1) := by decide +kernel
theorem d_Template_pieceSize_13 : decode c_Template_pieceSize 13 = .ok (.iload_n 1, 1) := by decide +kernel
theorem d_Template_pieceSize_14 : decode c_Template_pieceSize 14 = .ok (.bipush 123, 2) := by decide +kernel
theorem d_Template_pieceSize_16 : decode c_Template_pieceSize 16 = .ok (.invokevirtual 50, 3) := by decide +kernel
theorem d_Template_pieceSize_19 : decode c_Template_pieceSize 19 = .ok (.ifCond .ne 5, 3) := by decide +kernel
theorem d_Template_pieceSize_22 : decode c_Template_pieceSize 22 = .ok (.iconst 1, 1) := by decide +kernel
theorem d_Template_pieceSize_23 : decode c_Template_pieceSize 23 = .ok (.ireturn, 1) := by decide +kernel
theorem d_Template_pieceSize_24 : decode c_Template_pieceSize 24 = .ok (.aload_n 0, 1) := by decide +kernel
theorem d_Template_pieceSize_25 : decode c_Template_pieceSize 25 = .ok (.iload_n 1, 1) := by decide +kernel
theorem d_Template_pieceSize_26 : decode c_Template_pieceSize 26 = .ok (.iconst 1, 1) := by decide +kernel
theorem d_Template_pieceSize_27 : decode c_Template_pieceSize 27 = .ok (.iadd, 1) := by decide +kernel
theorem d_Template_pieceSize_28 : decode c_Template_pieceSize 28 = .ok (.bipush 125, 2) := by decide +kernel
theorem d_Template_pieceSize_30 : decode c_Template_pieceSize 30 = .ok (.invokevirtual 50, 3) := by decide +kernel
theorem d_Template_pieceSize_33 : decode c_Template_pieceSize 33 = .ok (.ifCond .eq 5, 3) := by decide +kernel
theorem d_Template_pieceSize_36 : decode c_Template_pieceSize 36 = .ok (.iconst 2, 1) := by decide +kernel
theorem d_Template_pieceSize_37 : decode c_Template_pieceSize 37 = .ok (.ireturn, 1) := by decide +kernel
theorem d_Template_pieceSize_38 : decode c_Template_pieceSize 38 = .ok (.aload_n 0, 1) := by decide +kernel
theorem d_Template_pieceSize_39 : decode c_Template_pieceSize 39 = .ok (.iload_n 1, 1) := by decide +kernel
theorem d_Template_pieceSize_40 : decode c_Template_pieceSize 40 = .ok (.iconst 1, 1) := by decide +kernel
theorem d_Template_pieceSize_41 : decode c_Template_pieceSize 41 = .ok (.iadd, 1) := by decide +kernel
theorem d_Template_pieceSize_42 : decode c_Template_pieceSize 42 = .ok (.bipush 100, 2) := by decide +kernel
theorem d_Template_pieceSize_44 : decode c_Template_pieceSize 44 = .ok (.invokevirtual 50, 3) := by decide +kernel
theorem d_Template_pieceSize_47 : decode c_Template_pieceSize 47 = .ok (.ifCond .ne 15, 3) := by decide +kernel
theorem d_Template_pieceSize_50 : decode c_Template_pieceSize 50 = .ok (.aload_n 0, 1) := by decide +kernel
theorem d_Template_pieceSize_51 : decode c_Template_pieceSize 51 = .ok (.iload_n 1, 1) := by decide +kernel
theorem d_Template_pieceSize_52 : decode c_Template_pieceSize 52 = .ok (.iconst 1, 1) := by decide +kernel
theorem d_Template_pieceSize_53 : decode c_Template_pieceSize 53 = .ok (.iadd, 1) := by decide +kernel
theorem d_Template_pieceSize_54 : decode c_Template_pieceSize 54 = .ok (.bipush 114, 2) := by decide +kernel
theorem d_Template_pieceSize_56 : decode c_Template_pieceSize 56 = .ok (.invokevirtual 50, 3) := by decide +kernel
theorem d_Template_pieceSize_59 : decode c_Template_pieceSize 59 = .ok (.ifCond .eq 7, 3) := by decide +kernel
theorem d_Template_pieceSize_62 : decode c_Template_pieceSize 62 = .ok (.iconst 1, 1) := by decide +kernel
theorem d_Template_pieceSize_63 : decode c_Template_pieceSize 63 = .ok (.goto 4, 3) := by decide +kernel
theorem d_Template_pieceSize_66 : decode c_Template_pieceSize 66 = .ok (.iconst 0, 1) := by decide +kernel
theorem d_Template_pieceSize_67 : decode c_Template_pieceSize 67 = .ok (.istore_n 2, 1) := by decide +kernel
theorem d_Template_pieceSize_68 : decode c_Template_pieceSize 68 = .ok (.iload_n 2, 1) := by decide +kernel
theorem d_Template_pieceSize_69 : decode c_Template_pieceSize 69 = .ok (.ifCond .eq 19, 3) := by decide +kernel
theorem d_Template_pieceSize_72 : decode c_Template_pieceSize 72 = .ok (.aload_n 0, 1) := by decide +kernel
theorem d_Template_pieceSize_73 : decode c_Template_pieceSize 73 = .ok (.iload_n 1, 1) := by decide +kernel
theorem d_Template_pieceSize_74 : decode c_Template_pieceSize 74 = .ok (.iconst 2, 1) := by decide +kernel
theorem d_Template_pieceSize_75 : decode c_Template_pieceSize 75 = .ok (.iadd, 1) := by decide +kernel
theorem d_Template_pieceSize_76 : decode c_Template_pieceSize 76 = .ok (.bipush 125, 2) := by decide +kernel
theorem d_Template_pieceSize_78 : decode c_Template_pieceSize 78 = .ok (.invokevirtual 50, 3) := by decide +kernel
theorem d_Template_pieceSize_81 : decode c_Template_pieceSize 81 = .ok (.ifCond .eq 7, 3) := by decide +kernel
theorem d_Template_pieceSize_84 : decode c_Template_pieceSize 84 = .ok (.iconst 3, 1) := by decide +kernel
theorem d_Template_pieceSize_85 : decode c_Template_pieceSize 85 = .ok (.goto 4, 3) := by decide +kernel
theorem d_Template_pieceSize_88 : decode c_Template_pieceSize 88 = .ok (.iconst 0, 1) := by decide +kernel
theorem d_Template_pieceSize_89 : decode c_Template_pieceSize 89 = .ok (.ireturn, 1) := by decide +kernel
set_option maxHeartbeats 4000000 in
set_option maxRecDepth 100000 in
theorem sn_Template_pieceSize_88 {l : Launch} {Γ : gk_G} {p : Program} {e : Env} {s : State} {m : MethodId} {args : Array Value} {below : List Frame} {meth : Method} {c : Code} (B : gk_B p s m args meth c gk_Y Γ c_Template_pieceSize 3 "StageDispatcher$Template") (hr : meth.sig.returnType = (some .int)) {ρ : Int32 × gk_M}    {M : gk_M} (h : fn_Template_pieceSize_88   M = some ρ) : Gk p l e rm_Template_pieceSize s m args below meth c gk_Y Γ 3 (MQ below (gk_Q gk_Y Γ (some (.int ρ.1)) ρ.2) args s rm_Template_pieceSize.cells rm_Template_pieceSize.slots (fun q => Γ.2.2 ≤ q)) 0 0 M 88 [none, none, none] [] := by
  unfold fn_Template_pieceSize_88 at h
  refine Gk_iconst (v := 0) B d_Template_pieceSize_88 (by decide) ?_
  cases h
  exact Gk_iret B hr d_Template_pieceSize_89 rfl (by decide) (by decide) rfl
set_option maxHeartbeats 4000000 in
set_option maxRecDepth 100000 in
theorem sn_Template_pieceSize_67 {l : Launch} {Γ : gk_G} {p : Program} {e : Env} {s : State} {m : MethodId} {args : Array Value} {below : List Frame} {meth : Method} {c : Code} (B : gk_B p s m args meth c gk_Y Γ c_Template_pieceSize 3 "StageDispatcher$Template") (hr : meth.sig.returnType = (some .int)) {ρ : Int32 × gk_M}   {a0 : Option Nat} {x1 : Int32} {s0 : Int32} {M : gk_M} (h : fn_Template_pieceSize_67  a0 x1 s0 M = some ρ) : Gk p l e rm_Template_pieceSize s m args below meth c gk_Y Γ 3 (MQ below (gk_Q gk_Y Γ (some (.int ρ.1)) ρ.2) args s rm_Template_pieceSize.cells rm_Template_pieceSize.slots (fun q => Γ.2.2 ≤ q)) 0 0 M 67 [some (va_rf a0), some (.int x1), none] [.int s0] := by
  unfold fn_Template_pieceSize_67 at h
  refine Gk_istore_n (i := 2) (L' := [some (va_rf a0), some (.int x1), some (.int s0)]) B d_Template_pieceSize_67 rfl (by decide) (gk_c1_i rfl) rfl ?_
  refine Gk_iload_n (i := 2) (x := s0) B d_Template_pieceSize_68 rfl rfl ?_
  refine Gk_if_eq (tgt := 88) B d_Template_pieceSize_69 rfl (fun c69 => ?_) (fun c69 => ?_)
  · rw [if_pos c69] at h
    refine Gk_weak [false, false, false] (L' := [none, none, none]) rfl ?_
    exact sn_Template_pieceSize_88 B hr h
  rw [if_neg c69] at h
  refine Gk_aload_n (i := 0) (r := a0) B d_Template_pieceSize_72 rfl rfl ?_
  refine Gk_iload_n (i := 1) (x := x1) B d_Template_pieceSize_73 rfl rfl ?_
  refine Gk_iconst (v := 2) B d_Template_pieceSize_74 (by decide) ?_
  refine Gk_iadd B d_Template_pieceSize_75 ?_
  refine Gk_bipush (v := 125) B d_Template_pieceSize_76 (by decide) ?_
  obtain ⟨o78, g78, h⟩ := gk_bind h
  obtain ⟨w78, h78, h⟩ := gk_bind h
  refine Gk_callV (As := [.int (x1 + (2 : Int32)), .int 125]) (rest := []) (st1 := [.int w78.1]) (k1 := 0) (n1 := 0) B gk_hG d_Template_pieceSize_78 (sn_Text_has h78) g78 cl_Text tw_321 tw_318 tw_319 tw_320 tw_41 nm_Text_has rfl (by decide) ⟨by decide, by decide⟩ ⟨by decide, by decide⟩ rfl rfl rfl rfl ?_
  refine Gk_if_eq (tgt := 88) B d_Template_pieceSize_81 rfl (fun c81 => ?_) (fun c81 => ?_)
  · rw [if_pos c81] at h
    refine Gk_weak [false, false, false] (L' := [none, none, none]) rfl ?_
    exact sn_Template_pieceSize_88 B hr h
  rw [if_neg c81] at h
  refine Gk_iconst (v := 3) B d_Template_pieceSize_84 (by decide) ?_
  refine Gk_goto (tgt := 89) B d_Template_pieceSize_85 rfl ?_
  cases h
  exact Gk_iret B hr d_Template_pieceSize_89 rfl (by decide) (by decide) rfl
set_option maxHeartbeats 4000000 in
set_option maxRecDepth 100000 in
theorem sn_Template_pieceSize_62 {l : Launch} {Γ : gk_G} {p : Program} {e : Env} {s : State} {m : MethodId} {args : Array Value} {below : List Frame} {meth : Method} {c : Code} (B : gk_B p s m args meth c gk_Y Γ c_Template_pieceSize 3 "StageDispatcher$Template") (hr : meth.sig.returnType = (some .int)) {ρ : Int32 × gk_M}   {a0 : Option Nat} {x1 : Int32} {M : gk_M} (h : fn_Template_pieceSize_62  a0 x1 M = some ρ) : Gk p l e rm_Template_pieceSize s m args below meth c gk_Y Γ 3 (MQ below (gk_Q gk_Y Γ (some (.int ρ.1)) ρ.2) args s rm_Template_pieceSize.cells rm_Template_pieceSize.slots (fun q => Γ.2.2 ≤ q)) 0 0 M 62 [some (va_rf a0), some (.int x1), none] [] := by
  unfold fn_Template_pieceSize_62 at h
  refine Gk_iconst (v := 1) B d_Template_pieceSize_62 (by decide) ?_
  refine Gk_goto (tgt := 67) B d_Template_pieceSize_63 rfl ?_
  exact sn_Template_pieceSize_67 B hr h
set_option maxHeartbeats 4000000 in
set_option maxRecDepth 100000 in
theorem sn_Template_pieceSize_0 {l : Launch} {Γ : gk_G} {p : Program} {e : Env} {s : State} {m : MethodId} {args : Array Value} {below : List Frame} {meth : Method} {c : Code} (B : gk_B p s m args meth c gk_Y Γ c_Template_pieceSize 3 "StageDispatcher$Template") (hr : meth.sig.returnType = (some .int)) {ρ : Int32 × gk_M}   {a0 : Option Nat} {x1 : Int32} {M : gk_M} (h : fn_Template_pieceSize  a0 x1 M = some ρ) : Gk p l e rm_Template_pieceSize s m args below meth c gk_Y Γ 3 (MQ below (gk_Q gk_Y Γ (some (.int ρ.1)) ρ.2) args s rm_Template_pieceSize.cells rm_Template_pieceSize.slots (fun q => Γ.2.2 ≤ q)) 0 0 M 0 [some (va_rf a0), some (.int x1), none] [] := by
  unfold fn_Template_pieceSize at h
  refine Gk_aload_n (i := 0) (r := a0) B d_Template_pieceSize_0 rfl rfl ?_
  refine Gk_iload_n (i := 1) (x := x1) B d_Template_pieceSize_1 rfl rfl ?_
  refine Gk_bipush (v := 125) B d_Template_pieceSize_2 (by decide) ?_
  obtain ⟨o4, g4, h⟩ := gk_bind h
  obtain ⟨w4, h4, h⟩ := gk_bind h
  refine Gk_callV (As := [.int x1, .int 125]) (rest := []) (st1 := [.int w4.1]) (k1 := 0) (n1 := 0) B gk_hG d_Template_pieceSize_4 (sn_Text_has h4) g4 cl_Text tw_321 tw_318 tw_319 tw_320 tw_41 nm_Text_has rfl (by decide) ⟨by decide, by decide⟩ ⟨by decide, by decide⟩ rfl rfl rfl rfl ?_
  refine Gk_if_eq (tgt := 12) B d_Template_pieceSize_7 rfl (fun c7 => ?_) (fun c7 => ?_)
  · rw [if_pos c7] at h
    refine Gk_aload_n (i := 0) (r := a0) B d_Template_pieceSize_12 rfl rfl ?_
    refine Gk_iload_n (i := 1) (x := x1) B d_Template_pieceSize_13 rfl rfl ?_
    refine Gk_bipush (v := 123) B d_Template_pieceSize_14 (by decide) ?_
    obtain ⟨o16, g16, h⟩ := gk_bind h
    obtain ⟨w16, h16, h⟩ := gk_bind h
    refine Gk_callV (As := [.int x1, .int 123]) (rest := []) (st1 := [.int w16.1]) (k1 := 0) (n1 := 0) B gk_hG d_Template_pieceSize_16 (sn_Text_has h16) g16 cl_Text tw_321 tw_318 tw_319 tw_320 tw_41 nm_Text_has rfl (by decide) ⟨by decide, by decide⟩ ⟨by decide, by decide⟩ rfl rfl rfl rfl ?_
    refine Gk_if_ne (tgt := 24) B d_Template_pieceSize_19 rfl (fun c19 => ?_) (fun c19 => ?_)
    · rw [if_neg c19] at h
      refine Gk_aload_n (i := 0) (r := a0) B d_Template_pieceSize_24 rfl rfl ?_
      refine Gk_iload_n (i := 1) (x := x1) B d_Template_pieceSize_25 rfl rfl ?_
      refine Gk_iconst (v := 1) B d_Template_pieceSize_26 (by decide) ?_
      refine Gk_iadd B d_Template_pieceSize_27 ?_
      refine Gk_bipush (v := 125) B d_Template_pieceSize_28 (by decide) ?_
      obtain ⟨o30, g30, h⟩ := gk_bind h
      obtain ⟨w30, h30, h⟩ := gk_bind h
      refine Gk_callV (As := [.int (x1 + (1 : Int32)), .int 125]) (rest := []) (st1 := [.int w30.1]) (k1 := 0) (n1 := 0) B gk_hG d_Template_pieceSize_30 (sn_Text_has h30) g30 cl_Text tw_321 tw_318 tw_319 tw_320 tw_41 nm_Text_has rfl (by decide) ⟨by decide, by decide⟩ ⟨by decide, by decide⟩ rfl rfl rfl rfl ?_
      refine Gk_if_eq (tgt := 38) B d_Template_pieceSize_33 rfl (fun c33 => ?_) (fun c33 => ?_)
      · rw [if_pos c33] at h
        refine Gk_aload_n (i := 0) (r := a0) B d_Template_pieceSize_38 rfl rfl ?_
        refine Gk_iload_n (i := 1) (x := x1) B d_Template_pieceSize_39 rfl rfl ?_
        refine Gk_iconst (v := 1) B d_Template_pieceSize_40 (by decide) ?_
        refine Gk_iadd B d_Template_pieceSize_41 ?_
        refine Gk_bipush (v := 100) B d_Template_pieceSize_42 (by decide) ?_
        obtain ⟨o44, g44, h⟩ := gk_bind h
        obtain ⟨w44, h44, h⟩ := gk_bind h
        refine Gk_callV (As := [.int (x1 + (1 : Int32)), .int 100]) (rest := []) (st1 := [.int w44.1]) (k1 := 0) (n1 := 0) B gk_hG d_Template_pieceSize_44 (sn_Text_has h44) g44 cl_Text tw_321 tw_318 tw_319 tw_320 tw_41 nm_Text_has rfl (by decide) ⟨by decide, by decide⟩ ⟨by decide, by decide⟩ rfl rfl rfl rfl ?_
        refine Gk_if_ne (tgt := 62) B d_Template_pieceSize_47 rfl (fun c47 => ?_) (fun c47 => ?_)
        · rw [if_neg c47] at h
          exact sn_Template_pieceSize_62 B hr h
        rw [if_pos c47] at h
        refine Gk_aload_n (i := 0) (r := a0) B d_Template_pieceSize_50 rfl rfl ?_
        refine Gk_iload_n (i := 1) (x := x1) B d_Template_pieceSize_51 rfl rfl ?_
        refine Gk_iconst (v := 1) B d_Template_pieceSize_52 (by decide) ?_
        refine Gk_iadd B d_Template_pieceSize_53 ?_
        refine Gk_bipush (v := 114) B d_Template_pieceSize_54 (by decide) ?_
        obtain ⟨o56, g56, h⟩ := gk_bind h
        obtain ⟨w56, h56, h⟩ := gk_bind h
        refine Gk_callV (As := [.int (x1 + (1 : Int32)), .int 114]) (rest := []) (st1 := [.int w56.1]) (k1 := 0) (n1 := 0) B gk_hG d_Template_pieceSize_56 (sn_Text_has h56) g56 cl_Text tw_321 tw_318 tw_319 tw_320 tw_41 nm_Text_has rfl (by decide) ⟨by decide, by decide⟩ ⟨by decide, by decide⟩ rfl rfl rfl rfl ?_
        refine Gk_if_eq (tgt := 66) B d_Template_pieceSize_59 rfl (fun c59 => ?_) (fun c59 => ?_)
        · rw [if_pos c59] at h
          refine Gk_iconst (v := 0) B d_Template_pieceSize_66 (by decide) ?_
          exact sn_Template_pieceSize_67 B hr h
        rw [if_neg c59] at h
        exact sn_Template_pieceSize_62 B hr h
      rw [if_neg c33] at h
      refine Gk_iconst (v := 2) B d_Template_pieceSize_36 (by decide) ?_
      cases h
      exact Gk_iret B hr d_Template_pieceSize_37 rfl (by decide) (by decide) rfl
    rw [if_pos c19] at h
    refine Gk_iconst (v := 1) B d_Template_pieceSize_22 (by decide) ?_
    cases h
    exact Gk_iret B hr d_Template_pieceSize_23 rfl (by decide) (by decide) rfl
  rw [if_neg c7] at h
  refine Gk_iconst (v := 0) B d_Template_pieceSize_10 (by decide) ?_
  cases h
  exact Gk_iret B hr d_Template_pieceSize_11 rfl (by decide) (by decide) rfl
theorem sn_Template_pieceSize {l : Launch} {Γ : gk_G} {a0 : Option Nat} {x1 : Int32} {M : gk_M} {ρ : Int32 × gk_M} (h : fn_Template_pieceSize a0 x1 M = some ρ) : gk_Met l gk_Y Γ y_Template_pieceSize (.code y_Template_pieceSize c_Template_pieceSize 3 (some .int) :: gk_Y.2.2.2) rm_Template_pieceSize [va_rf a0, .int x1] M (some (.int ρ.1)) ρ.2 :=
  gk_start (by decide) (by simp [lg_sl, gk_rc, gk_ic, gk_jc]) [some (va_rf a0), some (.int x1), none] (by simp [gk_as, lv_args, gk_rc, gk_ic, gk_jc]) (fun p e s m args below meth c B hr hin => sn_Template_pieceSize_0 B hr h)
theorem d_Template_isGood_0 : decode c_Template_isGood 0 = .ok (.iconst 0, 1) := by decide +kernel
theorem d_Template_isGood_1 : decode c_Template_isGood 1 = .ok (.istore_n 1, 1) := by decide +kernel
theorem d_Template_isGood_2 : decode c_Template_isGood 2 = .ok (.iconst 0, 1) := by decide +kernel
theorem d_Template_isGood_3 : decode c_Template_isGood 3 = .ok (.istore_n 2, 1) := by decide +kernel
theorem d_Template_isGood_4 : decode c_Template_isGood 4 = .ok (.iconst 0, 1) := by decide +kernel
theorem d_Template_isGood_5 : decode c_Template_isGood 5 = .ok (.istore_n 3, 1) := by decide +kernel
theorem d_Template_isGood_6 : decode c_Template_isGood 6 = .ok (.iload_n 3, 1) := by decide +kernel
theorem d_Template_isGood_7 : decode c_Template_isGood 7 = .ok (.aload_n 0, 1) := by decide +kernel
theorem d_Template_isGood_8 : decode c_Template_isGood 8 = .ok (.getfield 9, 3) := by decide +kernel
theorem d_Template_isGood_11 : decode c_Template_isGood 11 = .ok (.if_icmp .ge 42, 3) := by decide +kernel
theorem d_Template_isGood_14 : decode c_Template_isGood 14 = .ok (.aload_n 0, 1) := by decide +kernel
theorem d_Template_isGood_15 : decode c_Template_isGood 15 = .ok (.iload_n 3, 1) := by decide +kernel
theorem d_Template_isGood_16 : decode c_Template_isGood 16 = .ok (.invokestatic 15, 3) := by decide +kernel
theorem d_Template_isGood_19 : decode c_Template_isGood 19 = .ok (.istore 4, 2) := by decide +kernel
theorem d_Template_isGood_21 : decode c_Template_isGood 21 = .ok (.iload 4, 2) := by decide +kernel
theorem d_Template_isGood_23 : decode c_Template_isGood 23 = .ok (.ifCond .ne 5, 3) := by decide +kernel
theorem d_Template_isGood_26 : decode c_Template_isGood 26 = .ok (.iconst 0, 1) := by decide +kernel
theorem d_Template_isGood_27 : decode c_Template_isGood 27 = .ok (.ireturn, 1) := by decide +kernel
theorem d_Template_isGood_28 : decode c_Template_isGood 28 = .ok (.iload_n 2, 1) := by decide +kernel
theorem d_Template_isGood_29 : decode c_Template_isGood 29 = .ok (.iload 4, 2) := by decide +kernel
theorem d_Template_isGood_31 : decode c_Template_isGood 31 = .ok (.iconst 1, 1) := by decide +kernel
theorem d_Template_isGood_32 : decode c_Template_isGood 32 = .ok (.if_icmp .ne 7, 3) := by decide +kernel
theorem d_Template_isGood_35 : decode c_Template_isGood 35 = .ok (.iconst 0, 1) := by decide +kernel
theorem d_Template_isGood_36 : decode c_Template_isGood 36 = .ok (.goto 4, 3) := by decide +kernel
theorem d_Template_isGood_39 : decode c_Template_isGood 39 = .ok (.iconst 1, 1) := by decide +kernel
theorem d_Template_isGood_40 : decode c_Template_isGood 40 = .ok (.iadd, 1) := by decide +kernel
theorem d_Template_isGood_41 : decode c_Template_isGood 41 = .ok (.istore_n 2, 1) := by decide +kernel
theorem d_Template_isGood_42 : decode c_Template_isGood 42 = .ok (.iinc 1 1, 3) := by decide +kernel
theorem d_Template_isGood_45 : decode c_Template_isGood 45 = .ok (.iload_n 3, 1) := by decide +kernel
theorem d_Template_isGood_46 : decode c_Template_isGood 46 = .ok (.iload 4, 2) := by decide +kernel
theorem d_Template_isGood_48 : decode c_Template_isGood 48 = .ok (.iadd, 1) := by decide +kernel
theorem d_Template_isGood_49 : decode c_Template_isGood 49 = .ok (.istore_n 3, 1) := by decide +kernel
theorem d_Template_isGood_50 : decode c_Template_isGood 50 = .ok (.goto (-44), 3) := by decide +kernel
theorem d_Template_isGood_53 : decode c_Template_isGood 53 = .ok (.aload_n 0, 1) := by decide +kernel
theorem d_Template_isGood_54 : decode c_Template_isGood 54 = .ok (.iconst 0, 1) := by decide +kernel
theorem d_Template_isGood_55 : decode c_Template_isGood 55 = .ok (.bipush 47, 2) := by decide +kernel
theorem d_Template_isGood_57 : decode c_Template_isGood 57 = .ok (.invokevirtual 50, 3) := by decide +kernel
theorem d_Template_isGood_60 : decode c_Template_isGood 60 = .ok (.ifCond .eq 32, 3) := by decide +kernel
theorem d_Template_isGood_63 : decode c_Template_isGood 63 = .ok (.aload_n 0, 1) := by decide +kernel
theorem d_Template_isGood_64 : decode c_Template_isGood 64 = .ok (.aload_n 0, 1) := by decide +kernel
theorem d_Template_isGood_65 : decode c_Template_isGood 65 = .ok (.getfield 9, 3) := by decide +kernel
theorem d_Template_isGood_68 : decode c_Template_isGood 68 = .ok (.iconst 1, 1) := by decide +kernel
theorem d_Template_isGood_69 : decode c_Template_isGood 69 = .ok (.isub, 1) := by decide +kernel
theorem d_Template_isGood_70 : decode c_Template_isGood 70 = .ok (.bipush 47, 2) := by decide +kernel
theorem d_Template_isGood_72 : decode c_Template_isGood 72 = .ok (.invokevirtual 50, 3) := by decide +kernel
theorem d_Template_isGood_75 : decode c_Template_isGood 75 = .ok (.ifCond .ne 17, 3) := by decide +kernel
theorem d_Template_isGood_78 : decode c_Template_isGood 78 = .ok (.iload_n 1, 1) := by decide +kernel
theorem d_Template_isGood_79 : decode c_Template_isGood 79 = .ok (.iconst 2, 1) := by decide +kernel
theorem d_Template_isGood_80 : decode c_Template_isGood 80 = .ok (.if_icmp .lt 12, 3) := by decide +kernel
theorem d_Template_isGood_83 : decode c_Template_isGood 83 = .ok (.iload_n 2, 1) := by decide +kernel
theorem d_Template_isGood_84 : decode c_Template_isGood 84 = .ok (.iconst 4, 1) := by decide +kernel
theorem d_Template_isGood_85 : decode c_Template_isGood 85 = .ok (.if_icmp .gt 7, 3) := by decide +kernel
theorem d_Template_isGood_88 : decode c_Template_isGood 88 = .ok (.iconst 1, 1) := by decide +kernel
theorem d_Template_isGood_89 : decode c_Template_isGood 89 = .ok (.goto 4, 3) := by decide +kernel
theorem d_Template_isGood_92 : decode c_Template_isGood 92 = .ok (.iconst 0, 1) := by decide +kernel
theorem d_Template_isGood_93 : decode c_Template_isGood 93 = .ok (.ireturn, 1) := by decide +kernel
set_option maxHeartbeats 4000000 in
set_option maxRecDepth 100000 in
theorem sn_Template_isGood_40 {l : Launch} {Γ : gk_G} {p : Program} {e : Env} {s : State} {m : MethodId} {args : Array Value} {below : List Frame} {meth : Method} {c : Code} (B : gk_B p s m args meth c gk_Y Γ c_Template_isGood 5 "StageDispatcher$Template") (hr : meth.sig.returnType = (some .boolean)) {ρ : Int32 × gk_M} {k6 : Option Nat → Int32 → Int32 → Int32 → gk_M → Option (Int32 × gk_M)} (H6 : ∀ (a0 : Option Nat) (x1 : Int32) (x2 : Int32) (x3 : Int32) (M : gk_M), k6 a0 x1 x2 x3 M = some ρ → Gk p l e rm_Template_isGood s m args below meth c gk_Y Γ 5 (MQ below (gk_Q gk_Y Γ (some (.int ρ.1)) ρ.2) args s rm_Template_isGood.cells rm_Template_isGood.slots (fun q => Γ.2.2 ≤ q)) 0 0 M 6 [some (va_rf a0), some (.int x1), some (.int x2), some (.int x3), none] []) {a0 : Option Nat} {x1 : Int32} {x3 : Int32} {x4 : Int32} {s0 : Int32} {s1 : Int32} {M : gk_M} (h : fn_Template_isGood_40 k6 a0 x1 x3 x4 s0 s1 M = some ρ) : Gk p l e rm_Template_isGood s m args below meth c gk_Y Γ 5 (MQ below (gk_Q gk_Y Γ (some (.int ρ.1)) ρ.2) args s rm_Template_isGood.cells rm_Template_isGood.slots (fun q => Γ.2.2 ≤ q)) 0 0 M 40 [some (va_rf a0), some (.int x1), none, some (.int x3), some (.int x4)] [.int s1, .int s0] := by
  unfold fn_Template_isGood_40 at h
  refine Gk_iadd B d_Template_isGood_40 ?_
  refine Gk_istore_n (i := 2) (L' := [some (va_rf a0), some (.int x1), some (.int (s0 + s1)), some (.int x3), some (.int x4)]) B d_Template_isGood_41 rfl (by decide) (gk_c1_i rfl) rfl ?_
  refine Gk_iinc (x := x1) (v := (x1 + 1)) (L' := [some (va_rf a0), some (.int (x1 + 1)), some (.int (s0 + s1)), some (.int x3), some (.int x4)]) B d_Template_isGood_42 rfl (congrArg (fun z => x1 + z) (by decide : Int32.ofInt 1 = 1)) (by decide) (gk_c1_r rfl) rfl ?_
  refine Gk_iload_n (i := 3) (x := x3) B d_Template_isGood_45 rfl rfl ?_
  refine Gk_iload (x := x4) B d_Template_isGood_46 rfl ?_
  refine Gk_iadd B d_Template_isGood_48 ?_
  refine Gk_istore_n (i := 3) (L' := [some (va_rf a0), some (.int (x1 + 1)), some (.int (s0 + s1)), some (.int (x3 + x4)), some (.int x4)]) B d_Template_isGood_49 rfl (by decide) (gk_c1_i rfl) rfl ?_
  refine Gk_goto (tgt := 6) B d_Template_isGood_50 rfl ?_
  refine Gk_weak [true, true, true, true, false] (L' := [some (va_rf a0), some (.int (x1 + 1)), some (.int (s0 + s1)), some (.int (x3 + x4)), none]) rfl ?_
  exact H6 a0 (x1 + 1) (s0 + s1) (x3 + x4) M h
set_option maxHeartbeats 4000000 in
set_option maxRecDepth 100000 in
theorem sn_Template_isGood_92 {l : Launch} {Γ : gk_G} {p : Program} {e : Env} {s : State} {m : MethodId} {args : Array Value} {below : List Frame} {meth : Method} {c : Code} (B : gk_B p s m args meth c gk_Y Γ c_Template_isGood 5 "StageDispatcher$Template") (hr : meth.sig.returnType = (some .boolean)) {ρ : Int32 × gk_M}    {M : gk_M} (h : fn_Template_isGood_92   M = some ρ) : Gk p l e rm_Template_isGood s m args below meth c gk_Y Γ 5 (MQ below (gk_Q gk_Y Γ (some (.int ρ.1)) ρ.2) args s rm_Template_isGood.cells rm_Template_isGood.slots (fun q => Γ.2.2 ≤ q)) 0 0 M 92 [none, none, none, none, none] [] := by
  unfold fn_Template_isGood_92 at h
  refine Gk_iconst (v := 0) B d_Template_isGood_92 (by decide) ?_
  obtain ⟨z, hz, h⟩ := gk_bind h
  obtain ⟨hz1, hz2⟩ := gk_z_eq hz
  cases h
  subst hz1
  exact Gk_iret B hr d_Template_isGood_93 (gk_nz hz2) (by decide) (by decide) rfl
set_option maxHeartbeats 4000000 in
set_option maxRecDepth 100000 in
theorem sn_Template_isGood_6_bd {l : Launch} {Γ : gk_G} {p : Program} {e : Env} {s : State} {m : MethodId} {args : Array Value} {below : List Frame} {meth : Method} {c : Code} (B : gk_B p s m args meth c gk_Y Γ c_Template_isGood 5 "StageDispatcher$Template") (hr : meth.sig.returnType = (some .boolean)) {ρ : Int32 × gk_M} {k6 : Option Nat → Int32 → Int32 → Int32 → gk_M → Option (Int32 × gk_M)} (H6 : ∀ (a0 : Option Nat) (x1 : Int32) (x2 : Int32) (x3 : Int32) (M : gk_M), k6 a0 x1 x2 x3 M = some ρ → Gk p l e rm_Template_isGood s m args below meth c gk_Y Γ 5 (MQ below (gk_Q gk_Y Γ (some (.int ρ.1)) ρ.2) args s rm_Template_isGood.cells rm_Template_isGood.slots (fun q => Γ.2.2 ≤ q)) 0 0 M 6 [some (va_rf a0), some (.int x1), some (.int x2), some (.int x3), none] []) {a0 : Option Nat} {x1 : Int32} {x2 : Int32} {x3 : Int32} {M : gk_M} (h : fn_Template_isGood_6_bd k6 a0 x1 x2 x3 M = some ρ) : Gk p l e rm_Template_isGood s m args below meth c gk_Y Γ 5 (MQ below (gk_Q gk_Y Γ (some (.int ρ.1)) ρ.2) args s rm_Template_isGood.cells rm_Template_isGood.slots (fun q => Γ.2.2 ≤ q)) 0 0 M 6 [some (va_rf a0), some (.int x1), some (.int x2), some (.int x3), none] [] := by
  unfold fn_Template_isGood_6_bd at h
  refine Gk_iload_n (i := 3) (x := x3) B d_Template_isGood_6 rfl rfl ?_
  refine Gk_aload_n (i := 0) (r := a0) B d_Template_isGood_7 rfl rfl ?_
  obtain ⟨v8, h8, h⟩ := gk_bind h
  refine Gk_getI (j := 1) B d_Template_isGood_8 in_Text cl_Text (by decide) tw_75 rfl h8 ?_
  refine Gk_icmp_ge (tgt := 53) B d_Template_isGood_11 rfl (fun c11 => ?_) (fun c11 => ?_)
  · rw [if_pos c11] at h
    refine Gk_aload_n (i := 0) (r := a0) B d_Template_isGood_53 rfl rfl ?_
    refine Gk_iconst (v := 0) B d_Template_isGood_54 (by decide) ?_
    refine Gk_bipush (v := 47) B d_Template_isGood_55 (by decide) ?_
    obtain ⟨o57, g57, h⟩ := gk_bind h
    obtain ⟨w57, h57, h⟩ := gk_bind h
    refine Gk_callV (As := [.int 0, .int 47]) (rest := []) (st1 := [.int w57.1]) (k1 := 0) (n1 := 0) B gk_hG d_Template_isGood_57 (sn_Text_has h57) g57 cl_Text tw_321 tw_318 tw_319 tw_320 tw_41 nm_Text_has rfl (by decide) ⟨by decide, by decide⟩ ⟨by decide, by decide⟩ rfl rfl rfl rfl ?_
    refine Gk_if_eq (tgt := 92) B d_Template_isGood_60 rfl (fun c60 => ?_) (fun c60 => ?_)
    · rw [if_pos c60] at h
      refine Gk_weak [false, false, false, false, false] (L' := [none, none, none, none, none]) rfl ?_
      exact sn_Template_isGood_92 B hr h
    rw [if_neg c60] at h
    refine Gk_aload_n (i := 0) (r := a0) B d_Template_isGood_63 rfl rfl ?_
    refine Gk_aload_n (i := 0) (r := a0) B d_Template_isGood_64 rfl rfl ?_
    obtain ⟨v65, h65, h⟩ := gk_bind h
    refine Gk_getI (j := 1) B d_Template_isGood_65 in_Text cl_Text (by decide) tw_75 rfl h65 ?_
    refine Gk_iconst (v := 1) B d_Template_isGood_68 (by decide) ?_
    refine Gk_isub B d_Template_isGood_69 ?_
    refine Gk_bipush (v := 47) B d_Template_isGood_70 (by decide) ?_
    obtain ⟨o72, g72, h⟩ := gk_bind h
    obtain ⟨w72, h72, h⟩ := gk_bind h
    refine Gk_callV (As := [.int (v65 - (1 : Int32)), .int 47]) (rest := []) (st1 := [.int w72.1]) (k1 := 0) (n1 := 0) B gk_hG d_Template_isGood_72 (sn_Text_has h72) g72 cl_Text tw_321 tw_318 tw_319 tw_320 tw_41 nm_Text_has rfl (by decide) ⟨by decide, by decide⟩ ⟨by decide, by decide⟩ rfl rfl rfl rfl ?_
    refine Gk_if_ne (tgt := 92) B d_Template_isGood_75 rfl (fun c75 => ?_) (fun c75 => ?_)
    · rw [if_neg c75] at h
      refine Gk_weak [false, false, false, false, false] (L' := [none, none, none, none, none]) rfl ?_
      exact sn_Template_isGood_92 B hr h
    rw [if_pos c75] at h
    refine Gk_iload_n (i := 1) (x := x1) B d_Template_isGood_78 rfl rfl ?_
    refine Gk_iconst (v := 2) B d_Template_isGood_79 (by decide) ?_
    refine Gk_icmp_lt (tgt := 92) B d_Template_isGood_80 rfl (fun c80 => ?_) (fun c80 => ?_)
    · rw [if_pos c80] at h
      refine Gk_weak [false, false, false, false, false] (L' := [none, none, none, none, none]) rfl ?_
      exact sn_Template_isGood_92 B hr h
    rw [if_neg c80] at h
    refine Gk_iload_n (i := 2) (x := x2) B d_Template_isGood_83 rfl rfl ?_
    refine Gk_iconst (v := 4) B d_Template_isGood_84 (by decide) ?_
    refine Gk_icmp_gt (tgt := 92) B d_Template_isGood_85 rfl (fun c85 => ?_) (fun c85 => ?_)
    · rw [if_pos c85] at h
      refine Gk_weak [false, false, false, false, false] (L' := [none, none, none, none, none]) rfl ?_
      exact sn_Template_isGood_92 B hr h
    rw [if_neg c85] at h
    refine Gk_iconst (v := 1) B d_Template_isGood_88 (by decide) ?_
    refine Gk_goto (tgt := 93) B d_Template_isGood_89 rfl ?_
    obtain ⟨z, hz, h⟩ := gk_bind h
    obtain ⟨hz1, hz2⟩ := gk_z_eq hz
    cases h
    subst hz1
    exact Gk_iret B hr d_Template_isGood_93 (gk_nz hz2) (by decide) (by decide) rfl
  rw [if_neg c11] at h
  refine Gk_aload_n (i := 0) (r := a0) B d_Template_isGood_14 rfl rfl ?_
  refine Gk_iload_n (i := 3) (x := x3) B d_Template_isGood_15 rfl rfl ?_
  obtain ⟨w16, h16, h⟩ := gk_bind h
  refine Gk_callS (As := [va_rf a0, .int x3]) (rest := []) (st1 := [.int w16.1]) (k1 := 0) (n1 := 0) B gk_hG d_Template_isGood_16 (sn_Template_pieceSize h16) tw_317 tw_315 tw_316 tw_49 nm_Template_pieceSize rfl (by decide) ⟨by decide, by decide⟩ ⟨by decide, by decide⟩ rfl rfl rfl rfl ?_
  refine Gk_istore (L' := [some (va_rf a0), some (.int x1), some (.int x2), some (.int x3), some (.int w16.1)]) B d_Template_isGood_19 (by decide) (gk_c1_i rfl) rfl ?_
  refine Gk_iload (x := w16.1) B d_Template_isGood_21 rfl ?_
  refine Gk_if_ne (tgt := 28) B d_Template_isGood_23 rfl (fun c23 => ?_) (fun c23 => ?_)
  · rw [if_neg c23] at h
    refine Gk_iload_n (i := 2) (x := x2) B d_Template_isGood_28 rfl rfl ?_
    refine Gk_iload (x := w16.1) B d_Template_isGood_29 rfl ?_
    refine Gk_iconst (v := 1) B d_Template_isGood_31 (by decide) ?_
    refine Gk_icmp_ne (tgt := 39) B d_Template_isGood_32 rfl (fun c32 => ?_) (fun c32 => ?_)
    · rw [if_neg c32] at h
      refine Gk_iconst (v := 1) B d_Template_isGood_39 (by decide) ?_
      refine Gk_weak [true, true, false, true, true] (L' := [some (va_rf a0), some (.int x1), none, some (.int x3), some (.int w16.1)]) rfl ?_
      exact sn_Template_isGood_40 B hr H6 h
    rw [if_pos c32] at h
    refine Gk_iconst (v := 0) B d_Template_isGood_35 (by decide) ?_
    refine Gk_goto (tgt := 40) B d_Template_isGood_36 rfl ?_
    refine Gk_weak [true, true, false, true, true] (L' := [some (va_rf a0), some (.int x1), none, some (.int x3), some (.int w16.1)]) rfl ?_
    exact sn_Template_isGood_40 B hr H6 h
  rw [if_pos c23] at h
  refine Gk_iconst (v := 0) B d_Template_isGood_26 (by decide) ?_
  obtain ⟨z, hz, h⟩ := gk_bind h
  obtain ⟨hz1, hz2⟩ := gk_z_eq hz
  cases h
  subst hz1
  exact Gk_iret B hr d_Template_isGood_27 (gk_nz hz2) (by decide) (by decide) rfl
set_option maxHeartbeats 4000000 in
set_option maxRecDepth 100000 in
theorem sn_Template_isGood_6 {l : Launch} {Γ : gk_G} {p : Program} {e : Env} {s : State} {m : MethodId} {args : Array Value} {below : List Frame} {meth : Method} {c : Code} (B : gk_B p s m args meth c gk_Y Γ c_Template_isGood 5 "StageDispatcher$Template") (hr : meth.sig.returnType = (some .boolean)) {ρ : Int32 × gk_M}   {a0 : Option Nat} {x1 : Int32} {x2 : Int32} {x3 : Int32} {M : gk_M} (h : fn_Template_isGood_6  a0 x1 x2 x3 M = some ρ) : Gk p l e rm_Template_isGood s m args below meth c gk_Y Γ 5 (MQ below (gk_Q gk_Y Γ (some (.int ρ.1)) ρ.2) args s rm_Template_isGood.cells rm_Template_isGood.slots (fun q => Γ.2.2 ≤ q)) 0 0 M 6 [some (va_rf a0), some (.int x1), some (.int x2), some (.int x3), none] [] := by
  unfold fn_Template_isGood_6 at h
  exact gk_loop_sound (α := Option Nat × Int32 × Int32 × Int32 × gk_M) (P := fun a => Gk p l e rm_Template_isGood s m args below meth c gk_Y Γ 5 (MQ below (gk_Q gk_Y Γ (some (.int ρ.1)) ρ.2) args s rm_Template_isGood.cells rm_Template_isGood.slots (fun q => Γ.2.2 ≤ q)) 0 0 a.2.2.2.2 6 [some (va_rf a.1), some (.int a.2.1), some (.int a.2.2.1), some (.int a.2.2.2.1), none] []) (fun kk a Hk hb => sn_Template_isGood_6_bd B hr (fun a0 x1 x2 x3 M hh => Hk (a0, x1, x2, x3, M) hh) hb) _ _ h
set_option maxHeartbeats 4000000 in
set_option maxRecDepth 100000 in
theorem sn_Template_isGood_0 {l : Launch} {Γ : gk_G} {p : Program} {e : Env} {s : State} {m : MethodId} {args : Array Value} {below : List Frame} {meth : Method} {c : Code} (B : gk_B p s m args meth c gk_Y Γ c_Template_isGood 5 "StageDispatcher$Template") (hr : meth.sig.returnType = (some .boolean)) {ρ : Int32 × gk_M}   {a0 : Option Nat} {M : gk_M} (h : fn_Template_isGood  a0 M = some ρ) : Gk p l e rm_Template_isGood s m args below meth c gk_Y Γ 5 (MQ below (gk_Q gk_Y Γ (some (.int ρ.1)) ρ.2) args s rm_Template_isGood.cells rm_Template_isGood.slots (fun q => Γ.2.2 ≤ q)) 0 0 M 0 [some (va_rf a0), none, none, none, none] [] := by
  unfold fn_Template_isGood at h
  refine Gk_iconst (v := 0) B d_Template_isGood_0 (by decide) ?_
  refine Gk_istore_n (i := 1) (L' := [some (va_rf a0), some (.int 0), none, none, none]) B d_Template_isGood_1 rfl (by decide) (gk_c1_r rfl) rfl ?_
  refine Gk_iconst (v := 0) B d_Template_isGood_2 (by decide) ?_
  refine Gk_istore_n (i := 2) (L' := [some (va_rf a0), some (.int 0), some (.int 0), none, none]) B d_Template_isGood_3 rfl (by decide) (gk_c1_i rfl) rfl ?_
  refine Gk_iconst (v := 0) B d_Template_isGood_4 (by decide) ?_
  refine Gk_istore_n (i := 3) (L' := [some (va_rf a0), some (.int 0), some (.int 0), some (.int 0), none]) B d_Template_isGood_5 rfl (by decide) (gk_c1_i rfl) rfl ?_
  exact sn_Template_isGood_6 B hr h
theorem sn_Template_isGood {l : Launch} {Γ : gk_G} {a0 : Option Nat} {M : gk_M} {ρ : Int32 × gk_M} (h : fn_Template_isGood a0 M = some ρ) : gk_Met l gk_Y Γ y_Template_isGood (.code y_Template_isGood c_Template_isGood 5 (some .boolean) :: gk_Y.2.2.2) rm_Template_isGood [va_rf a0] M (some (.int ρ.1)) ρ.2 :=
  gk_start (by decide) (by simp [lg_sl, gk_rc, gk_ic, gk_jc]) [some (va_rf a0), none, none, none, none] (by simp [gk_as, lv_args, gk_rc, gk_ic, gk_jc]) (fun p e s m args below meth c B hr hin => sn_Template_isGood_0 B hr h)
theorem d_Template_pieceAt_0 : decode c_Template_pieceAt 0 = .ok (.aload_n 0, 1) := by decide +kernel
theorem d_Template_pieceAt_1 : decode c_Template_pieceAt 1 = .ok (.iload_n 1, 1) := by decide +kernel
theorem d_Template_pieceAt_2 : decode c_Template_pieceAt 2 = .ok (.bipush 123, 2) := by decide +kernel
theorem d_Template_pieceAt_4 : decode c_Template_pieceAt 4 = .ok (.invokevirtual 50, 3) := by decide +kernel
theorem d_Template_pieceAt_7 : decode c_Template_pieceAt 7 = .ok (.ifCond .ne 10, 3) := by decide +kernel
theorem d_Template_pieceAt_10 : decode c_Template_pieceAt 10 = .ok (.aload_n 0, 1) := by decide +kernel
theorem d_Template_pieceAt_11 : decode c_Template_pieceAt 11 = .ok (.getfield 54, 3) := by decide +kernel
theorem d_Template_pieceAt_14 : decode c_Template_pieceAt 14 = .ok (.iload_n 1, 1) := by decide +kernel
theorem d_Template_pieceAt_15 : decode c_Template_pieceAt 15 = .ok (.caload, 1) := by decide +kernel
theorem d_Template_pieceAt_16 : decode c_Template_pieceAt 16 = .ok (.ireturn, 1) := by decide +kernel
theorem d_Template_pieceAt_17 : decode c_Template_pieceAt 17 = .ok (.aload_n 0, 1) := by decide +kernel
theorem d_Template_pieceAt_18 : decode c_Template_pieceAt 18 = .ok (.iload_n 1, 1) := by decide +kernel
theorem d_Template_pieceAt_19 : decode c_Template_pieceAt 19 = .ok (.iconst 1, 1) := by decide +kernel
theorem d_Template_pieceAt_20 : decode c_Template_pieceAt 20 = .ok (.iadd, 1) := by decide +kernel
theorem d_Template_pieceAt_21 : decode c_Template_pieceAt 21 = .ok (.bipush 100, 2) := by decide +kernel
theorem d_Template_pieceAt_23 : decode c_Template_pieceAt 23 = .ok (.invokevirtual 50, 3) := by decide +kernel
theorem d_Template_pieceAt_26 : decode c_Template_pieceAt 26 = .ok (.ifCond .eq 5, 3) := by decide +kernel
theorem d_Template_pieceAt_29 : decode c_Template_pieceAt 29 = .ok (.iconst 2, 1) := by decide +kernel
theorem d_Template_pieceAt_30 : decode c_Template_pieceAt 30 = .ok (.ireturn, 1) := by decide +kernel
theorem d_Template_pieceAt_31 : decode c_Template_pieceAt 31 = .ok (.aload_n 0, 1) := by decide +kernel
theorem d_Template_pieceAt_32 : decode c_Template_pieceAt 32 = .ok (.iload_n 1, 1) := by decide +kernel
theorem d_Template_pieceAt_33 : decode c_Template_pieceAt 33 = .ok (.iconst 1, 1) := by decide +kernel
theorem d_Template_pieceAt_34 : decode c_Template_pieceAt 34 = .ok (.iadd, 1) := by decide +kernel
theorem d_Template_pieceAt_35 : decode c_Template_pieceAt 35 = .ok (.bipush 114, 2) := by decide +kernel
theorem d_Template_pieceAt_37 : decode c_Template_pieceAt 37 = .ok (.invokevirtual 50, 3) := by decide +kernel
theorem d_Template_pieceAt_40 : decode c_Template_pieceAt 40 = .ok (.ifCond .eq 7, 3) := by decide +kernel
theorem d_Template_pieceAt_43 : decode c_Template_pieceAt 43 = .ok (.iconst 3, 1) := by decide +kernel
theorem d_Template_pieceAt_44 : decode c_Template_pieceAt 44 = .ok (.goto 4, 3) := by decide +kernel
theorem d_Template_pieceAt_47 : decode c_Template_pieceAt 47 = .ok (.iconst 1, 1) := by decide +kernel
theorem d_Template_pieceAt_48 : decode c_Template_pieceAt 48 = .ok (.ireturn, 1) := by decide +kernel
set_option maxHeartbeats 4000000 in
set_option maxRecDepth 100000 in
theorem sn_Template_pieceAt_0 {l : Launch} {Γ : gk_G} {p : Program} {e : Env} {s : State} {m : MethodId} {args : Array Value} {below : List Frame} {meth : Method} {c : Code} (B : gk_B p s m args meth c gk_Y Γ c_Template_pieceAt 2 "StageDispatcher$Template") (hr : meth.sig.returnType = (some .int)) {ρ : Int32 × gk_M}   {a0 : Option Nat} {x1 : Int32} {M : gk_M} (h : fn_Template_pieceAt  a0 x1 M = some ρ) : Gk p l e rm_Template_pieceAt s m args below meth c gk_Y Γ 2 (MQ below (gk_Q gk_Y Γ (some (.int ρ.1)) ρ.2) args s rm_Template_pieceAt.cells rm_Template_pieceAt.slots (fun q => Γ.2.2 ≤ q)) 0 0 M 0 [some (va_rf a0), some (.int x1)] [] := by
  unfold fn_Template_pieceAt at h
  refine Gk_aload_n (i := 0) (r := a0) B d_Template_pieceAt_0 rfl rfl ?_
  refine Gk_iload_n (i := 1) (x := x1) B d_Template_pieceAt_1 rfl rfl ?_
  refine Gk_bipush (v := 123) B d_Template_pieceAt_2 (by decide) ?_
  obtain ⟨o4, g4, h⟩ := gk_bind h
  obtain ⟨w4, h4, h⟩ := gk_bind h
  refine Gk_callV (As := [.int x1, .int 123]) (rest := []) (st1 := [.int w4.1]) (k1 := 0) (n1 := 0) B gk_hG d_Template_pieceAt_4 (sn_Text_has h4) g4 cl_Text tw_321 tw_318 tw_319 tw_320 tw_41 nm_Text_has rfl (by decide) ⟨by decide, by decide⟩ ⟨by decide, by decide⟩ rfl rfl rfl rfl ?_
  refine Gk_if_ne (tgt := 17) B d_Template_pieceAt_7 rfl (fun c7 => ?_) (fun c7 => ?_)
  · rw [if_neg c7] at h
    refine Gk_aload_n (i := 0) (r := a0) B d_Template_pieceAt_17 rfl rfl ?_
    refine Gk_iload_n (i := 1) (x := x1) B d_Template_pieceAt_18 rfl rfl ?_
    refine Gk_iconst (v := 1) B d_Template_pieceAt_19 (by decide) ?_
    refine Gk_iadd B d_Template_pieceAt_20 ?_
    refine Gk_bipush (v := 100) B d_Template_pieceAt_21 (by decide) ?_
    obtain ⟨o23, g23, h⟩ := gk_bind h
    obtain ⟨w23, h23, h⟩ := gk_bind h
    refine Gk_callV (As := [.int (x1 + (1 : Int32)), .int 100]) (rest := []) (st1 := [.int w23.1]) (k1 := 0) (n1 := 0) B gk_hG d_Template_pieceAt_23 (sn_Text_has h23) g23 cl_Text tw_321 tw_318 tw_319 tw_320 tw_41 nm_Text_has rfl (by decide) ⟨by decide, by decide⟩ ⟨by decide, by decide⟩ rfl rfl rfl rfl ?_
    refine Gk_if_eq (tgt := 31) B d_Template_pieceAt_26 rfl (fun c26 => ?_) (fun c26 => ?_)
    · rw [if_pos c26] at h
      refine Gk_aload_n (i := 0) (r := a0) B d_Template_pieceAt_31 rfl rfl ?_
      refine Gk_iload_n (i := 1) (x := x1) B d_Template_pieceAt_32 rfl rfl ?_
      refine Gk_iconst (v := 1) B d_Template_pieceAt_33 (by decide) ?_
      refine Gk_iadd B d_Template_pieceAt_34 ?_
      refine Gk_bipush (v := 114) B d_Template_pieceAt_35 (by decide) ?_
      obtain ⟨o37, g37, h⟩ := gk_bind h
      obtain ⟨w37, h37, h⟩ := gk_bind h
      refine Gk_callV (As := [.int (x1 + (1 : Int32)), .int 114]) (rest := []) (st1 := [.int w37.1]) (k1 := 0) (n1 := 0) B gk_hG d_Template_pieceAt_37 (sn_Text_has h37) g37 cl_Text tw_321 tw_318 tw_319 tw_320 tw_41 nm_Text_has rfl (by decide) ⟨by decide, by decide⟩ ⟨by decide, by decide⟩ rfl rfl rfl rfl ?_
      refine Gk_if_eq (tgt := 47) B d_Template_pieceAt_40 rfl (fun c40 => ?_) (fun c40 => ?_)
      · rw [if_pos c40] at h
        refine Gk_iconst (v := 1) B d_Template_pieceAt_47 (by decide) ?_
        cases h
        exact Gk_iret B hr d_Template_pieceAt_48 rfl (by decide) (by decide) rfl
      rw [if_neg c40] at h
      refine Gk_iconst (v := 3) B d_Template_pieceAt_43 (by decide) ?_
      refine Gk_goto (tgt := 48) B d_Template_pieceAt_44 rfl ?_
      cases h
      exact Gk_iret B hr d_Template_pieceAt_48 rfl (by decide) (by decide) rfl
    rw [if_neg c26] at h
    refine Gk_iconst (v := 2) B d_Template_pieceAt_29 (by decide) ?_
    cases h
    exact Gk_iret B hr d_Template_pieceAt_30 rfl (by decide) (by decide) rfl
  rw [if_pos c7] at h
  refine Gk_aload_n (i := 0) (r := a0) B d_Template_pieceAt_10 rfl rfl ?_
  obtain ⟨v11, h11, h⟩ := gk_bind h
  refine Gk_getR (j := 0) B d_Template_pieceAt_11 in_Text cl_Text (by decide) tw_71 rfl h11 ?_
  refine Gk_iload_n (i := 1) (x := x1) B d_Template_pieceAt_14 rfl rfl ?_
  obtain ⟨v15, h15, h⟩ := gk_bind h
  refine Gk_caload B d_Template_pieceAt_15 ty_1 h15 ?_
  cases h
  exact Gk_iret B hr d_Template_pieceAt_16 rfl (by decide) (by decide) rfl
theorem sn_Template_pieceAt {l : Launch} {Γ : gk_G} {a0 : Option Nat} {x1 : Int32} {M : gk_M} {ρ : Int32 × gk_M} (h : fn_Template_pieceAt a0 x1 M = some ρ) : gk_Met l gk_Y Γ y_Template_pieceAt (.code y_Template_pieceAt c_Template_pieceAt 2 (some .int) :: gk_Y.2.2.2) rm_Template_pieceAt [va_rf a0, .int x1] M (some (.int ρ.1)) ρ.2 :=
  gk_start (by decide) (by simp [lg_sl, gk_rc, gk_ic, gk_jc]) [some (va_rf a0), some (.int x1)] (by simp [gk_as, lv_args, gk_rc, gk_ic, gk_jc]) (fun p e s m args below meth c B hr hin => sn_Template_pieceAt_0 B hr h)
theorem d_Template_isGroup_0 : decode c_Template_isGroup 0 = .ok (.iload_n 0, 1) := by decide +kernel
theorem d_Template_isGroup_1 : decode c_Template_isGroup 1 = .ok (.iconst 3, 1) := by decide +kernel
theorem d_Template_isGroup_2 : decode c_Template_isGroup 2 = .ok (.if_icmp .gt 7, 3) := by decide +kernel
theorem d_Template_isGroup_5 : decode c_Template_isGroup 5 = .ok (.iconst 1, 1) := by decide +kernel
theorem d_Template_isGroup_6 : decode c_Template_isGroup 6 = .ok (.goto 4, 3) := by decide +kernel
theorem d_Template_isGroup_9 : decode c_Template_isGroup 9 = .ok (.iconst 0, 1) := by decide +kernel
theorem d_Template_isGroup_10 : decode c_Template_isGroup 10 = .ok (.ireturn, 1) := by decide +kernel
set_option maxHeartbeats 4000000 in
set_option maxRecDepth 100000 in
theorem sn_Template_isGroup_0 {l : Launch} {Γ : gk_G} {p : Program} {e : Env} {s : State} {m : MethodId} {args : Array Value} {below : List Frame} {meth : Method} {c : Code} (B : gk_B p s m args meth c gk_Y Γ c_Template_isGroup 1 "StageDispatcher$Template") (hr : meth.sig.returnType = (some .boolean)) {ρ : Int32 × gk_M}   {x0 : Int32} {M : gk_M} (h : fn_Template_isGroup  x0 M = some ρ) : Gk p l e rm_Template_isGroup s m args below meth c gk_Y Γ 1 (MQ below (gk_Q gk_Y Γ (some (.int ρ.1)) ρ.2) args s rm_Template_isGroup.cells rm_Template_isGroup.slots (fun q => Γ.2.2 ≤ q)) 0 0 M 0 [some (.int x0)] [] := by
  unfold fn_Template_isGroup at h
  refine Gk_iload_n (i := 0) (x := x0) B d_Template_isGroup_0 rfl rfl ?_
  refine Gk_iconst (v := 3) B d_Template_isGroup_1 (by decide) ?_
  refine Gk_icmp_gt (tgt := 9) B d_Template_isGroup_2 rfl (fun c2 => ?_) (fun c2 => ?_)
  · rw [if_pos c2] at h
    refine Gk_iconst (v := 0) B d_Template_isGroup_9 (by decide) ?_
    obtain ⟨z, hz, h⟩ := gk_bind h
    obtain ⟨hz1, hz2⟩ := gk_z_eq hz
    cases h
    subst hz1
    exact Gk_iret B hr d_Template_isGroup_10 (gk_nz hz2) (by decide) (by decide) rfl
  rw [if_neg c2] at h
  refine Gk_iconst (v := 1) B d_Template_isGroup_5 (by decide) ?_
  refine Gk_goto (tgt := 10) B d_Template_isGroup_6 rfl ?_
  obtain ⟨z, hz, h⟩ := gk_bind h
  obtain ⟨hz1, hz2⟩ := gk_z_eq hz
  cases h
  subst hz1
  exact Gk_iret B hr d_Template_isGroup_10 (gk_nz hz2) (by decide) (by decide) rfl
theorem sn_Template_isGroup {l : Launch} {Γ : gk_G} {x0 : Int32} {M : gk_M} {ρ : Int32 × gk_M} (h : fn_Template_isGroup x0 M = some ρ) : gk_Met l gk_Y Γ y_Template_isGroup (.code y_Template_isGroup c_Template_isGroup 1 (some .boolean) :: gk_Y.2.2.2) rm_Template_isGroup [.int x0] M (some (.int ρ.1)) ρ.2 :=
  gk_start (by decide) (by simp [lg_sl, gk_rc, gk_ic, gk_jc]) [some (.int x0)] (by simp [gk_as, lv_args, gk_rc, gk_ic, gk_jc]) (fun p e s m args below meth c B hr hin => sn_Template_isGroup_0 B hr h)
theorem d_Template_init_0 : decode c_Template_init 0 = .ok (.aload_n 0, 1) := by decide +kernel
theorem d_Template_init_1 : decode c_Template_init 1 = .ok (.invokespecial 3, 3) := by decide +kernel
theorem d_Template_init_4 : decode c_Template_init 4 = .ok (.aload_n 1, 1) := by decide +kernel
theorem d_Template_init_5 : decode c_Template_init 5 = .ok (.getfield 9, 3) := by decide +kernel
theorem d_Template_init_8 : decode c_Template_init 8 = .ok (.newarray .int, 2) := by decide +kernel
theorem d_Template_init_10 : decode c_Template_init 10 = .ok (.astore_n 2, 1) := by decide +kernel
theorem d_Template_init_11 : decode c_Template_init 11 = .ok (.iconst 0, 1) := by decide +kernel
theorem d_Template_init_12 : decode c_Template_init 12 = .ok (.istore_n 3, 1) := by decide +kernel
theorem d_Template_init_13 : decode c_Template_init 13 = .ok (.iconst 0, 1) := by decide +kernel
theorem d_Template_init_14 : decode c_Template_init 14 = .ok (.istore 4, 2) := by decide +kernel
theorem d_Template_init_16 : decode c_Template_init 16 = .ok (.iconst 0, 1) := by decide +kernel
theorem d_Template_init_17 : decode c_Template_init 17 = .ok (.istore 5, 2) := by decide +kernel
theorem d_Template_init_19 : decode c_Template_init 19 = .ok (.iconst 0, 1) := by decide +kernel
theorem d_Template_init_20 : decode c_Template_init 20 = .ok (.istore 6, 2) := by decide +kernel
theorem d_Template_init_22 : decode c_Template_init 22 = .ok (.iload 6, 2) := by decide +kernel
theorem d_Template_init_24 : decode c_Template_init 24 = .ok (.aload_n 1, 1) := by decide +kernel
theorem d_Template_init_25 : decode c_Template_init 25 = .ok (.getfield 9, 3) := by decide +kernel
theorem d_Template_init_28 : decode c_Template_init 28 = .ok (.if_icmp .ge 66, 3) := by decide +kernel
theorem d_Template_init_31 : decode c_Template_init 31 = .ok (.iconst 1, 1) := by decide +kernel
theorem d_Template_init_32 : decode c_Template_init 32 = .ok (.aload_n 1, 1) := by decide +kernel
theorem d_Template_init_33 : decode c_Template_init 33 = .ok (.iload 6, 2) := by decide +kernel
theorem d_Template_init_35 : decode c_Template_init 35 = .ok (.invokestatic 15, 3) := by decide +kernel
theorem d_Template_init_38 : decode c_Template_init 38 = .ok (.invokestatic 21, 3) := by decide +kernel
theorem d_Template_init_41 : decode c_Template_init 41 = .ok (.istore 7, 2) := by decide +kernel
theorem d_Template_init_43 : decode c_Template_init 43 = .ok (.aload_n 2, 1) := by decide +kernel
theorem d_Template_init_44 : decode c_Template_init 44 = .ok (.iload_n 3, 1) := by decide +kernel
theorem d_Template_init_45 : decode c_Template_init 45 = .ok (.aload_n 1, 1) := by decide +kernel
theorem d_Template_init_46 : decode c_Template_init 46 = .ok (.iload 6, 2) := by decide +kernel
theorem d_Template_init_48 : decode c_Template_init 48 = .ok (.invokestatic 27, 3) := by decide +kernel
theorem d_Template_init_51 : decode c_Template_init 51 = .ok (.iastore, 1) := by decide +kernel
theorem d_Template_init_52 : decode c_Template_init 52 = .ok (.aload_n 2, 1) := by decide +kernel
theorem d_Template_init_53 : decode c_Template_init 53 = .ok (.iload_n 3, 1) := by decide +kernel
theorem d_Template_init_54 : decode c_Template_init 54 = .ok (.iaload, 1) := by decide +kernel
theorem d_Template_init_55 : decode c_Template_init 55 = .ok (.invokestatic 30, 3) := by decide +kernel
theorem d_Template_init_58 : decode c_Template_init 58 = .ok (.ifCond .eq 23, 3) := by decide +kernel
theorem d_Template_init_61 : decode c_Template_init 61 = .ok (.iinc 4 1, 3) := by decide +kernel
theorem d_Template_init_64 : decode c_Template_init 64 = .ok (.iload 5, 2) := by decide +kernel
theorem d_Template_init_66 : decode c_Template_init 66 = .ok (.aload_n 2, 1) := by decide +kernel
theorem d_Template_init_67 : decode c_Template_init 67 = .ok (.iload_n 3, 1) := by decide +kernel
theorem d_Template_init_68 : decode c_Template_init 68 = .ok (.iaload, 1) := by decide +kernel
theorem d_Template_init_69 : decode c_Template_init 69 = .ok (.iconst 1, 1) := by decide +kernel
theorem d_Template_init_70 : decode c_Template_init 70 = .ok (.if_icmp .ne 7, 3) := by decide +kernel
theorem d_Template_init_73 : decode c_Template_init 73 = .ok (.iconst 0, 1) := by decide +kernel
theorem d_Template_init_74 : decode c_Template_init 74 = .ok (.goto 4, 3) := by decide +kernel
theorem d_Template_init_77 : decode c_Template_init 77 = .ok (.iconst 1, 1) := by decide +kernel
theorem d_Template_init_78 : decode c_Template_init 78 = .ok (.iadd, 1) := by decide +kernel
theorem d_Template_init_79 : decode c_Template_init 79 = .ok (.istore 5, 2) := by decide +kernel
theorem d_Template_init_81 : decode c_Template_init 81 = .ok (.iinc 3 1, 3) := by decide +kernel
theorem d_Template_init_84 : decode c_Template_init 84 = .ok (.iload 6, 2) := by decide +kernel
theorem d_Template_init_86 : decode c_Template_init 86 = .ok (.iload 7, 2) := by decide +kernel
theorem d_Template_init_88 : decode c_Template_init 88 = .ok (.iadd, 1) := by decide +kernel
theorem d_Template_init_89 : decode c_Template_init 89 = .ok (.istore 6, 2) := by decide +kernel
theorem d_Template_init_91 : decode c_Template_init 91 = .ok (.goto (-69), 3) := by decide +kernel
theorem d_Template_init_94 : decode c_Template_init 94 = .ok (.aload_n 0, 1) := by decide +kernel
theorem d_Template_init_95 : decode c_Template_init 95 = .ok (.aload_n 2, 1) := by decide +kernel
theorem d_Template_init_96 : decode c_Template_init 96 = .ok (.putfield 34, 3) := by decide +kernel
theorem d_Template_init_99 : decode c_Template_init 99 = .ok (.aload_n 0, 1) := by decide +kernel
theorem d_Template_init_100 : decode c_Template_init 100 = .ok (.iload_n 3, 1) := by decide +kernel
theorem d_Template_init_101 : decode c_Template_init 101 = .ok (.putfield 38, 3) := by decide +kernel
theorem d_Template_init_104 : decode c_Template_init 104 = .ok (.aload_n 0, 1) := by decide +kernel
theorem d_Template_init_105 : decode c_Template_init 105 = .ok (.iload_n 3, 1) := by decide +kernel
theorem d_Template_init_106 : decode c_Template_init 106 = .ok (.iload 4, 2) := by decide +kernel
theorem d_Template_init_108 : decode c_Template_init 108 = .ok (.isub, 1) := by decide +kernel
theorem d_Template_init_109 : decode c_Template_init 109 = .ok (.putfield 41, 3) := by decide +kernel
theorem d_Template_init_112 : decode c_Template_init 112 = .ok (.aload_n 0, 1) := by decide +kernel
theorem d_Template_init_113 : decode c_Template_init 113 = .ok (.iload 4, 2) := by decide +kernel
theorem d_Template_init_115 : decode c_Template_init 115 = .ok (.putfield 44, 3) := by decide +kernel
theorem d_Template_init_118 : decode c_Template_init 118 = .ok (.aload_n 0, 1) := by decide +kernel
theorem d_Template_init_119 : decode c_Template_init 119 = .ok (.iload 5, 2) := by decide +kernel
theorem d_Template_init_121 : decode c_Template_init 121 = .ok (.putfield 47, 3) := by decide +kernel
theorem d_Template_init_124 : decode c_Template_init 124 = .ok (.return_, 1) := by decide +kernel
set_option maxHeartbeats 4000000 in
set_option maxRecDepth 100000 in
theorem sn_Template_init_81 {l : Launch} {Γ : gk_G} {p : Program} {e : Env} {s : State} {m : MethodId} {args : Array Value} {below : List Frame} {meth : Method} {c : Code} (B : gk_B p s m args meth c gk_Y Γ c_Template_init 8 "StageDispatcher$Template") (hr : meth.sig.returnType = none) (hin : meth.name = "<init>") {ρ : gk_M} {k22 : Option Nat → Option Nat → Option Nat → Int32 → Int32 → Int32 → Int32 → gk_M → Option (gk_M)} (H22 : ∀ (a0 : Option Nat) (a1 : Option Nat) (a2 : Option Nat) (x3 : Int32) (x4 : Int32) (x5 : Int32) (x6 : Int32) (M : gk_M), k22 a0 a1 a2 x3 x4 x5 x6 M = some ρ → Gk p l e rm_Template_init s m args below meth c gk_Y Γ 8 (MQ below (gk_Q gk_Y Γ none ρ) args s rm_Template_init.cells rm_Template_init.slots (fun q => Γ.2.2 ≤ q)) 1 24 M 22 [some (va_rf a0), some (va_rf a1), some (va_rf a2), some (.int x3), some (.int x4), some (.int x5), some (.int x6), none] []) {a0 : Option Nat} {a1 : Option Nat} {a2 : Option Nat} {x3 : Int32} {x4 : Int32} {x5 : Int32} {x6 : Int32} {x7 : Int32} {M : gk_M} (h : fn_Template_init_81 k22 a0 a1 a2 x3 x4 x5 x6 x7 M = some ρ) : Gk p l e rm_Template_init s m args below meth c gk_Y Γ 8 (MQ below (gk_Q gk_Y Γ none ρ) args s rm_Template_init.cells rm_Template_init.slots (fun q => Γ.2.2 ≤ q)) 1 24 M 81 [some (va_rf a0), some (va_rf a1), some (va_rf a2), some (.int x3), some (.int x4), some (.int x5), some (.int x6), some (.int x7)] [] := by
  unfold fn_Template_init_81 at h
  refine Gk_iinc (x := x3) (v := (x3 + 1)) (L' := [some (va_rf a0), some (va_rf a1), some (va_rf a2), some (.int (x3 + 1)), some (.int x4), some (.int x5), some (.int x6), some (.int x7)]) B d_Template_init_81 rfl (congrArg (fun z => x3 + z) (by decide : Int32.ofInt 1 = 1)) (by decide) (gk_c1_r rfl) rfl ?_
  refine Gk_iload (x := x6) B d_Template_init_84 rfl ?_
  refine Gk_iload (x := x7) B d_Template_init_86 rfl ?_
  refine Gk_iadd B d_Template_init_88 ?_
  refine Gk_istore (L' := [some (va_rf a0), some (va_rf a1), some (va_rf a2), some (.int (x3 + 1)), some (.int x4), some (.int x5), some (.int (x6 + x7)), some (.int x7)]) B d_Template_init_89 (by decide) (gk_c1_i rfl) rfl ?_
  refine Gk_goto (tgt := 22) B d_Template_init_91 rfl ?_
  refine Gk_weak [true, true, true, true, true, true, true, false] (L' := [some (va_rf a0), some (va_rf a1), some (va_rf a2), some (.int (x3 + 1)), some (.int x4), some (.int x5), some (.int (x6 + x7)), none]) rfl ?_
  exact H22 a0 a1 a2 (x3 + 1) x4 x5 (x6 + x7) M h
set_option maxHeartbeats 4000000 in
set_option maxRecDepth 100000 in
theorem sn_Template_init_78 {l : Launch} {Γ : gk_G} {p : Program} {e : Env} {s : State} {m : MethodId} {args : Array Value} {below : List Frame} {meth : Method} {c : Code} (B : gk_B p s m args meth c gk_Y Γ c_Template_init 8 "StageDispatcher$Template") (hr : meth.sig.returnType = none) (hin : meth.name = "<init>") {ρ : gk_M} {k22 : Option Nat → Option Nat → Option Nat → Int32 → Int32 → Int32 → Int32 → gk_M → Option (gk_M)} (H22 : ∀ (a0 : Option Nat) (a1 : Option Nat) (a2 : Option Nat) (x3 : Int32) (x4 : Int32) (x5 : Int32) (x6 : Int32) (M : gk_M), k22 a0 a1 a2 x3 x4 x5 x6 M = some ρ → Gk p l e rm_Template_init s m args below meth c gk_Y Γ 8 (MQ below (gk_Q gk_Y Γ none ρ) args s rm_Template_init.cells rm_Template_init.slots (fun q => Γ.2.2 ≤ q)) 1 24 M 22 [some (va_rf a0), some (va_rf a1), some (va_rf a2), some (.int x3), some (.int x4), some (.int x5), some (.int x6), none] []) {a0 : Option Nat} {a1 : Option Nat} {a2 : Option Nat} {x3 : Int32} {x4 : Int32} {x6 : Int32} {x7 : Int32} {s0 : Int32} {s1 : Int32} {M : gk_M} (h : fn_Template_init_78 k22 a0 a1 a2 x3 x4 x6 x7 s0 s1 M = some ρ) : Gk p l e rm_Template_init s m args below meth c gk_Y Γ 8 (MQ below (gk_Q gk_Y Γ none ρ) args s rm_Template_init.cells rm_Template_init.slots (fun q => Γ.2.2 ≤ q)) 1 24 M 78 [some (va_rf a0), some (va_rf a1), some (va_rf a2), some (.int x3), some (.int x4), none, some (.int x6), some (.int x7)] [.int s1, .int s0] := by
  unfold fn_Template_init_78 at h
  refine Gk_iadd B d_Template_init_78 ?_
  refine Gk_istore (L' := [some (va_rf a0), some (va_rf a1), some (va_rf a2), some (.int x3), some (.int x4), some (.int (s0 + s1)), some (.int x6), some (.int x7)]) B d_Template_init_79 (by decide) (gk_c1_i rfl) rfl ?_
  exact sn_Template_init_81 B hr hin H22 h
set_option maxHeartbeats 4000000 in
set_option maxRecDepth 100000 in
theorem sn_Template_init_22_bd {l : Launch} {Γ : gk_G} {p : Program} {e : Env} {s : State} {m : MethodId} {args : Array Value} {below : List Frame} {meth : Method} {c : Code} (B : gk_B p s m args meth c gk_Y Γ c_Template_init 8 "StageDispatcher$Template") (hr : meth.sig.returnType = none) (hin : meth.name = "<init>") {ρ : gk_M} {k22 : Option Nat → Option Nat → Option Nat → Int32 → Int32 → Int32 → Int32 → gk_M → Option (gk_M)} (H22 : ∀ (a0 : Option Nat) (a1 : Option Nat) (a2 : Option Nat) (x3 : Int32) (x4 : Int32) (x5 : Int32) (x6 : Int32) (M : gk_M), k22 a0 a1 a2 x3 x4 x5 x6 M = some ρ → Gk p l e rm_Template_init s m args below meth c gk_Y Γ 8 (MQ below (gk_Q gk_Y Γ none ρ) args s rm_Template_init.cells rm_Template_init.slots (fun q => Γ.2.2 ≤ q)) 1 24 M 22 [some (va_rf a0), some (va_rf a1), some (va_rf a2), some (.int x3), some (.int x4), some (.int x5), some (.int x6), none] []) {a0 : Option Nat} {a1 : Option Nat} {a2 : Option Nat} {x3 : Int32} {x4 : Int32} {x5 : Int32} {x6 : Int32} {M : gk_M} (h : fn_Template_init_22_bd k22 a0 a1 a2 x3 x4 x5 x6 M = some ρ) : Gk p l e rm_Template_init s m args below meth c gk_Y Γ 8 (MQ below (gk_Q gk_Y Γ none ρ) args s rm_Template_init.cells rm_Template_init.slots (fun q => Γ.2.2 ≤ q)) 1 24 M 22 [some (va_rf a0), some (va_rf a1), some (va_rf a2), some (.int x3), some (.int x4), some (.int x5), some (.int x6), none] [] := by
  unfold fn_Template_init_22_bd at h
  refine Gk_iload (x := x6) B d_Template_init_22 rfl ?_
  refine Gk_aload_n (i := 1) (r := a1) B d_Template_init_24 rfl rfl ?_
  obtain ⟨v25, h25, h⟩ := gk_bind h
  refine Gk_getI (j := 1) B d_Template_init_25 in_Text cl_Text (by decide) tw_75 rfl h25 ?_
  refine Gk_icmp_ge (tgt := 94) B d_Template_init_28 rfl (fun c28 => ?_) (fun c28 => ?_)
  · rw [if_pos c28] at h
    refine Gk_aload_n (i := 0) (r := a0) B d_Template_init_94 rfl rfl ?_
    refine Gk_aload_n (i := 2) (r := a2) B d_Template_init_95 rfl rfl ?_
    obtain ⟨M96, h96, h⟩ := gk_bind h
    refine Gk_putF (j := 0) (ty := (.array .int)) B hin d_Template_init_96 in_Template t_Template t_Template_ok n_Template cl_Template (by decide) tw_337 rfl rfl rfl rfl (gk_nfa _ _) (gk_ffa _ _) h96 ?_
    refine Gk_aload_n (i := 0) (r := a0) B d_Template_init_99 rfl rfl ?_
    refine Gk_iload_n (i := 3) (x := x3) B d_Template_init_100 rfl rfl ?_
    obtain ⟨M101, h101, h⟩ := gk_bind h
    refine Gk_putF (j := 1) (ty := .int) B hin d_Template_init_101 in_Template t_Template t_Template_ok n_Template cl_Template (by decide) tw_339 rfl rfl rfl rfl rfl rfl h101 ?_
    refine Gk_aload_n (i := 0) (r := a0) B d_Template_init_104 rfl rfl ?_
    refine Gk_iload_n (i := 3) (x := x3) B d_Template_init_105 rfl rfl ?_
    refine Gk_iload (x := x4) B d_Template_init_106 rfl ?_
    refine Gk_isub B d_Template_init_108 ?_
    obtain ⟨M109, h109, h⟩ := gk_bind h
    refine Gk_putF (j := 2) (ty := .int) B hin d_Template_init_109 in_Template t_Template t_Template_ok n_Template cl_Template (by decide) tw_341 rfl rfl rfl rfl rfl rfl h109 ?_
    refine Gk_aload_n (i := 0) (r := a0) B d_Template_init_112 rfl rfl ?_
    refine Gk_iload (x := x4) B d_Template_init_113 rfl ?_
    obtain ⟨M115, h115, h⟩ := gk_bind h
    refine Gk_putF (j := 3) (ty := .int) B hin d_Template_init_115 in_Template t_Template t_Template_ok n_Template cl_Template (by decide) tw_342 rfl rfl rfl rfl rfl rfl h115 ?_
    refine Gk_aload_n (i := 0) (r := a0) B d_Template_init_118 rfl rfl ?_
    refine Gk_iload (x := x5) B d_Template_init_119 rfl ?_
    obtain ⟨M121, h121, h⟩ := gk_bind h
    refine Gk_putF (j := 4) (ty := .int) B hin d_Template_init_121 in_Template t_Template t_Template_ok n_Template cl_Template (by decide) tw_343 rfl rfl rfl rfl rfl rfl h121 ?_
    cases h
    exact Gk_vret B hr d_Template_init_124 (by decide) (by decide) rfl
  rw [if_neg c28] at h
  refine Gk_iconst (v := 1) B d_Template_init_31 (by decide) ?_
  refine Gk_aload_n (i := 1) (r := a1) B d_Template_init_32 rfl rfl ?_
  refine Gk_iload (x := x6) B d_Template_init_33 rfl ?_
  obtain ⟨w35, h35, h⟩ := gk_bind h
  refine Gk_callS (As := [va_rf a1, .int x6]) (rest := [.int 1]) (st1 := [.int w35.1, .int 1]) (k1 := 1) (n1 := 24) B gk_hG d_Template_init_35 (sn_Template_pieceSize h35) tw_317 tw_315 tw_316 tw_49 nm_Template_pieceSize rfl (by simp [gk_rc, gk_ic, gk_jc, rm_Template_init]) ⟨by decide, by decide⟩ ⟨by decide, by decide⟩ rfl rfl rfl rfl ?_
  refine Gk_mmax B d_Template_init_38 tw_328 tw_329 tw_50 tw_330 (by decide) (by decide) (by decide) (by decide) ?_
  refine Gk_istore (L' := [some (va_rf a0), some (va_rf a1), some (va_rf a2), some (.int x3), some (.int x4), some (.int x5), some (.int x6), some (.int (if (1 : Int32) < w35.1 then w35.1 else (1 : Int32)))]) B d_Template_init_41 (by decide) (gk_c1_i rfl) rfl ?_
  refine Gk_aload_n (i := 2) (r := a2) B d_Template_init_43 rfl rfl ?_
  refine Gk_iload_n (i := 3) (x := x3) B d_Template_init_44 rfl rfl ?_
  refine Gk_aload_n (i := 1) (r := a1) B d_Template_init_45 rfl rfl ?_
  refine Gk_iload (x := x6) B d_Template_init_46 rfl ?_
  obtain ⟨w48, h48, h⟩ := gk_bind h
  refine Gk_callS (As := [va_rf a1, .int x6]) (rest := [.int x3, va_rf a2]) (st1 := [.int w48.1, .int x3, va_rf a2]) (k1 := 1) (n1 := 24) B gk_hG d_Template_init_48 (sn_Template_pieceAt h48) tw_333 tw_331 tw_332 tw_49 nm_Template_pieceAt rfl (by simp [gk_rc, gk_ic, gk_jc, rm_Template_init]) ⟨by decide, by decide⟩ ⟨by decide, by decide⟩ rfl rfl rfl rfl ?_
  obtain ⟨M51, h51, h⟩ := gk_bind h
  refine Gk_iastore B d_Template_init_51 ty_0 h51 ?_
  refine Gk_aload_n (i := 2) (r := a2) B d_Template_init_52 rfl rfl ?_
  refine Gk_iload_n (i := 3) (x := x3) B d_Template_init_53 rfl rfl ?_
  obtain ⟨v54, h54, h⟩ := gk_bind h
  refine Gk_iaload B d_Template_init_54 ty_0 h54 ?_
  obtain ⟨w55, h55, h⟩ := gk_bind h
  refine Gk_callS (As := [.int v54]) (rest := []) (st1 := [.int w55.1]) (k1 := 1) (n1 := 24) B gk_hG d_Template_init_55 (sn_Template_isGroup h55) tw_336 tw_334 tw_335 tw_49 nm_Template_isGroup rfl (by decide) ⟨by decide, by decide⟩ ⟨by decide, by decide⟩ rfl rfl rfl rfl ?_
  refine Gk_if_eq (tgt := 81) B d_Template_init_58 rfl (fun c58 => ?_) (fun c58 => ?_)
  · rw [if_pos c58] at h
    exact sn_Template_init_81 B hr hin H22 h
  rw [if_neg c58] at h
  refine Gk_iinc (x := x4) (v := (x4 + 1)) (L' := [some (va_rf a0), some (va_rf a1), some (va_rf a2), some (.int x3), some (.int (x4 + 1)), some (.int x5), some (.int x6), some (.int (if (1 : Int32) < w35.1 then w35.1 else (1 : Int32)))]) B d_Template_init_61 rfl (congrArg (fun z => x4 + z) (by decide : Int32.ofInt 1 = 1)) (by decide) (gk_c1_i rfl) rfl ?_
  refine Gk_iload (x := x5) B d_Template_init_64 rfl ?_
  refine Gk_aload_n (i := 2) (r := a2) B d_Template_init_66 rfl rfl ?_
  refine Gk_iload_n (i := 3) (x := x3) B d_Template_init_67 rfl rfl ?_
  obtain ⟨v68, h68, h⟩ := gk_bind h
  refine Gk_iaload B d_Template_init_68 ty_0 h68 ?_
  refine Gk_iconst (v := 1) B d_Template_init_69 (by decide) ?_
  refine Gk_icmp_ne (tgt := 77) B d_Template_init_70 rfl (fun c70 => ?_) (fun c70 => ?_)
  · rw [if_neg c70] at h
    refine Gk_iconst (v := 1) B d_Template_init_77 (by decide) ?_
    refine Gk_weak [true, true, true, true, true, false, true, true] (L' := [some (va_rf a0), some (va_rf a1), some (va_rf a2), some (.int x3), some (.int (x4 + 1)), none, some (.int x6), some (.int (if (1 : Int32) < w35.1 then w35.1 else (1 : Int32)))]) rfl ?_
    exact sn_Template_init_78 B hr hin H22 h
  rw [if_pos c70] at h
  refine Gk_iconst (v := 0) B d_Template_init_73 (by decide) ?_
  refine Gk_goto (tgt := 78) B d_Template_init_74 rfl ?_
  refine Gk_weak [true, true, true, true, true, false, true, true] (L' := [some (va_rf a0), some (va_rf a1), some (va_rf a2), some (.int x3), some (.int (x4 + 1)), none, some (.int x6), some (.int (if (1 : Int32) < w35.1 then w35.1 else (1 : Int32)))]) rfl ?_
  exact sn_Template_init_78 B hr hin H22 h
set_option maxHeartbeats 4000000 in
set_option maxRecDepth 100000 in
theorem sn_Template_init_22 {l : Launch} {Γ : gk_G} {p : Program} {e : Env} {s : State} {m : MethodId} {args : Array Value} {below : List Frame} {meth : Method} {c : Code} (B : gk_B p s m args meth c gk_Y Γ c_Template_init 8 "StageDispatcher$Template") (hr : meth.sig.returnType = none) (hin : meth.name = "<init>") {ρ : gk_M}   {a0 : Option Nat} {a1 : Option Nat} {a2 : Option Nat} {x3 : Int32} {x4 : Int32} {x5 : Int32} {x6 : Int32} {M : gk_M} (h : fn_Template_init_22  a0 a1 a2 x3 x4 x5 x6 M = some ρ) : Gk p l e rm_Template_init s m args below meth c gk_Y Γ 8 (MQ below (gk_Q gk_Y Γ none ρ) args s rm_Template_init.cells rm_Template_init.slots (fun q => Γ.2.2 ≤ q)) 1 24 M 22 [some (va_rf a0), some (va_rf a1), some (va_rf a2), some (.int x3), some (.int x4), some (.int x5), some (.int x6), none] [] := by
  unfold fn_Template_init_22 at h
  exact gk_loop_sound (α := Option Nat × Option Nat × Option Nat × Int32 × Int32 × Int32 × Int32 × gk_M) (P := fun a => Gk p l e rm_Template_init s m args below meth c gk_Y Γ 8 (MQ below (gk_Q gk_Y Γ none ρ) args s rm_Template_init.cells rm_Template_init.slots (fun q => Γ.2.2 ≤ q)) 1 24 a.2.2.2.2.2.2.2 22 [some (va_rf a.1), some (va_rf a.2.1), some (va_rf a.2.2.1), some (.int a.2.2.2.1), some (.int a.2.2.2.2.1), some (.int a.2.2.2.2.2.1), some (.int a.2.2.2.2.2.2.1), none] []) (fun kk a Hk hb => sn_Template_init_22_bd B hr hin (fun a0 a1 a2 x3 x4 x5 x6 M hh => Hk (a0, a1, a2, x3, x4, x5, x6, M) hh) hb) _ _ h
set_option maxHeartbeats 4000000 in
set_option maxRecDepth 100000 in
theorem sn_Template_init_0 {l : Launch} {Γ : gk_G} {p : Program} {e : Env} {s : State} {m : MethodId} {args : Array Value} {below : List Frame} {meth : Method} {c : Code} (B : gk_B p s m args meth c gk_Y Γ c_Template_init 8 "StageDispatcher$Template") (hr : meth.sig.returnType = none) (hin : meth.name = "<init>") {ρ : gk_M}   {a0 : Option Nat} {a1 : Option Nat} {M : gk_M} (h : fn_Template_init  a0 a1 M = some ρ) : Gk p l e rm_Template_init s m args below meth c gk_Y Γ 8 (MQ below (gk_Q gk_Y Γ none ρ) args s rm_Template_init.cells rm_Template_init.slots (fun q => Γ.2.2 ≤ q)) 0 0 M 0 [some (va_rf a0), some (va_rf a1), none, none, none, none, none, none] [] := by
  unfold fn_Template_init at h
  refine Gk_aload_n (i := 0) (r := a0) B d_Template_init_0 rfl rfl ?_
  obtain ⟨o1, h1, h⟩ := gk_bind h
  refine Gk_objInit B d_Template_init_1 tw_327 tw_62 tw_63 h1 (by decide) (by decide) ?_
  refine Gk_aload_n (i := 1) (r := a1) B d_Template_init_4 rfl rfl ?_
  obtain ⟨v5, h5, h⟩ := gk_bind h
  refine Gk_getI (j := 1) B d_Template_init_5 in_Text cl_Text (by decide) tw_75 rfl h5 ?_
  obtain ⟨M8, h8, h⟩ := gk_bind h
  refine Gk_newarray B d_Template_init_8 rfl ty_0 tw_151 rfl (by decide) h8 (by decide) (by decide) ?_
  refine Gk_astore_n (i := 2) (L' := [some (va_rf a0), some (va_rf a1), some (va_rf (some M.2)), none, none, none, none, none]) B d_Template_init_10 rfl (by decide) (gk_c1_r rfl) rfl ?_
  refine Gk_iconst (v := 0) B d_Template_init_11 (by decide) ?_
  refine Gk_istore_n (i := 3) (L' := [some (va_rf a0), some (va_rf a1), some (va_rf (some M.2)), some (.int 0), none, none, none, none]) B d_Template_init_12 rfl (by decide) (gk_c1_r rfl) rfl ?_
  refine Gk_iconst (v := 0) B d_Template_init_13 (by decide) ?_
  refine Gk_istore (L' := [some (va_rf a0), some (va_rf a1), some (va_rf (some M.2)), some (.int 0), some (.int 0), none, none, none]) B d_Template_init_14 (by decide) (gk_c1_i rfl) rfl ?_
  refine Gk_iconst (v := 0) B d_Template_init_16 (by decide) ?_
  refine Gk_istore (L' := [some (va_rf a0), some (va_rf a1), some (va_rf (some M.2)), some (.int 0), some (.int 0), some (.int 0), none, none]) B d_Template_init_17 (by decide) (gk_c1_i rfl) rfl ?_
  refine Gk_iconst (v := 0) B d_Template_init_19 (by decide) ?_
  refine Gk_istore (L' := [some (va_rf a0), some (va_rf a1), some (va_rf (some M.2)), some (.int 0), some (.int 0), some (.int 0), some (.int 0), none]) B d_Template_init_20 (by decide) (gk_c1_i rfl) rfl ?_
  exact sn_Template_init_22 B hr hin h
theorem sn_Template_init {l : Launch} {Γ : gk_G} {a0 : Option Nat} {a1 : Option Nat} {M : gk_M} {ρ : gk_M} (h : fn_Template_init a0 a1 M = some ρ) : gk_Met l gk_Y Γ y_Template_init (.code y_Template_init c_Template_init 8 none :: gk_Y.2.2.2) rm_Template_init [va_rf a0, va_rf a1] M none ρ :=
  gk_start (by decide) (by simp [lg_sl, gk_rc, gk_ic, gk_jc]) [some (va_rf a0), some (va_rf a1), none, none, none, none, none, none] (by simp [gk_as, lv_args, gk_rc, gk_ic, gk_jc]) (fun p e s m args below meth c B hr hin => sn_Template_init_0 B hr hin h)
theorem d_Catalog_addResource_0 : decode c_Catalog_addResource 0 = .ok (.aload_n 0, 1) := by decide +kernel
theorem d_Catalog_addResource_1 : decode c_Catalog_addResource 1 = .ok (.getfield 11, 3) := by decide +kernel
theorem d_Catalog_addResource_4 : decode c_Catalog_addResource 4 = .ok (.aload_n 0, 1) := by decide +kernel
theorem d_Catalog_addResource_5 : decode c_Catalog_addResource 5 = .ok (.getfield 29, 3) := by decide +kernel
theorem d_Catalog_addResource_8 : decode c_Catalog_addResource 8 = .ok (.aload_n 1, 1) := by decide +kernel
theorem d_Catalog_addResource_9 : decode c_Catalog_addResource 9 = .ok (.aastore, 1) := by decide +kernel
theorem d_Catalog_addResource_10 : decode c_Catalog_addResource 10 = .ok (.aload_n 0, 1) := by decide +kernel
theorem d_Catalog_addResource_11 : decode c_Catalog_addResource 11 = .ok (.dup, 1) := by decide +kernel
theorem d_Catalog_addResource_12 : decode c_Catalog_addResource 12 = .ok (.getfield 29, 3) := by decide +kernel
theorem d_Catalog_addResource_15 : decode c_Catalog_addResource 15 = .ok (.iconst 1, 1) := by decide +kernel
theorem d_Catalog_addResource_16 : decode c_Catalog_addResource 16 = .ok (.iadd, 1) := by decide +kernel
theorem d_Catalog_addResource_17 : decode c_Catalog_addResource 17 = .ok (.putfield 29, 3) := by decide +kernel
theorem d_Catalog_addResource_20 : decode c_Catalog_addResource 20 = .ok (.aload_n 0, 1) := by decide +kernel
theorem d_Catalog_addResource_21 : decode c_Catalog_addResource 21 = .ok (.getfield 29, 3) := by decide +kernel
theorem d_Catalog_addResource_24 : decode c_Catalog_addResource 24 = .ok (.iconst 1, 1) := by decide +kernel
theorem d_Catalog_addResource_25 : decode c_Catalog_addResource 25 = .ok (.isub, 1) := by decide +kernel
theorem d_Catalog_addResource_26 : decode c_Catalog_addResource 26 = .ok (.ireturn, 1) := by decide +kernel
set_option maxHeartbeats 4000000 in
set_option maxRecDepth 100000 in
theorem sn_Catalog_addResource_0 {l : Launch} {Γ : gk_G} {p : Program} {e : Env} {s : State} {m : MethodId} {args : Array Value} {below : List Frame} {meth : Method} {c : Code} (B : gk_B p s m args meth c gk_Y Γ c_Catalog_addResource 2 "StageDispatcher$Catalog") (hr : meth.sig.returnType = (some .int)) {ρ : Int32 × gk_M}   {a0 : Option Nat} {a1 : Option Nat} {M : gk_M} (h : fn_Catalog_addResource  a0 a1 M = some ρ) : Gk p l e rm_Catalog_addResource s m args below meth c gk_Y Γ 2 (MQ below (gk_Q gk_Y Γ (some (.int ρ.1)) ρ.2) args s rm_Catalog_addResource.cells rm_Catalog_addResource.slots (fun q => Γ.2.2 ≤ q)) 0 0 M 0 [some (va_rf a0), some (va_rf a1)] [] := by
  unfold fn_Catalog_addResource at h
  refine Gk_aload_n (i := 0) (r := a0) B d_Catalog_addResource_0 rfl rfl ?_
  obtain ⟨v1, h1, h⟩ := gk_bind h
  refine Gk_getR (j := 0) B d_Catalog_addResource_1 in_Catalog cl_Catalog (by decide) tw_97 rfl h1 ?_
  refine Gk_aload_n (i := 0) (r := a0) B d_Catalog_addResource_4 rfl rfl ?_
  obtain ⟨v5, h5, h⟩ := gk_bind h
  refine Gk_getI (j := 3) B d_Catalog_addResource_5 in_Catalog cl_Catalog (by decide) tw_104 rfl h5 ?_
  refine Gk_aload_n (i := 1) (r := a1) B d_Catalog_addResource_8 rfl rfl ?_
  obtain ⟨M9, h9, h⟩ := gk_bind h
  refine Gk_aastore B d_Catalog_addResource_9 ty_3 cl_Template h9 ?_
  refine Gk_aload_n (i := 0) (r := a0) B d_Catalog_addResource_10 rfl rfl ?_
  refine Gk_dup B d_Catalog_addResource_11 (gk_rc _) ?_
  obtain ⟨v12, h12, h⟩ := gk_bind h
  refine Gk_getI (j := 3) B d_Catalog_addResource_12 in_Catalog cl_Catalog (by decide) tw_104 rfl h12 ?_
  refine Gk_iconst (v := 1) B d_Catalog_addResource_15 (by decide) ?_
  refine Gk_iadd B d_Catalog_addResource_16 ?_
  obtain ⟨M17, h17, h⟩ := gk_bind h
  refine Gk_put (j := 3) (ty := .int) B d_Catalog_addResource_17 in_Catalog t_Catalog t_Catalog_ok n_Catalog cl_Catalog (by decide) tw_104 rfl rfl rfl rfl rfl h17 ?_
  refine Gk_aload_n (i := 0) (r := a0) B d_Catalog_addResource_20 rfl rfl ?_
  obtain ⟨v21, h21, h⟩ := gk_bind h
  refine Gk_getI (j := 3) B d_Catalog_addResource_21 in_Catalog cl_Catalog (by decide) tw_104 rfl h21 ?_
  refine Gk_iconst (v := 1) B d_Catalog_addResource_24 (by decide) ?_
  refine Gk_isub B d_Catalog_addResource_25 ?_
  cases h
  exact Gk_iret B hr d_Catalog_addResource_26 rfl (by decide) (by decide) rfl
theorem sn_Catalog_addResource {l : Launch} {Γ : gk_G} {a0 : Option Nat} {a1 : Option Nat} {M : gk_M} {ρ : Int32 × gk_M} (h : fn_Catalog_addResource a0 a1 M = some ρ) : gk_Met l gk_Y Γ y_Catalog_addResource (.code y_Catalog_addResource c_Catalog_addResource 2 (some .int) :: gk_Y.2.2.2) rm_Catalog_addResource [va_rf a0, va_rf a1] M (some (.int ρ.1)) ρ.2 :=
  gk_start (by decide) (by simp [lg_sl, gk_rc, gk_ic, gk_jc]) [some (va_rf a0), some (va_rf a1)] (by simp [gk_as, lv_args, gk_rc, gk_ic, gk_jc]) (fun p e s m args below meth c B hr hin => sn_Catalog_addResource_0 B hr h)
theorem d_Text_clear_0 : decode c_Text_clear 0 = .ok (.aload_n 0, 1) := by decide +kernel
theorem d_Text_clear_1 : decode c_Text_clear 1 = .ok (.iconst 0, 1) := by decide +kernel
theorem d_Text_clear_2 : decode c_Text_clear 2 = .ok (.putfield 15, 3) := by decide +kernel
theorem d_Text_clear_5 : decode c_Text_clear 5 = .ok (.return_, 1) := by decide +kernel
set_option maxHeartbeats 4000000 in
set_option maxRecDepth 100000 in
theorem sn_Text_clear_0 {l : Launch} {Γ : gk_G} {p : Program} {e : Env} {s : State} {m : MethodId} {args : Array Value} {below : List Frame} {meth : Method} {c : Code} (B : gk_B p s m args meth c gk_Y Γ c_Text_clear 1 "StageDispatcher$Text") (hr : meth.sig.returnType = none) {ρ : gk_M}   {a0 : Option Nat} {M : gk_M} (h : fn_Text_clear  a0 M = some ρ) : Gk p l e rm_Text_clear s m args below meth c gk_Y Γ 1 (MQ below (gk_Q gk_Y Γ none ρ) args s rm_Text_clear.cells rm_Text_clear.slots (fun q => Γ.2.2 ≤ q)) 0 0 M 0 [some (va_rf a0)] [] := by
  unfold fn_Text_clear at h
  refine Gk_aload_n (i := 0) (r := a0) B d_Text_clear_0 rfl rfl ?_
  refine Gk_iconst (v := 0) B d_Text_clear_1 (by decide) ?_
  obtain ⟨M2, h2, h⟩ := gk_bind h
  refine Gk_put (j := 1) (ty := .int) B d_Text_clear_2 in_Text t_Text t_Text_ok n_Text cl_Text (by decide) tw_76 rfl rfl rfl rfl rfl h2 ?_
  cases h
  exact Gk_vret B hr d_Text_clear_5 (by decide) (by decide) rfl
theorem sn_Text_clear {l : Launch} {Γ : gk_G} {a0 : Option Nat} {M : gk_M} {ρ : gk_M} (h : fn_Text_clear a0 M = some ρ) : gk_Met l gk_Y Γ y_Text_clear (.code y_Text_clear c_Text_clear 1 none :: gk_Y.2.2.2) rm_Text_clear [va_rf a0] M none ρ :=
  gk_start (by decide) (by simp [lg_sl, gk_rc, gk_ic, gk_jc]) [some (va_rf a0)] (by simp [gk_as, lv_args, gk_rc, gk_ic, gk_jc]) (fun p e s m args below meth c B hr hin => sn_Text_clear_0 B hr h)
theorem d_SD_resource_0 : decode c_SD_resource 0 = .ok (.aload_n 0, 1) := by decide +kernel
theorem d_SD_resource_1 : decode c_SD_resource 1 = .ok (.getfield 19, 3) := by decide +kernel
theorem d_SD_resource_4 : decode c_SD_resource 4 = .ok (.getfield 59, 3) := by decide +kernel
theorem d_SD_resource_7 : decode c_SD_resource 7 = .ok (.bipush 6, 2) := by decide +kernel
theorem d_SD_resource_9 : decode c_SD_resource 9 = .ok (.if_icmp .ge 21, 3) := by decide +kernel
theorem d_SD_resource_12 : decode c_SD_resource 12 = .ok (.iload_n 1, 1) := by decide +kernel
theorem d_SD_resource_13 : decode c_SD_resource 13 = .ok (.ifCond .eq 13, 3) := by decide +kernel
theorem d_SD_resource_16 : decode c_SD_resource 16 = .ok (.aload_n 0, 1) := by decide +kernel
theorem d_SD_resource_17 : decode c_SD_resource 17 = .ok (.getfield 10, 3) := by decide +kernel
theorem d_SD_resource_20 : decode c_SD_resource 20 = .ok (.invokestatic 63, 3) := by decide +kernel
theorem d_SD_resource_23 : decode c_SD_resource 23 = .ok (.ifCond .eq 7, 3) := by decide +kernel
theorem d_SD_resource_26 : decode c_SD_resource 26 = .ok (.iconst 1, 1) := by decide +kernel
theorem d_SD_resource_27 : decode c_SD_resource 27 = .ok (.goto 4, 3) := by decide +kernel
theorem d_SD_resource_30 : decode c_SD_resource 30 = .ok (.iconst 0, 1) := by decide +kernel
theorem d_SD_resource_31 : decode c_SD_resource 31 = .ok (.istore_n 2, 1) := by decide +kernel
theorem d_SD_resource_32 : decode c_SD_resource 32 = .ok (.iload_n 2, 1) := by decide +kernel
theorem d_SD_resource_33 : decode c_SD_resource 33 = .ok (.ifCond .eq 32, 3) := by decide +kernel
theorem d_SD_resource_36 : decode c_SD_resource 36 = .ok (.aload_n 0, 1) := by decide +kernel
theorem d_SD_resource_37 : decode c_SD_resource 37 = .ok (.getfield 19, 3) := by decide +kernel
theorem d_SD_resource_40 : decode c_SD_resource 40 = .ok (.iload_n 1, 1) := by decide +kernel
theorem d_SD_resource_41 : decode c_SD_resource 41 = .ok (.ifCond .eq 17, 3) := by decide +kernel
theorem d_SD_resource_44 : decode c_SD_resource 44 = .ok (.new 64, 3) := by decide +kernel
theorem d_SD_resource_47 : decode c_SD_resource 47 = .ok (.dup, 1) := by decide +kernel
theorem d_SD_resource_48 : decode c_SD_resource 48 = .ok (.aload_n 0, 1) := by decide +kernel
theorem d_SD_resource_49 : decode c_SD_resource 49 = .ok (.getfield 10, 3) := by decide +kernel
theorem d_SD_resource_52 : decode c_SD_resource 52 = .ok (.invokespecial 69, 3) := by decide +kernel
theorem d_SD_resource_55 : decode c_SD_resource 55 = .ok (.goto 4, 3) := by decide +kernel
theorem d_SD_resource_58 : decode c_SD_resource 58 = .ok (.aconst_null, 1) := by decide +kernel
theorem d_SD_resource_59 : decode c_SD_resource 59 = .ok (.invokevirtual 72, 3) := by decide +kernel
theorem d_SD_resource_62 : decode c_SD_resource 62 = .ok (.goto 4, 3) := by decide +kernel
theorem d_SD_resource_65 : decode c_SD_resource 65 = .ok (.iconst (-1), 1) := by decide +kernel
theorem d_SD_resource_66 : decode c_SD_resource 66 = .ok (.istore_n 3, 1) := by decide +kernel
theorem d_SD_resource_67 : decode c_SD_resource 67 = .ok (.aload_n 0, 1) := by decide +kernel
theorem d_SD_resource_68 : decode c_SD_resource 68 = .ok (.getfield 10, 3) := by decide +kernel
theorem d_SD_resource_71 : decode c_SD_resource 71 = .ok (.invokevirtual 76, 3) := by decide +kernel
theorem d_SD_resource_74 : decode c_SD_resource 74 = .ok (.iload_n 3, 1) := by decide +kernel
theorem d_SD_resource_75 : decode c_SD_resource 75 = .ok (.ireturn, 1) := by decide +kernel
set_option maxHeartbeats 4000000 in
set_option maxRecDepth 100000 in
theorem sn_SD_resource_66 {l : Launch} {Γ : gk_G} {p : Program} {e : Env} {s : State} {m : MethodId} {args : Array Value} {below : List Frame} {meth : Method} {c : Code} (B : gk_B p s m args meth c gk_Y Γ c_SD_resource 4 "StageDispatcher") (hr : meth.sig.returnType = (some .int)) {ρ : Int32 × gk_M}   {a0 : Option Nat} {s0 : Int32} {M : gk_M} (h : fn_SD_resource_66  a0 s0 M = some ρ) : Gk p l e rm_SD_resource s m args below meth c gk_Y Γ 4 (MQ below (gk_Q gk_Y Γ (some (.int ρ.1)) ρ.2) args s rm_SD_resource.cells rm_SD_resource.slots (fun q => Γ.2.2 ≤ q)) 2 29 M 66 [some (va_rf a0), none, none, none] [.int s0] := by
  unfold fn_SD_resource_66 at h
  refine Gk_istore_n (i := 3) (L' := [some (va_rf a0), none, none, some (.int s0)]) B d_SD_resource_66 rfl (by decide) (gk_c1_n rfl) rfl ?_
  refine Gk_aload_n (i := 0) (r := a0) B d_SD_resource_67 rfl rfl ?_
  obtain ⟨v68, h68, h⟩ := gk_bind h
  refine Gk_getR (j := 0) B d_SD_resource_68 in_SD cl_SD (by decide) tw_278 rfl h68 ?_
  obtain ⟨o71, g71, h⟩ := gk_bind h
  obtain ⟨w71, h71, h⟩ := gk_bind h
  refine Gk_callV (As := []) (rest := []) (st1 := []) (k1 := 2) (n1 := 29) B gk_hG d_SD_resource_71 (sn_Text_clear h71) g71 cl_Text tw_362 tw_359 tw_360 tw_361 tw_41 nm_Text_clear rfl (by decide) ⟨by decide, by decide⟩ ⟨by decide, by decide⟩ rfl rfl rfl rfl ?_
  refine Gk_iload_n (i := 3) (x := s0) B d_SD_resource_74 rfl rfl ?_
  cases h
  exact Gk_iret B hr d_SD_resource_75 rfl (by decide) (by decide) rfl
set_option maxHeartbeats 4000000 in
set_option maxRecDepth 100000 in
theorem sn_SD_resource_59 {l : Launch} {Γ : gk_G} {p : Program} {e : Env} {s : State} {m : MethodId} {args : Array Value} {below : List Frame} {meth : Method} {c : Code} (B : gk_B p s m args meth c gk_Y Γ c_SD_resource 4 "StageDispatcher") (hr : meth.sig.returnType = (some .int)) {ρ : Int32 × gk_M}   {a0 : Option Nat} {s0 : Option Nat} {s1 : Option Nat} {M : gk_M} (h : fn_SD_resource_59  a0 s0 s1 M = some ρ) : Gk p l e rm_SD_resource s m args below meth c gk_Y Γ 4 (MQ below (gk_Q gk_Y Γ (some (.int ρ.1)) ρ.2) args s rm_SD_resource.cells rm_SD_resource.slots (fun q => Γ.2.2 ≤ q)) 2 29 M 59 [some (va_rf a0), none, none, none] [va_rf s1, va_rf s0] := by
  unfold fn_SD_resource_59 at h
  obtain ⟨o59, g59, h⟩ := gk_bind h
  obtain ⟨w59, h59, h⟩ := gk_bind h
  refine Gk_callV (As := [va_rf s1]) (rest := []) (st1 := [.int w59.1]) (k1 := 2) (n1 := 29) B gk_hG d_SD_resource_59 (sn_Catalog_addResource h59) g59 cl_Catalog tw_358 tw_355 tw_356 tw_357 tw_42 nm_Catalog_addResource rfl (by decide) ⟨by decide, by decide⟩ ⟨by decide, by decide⟩ rfl rfl rfl rfl ?_
  refine Gk_goto (tgt := 66) B d_SD_resource_62 rfl ?_
  exact sn_SD_resource_66 B hr h
set_option maxHeartbeats 4000000 in
set_option maxRecDepth 100000 in
theorem sn_SD_resource_31 {l : Launch} {Γ : gk_G} {p : Program} {e : Env} {s : State} {m : MethodId} {args : Array Value} {below : List Frame} {meth : Method} {c : Code} (B : gk_B p s m args meth c gk_Y Γ c_SD_resource 4 "StageDispatcher") (hr : meth.sig.returnType = (some .int)) {ρ : Int32 × gk_M}   {a0 : Option Nat} {x1 : Int32} {s0 : Int32} {M : gk_M} (h : fn_SD_resource_31  a0 x1 s0 M = some ρ) : Gk p l e rm_SD_resource s m args below meth c gk_Y Γ 4 (MQ below (gk_Q gk_Y Γ (some (.int ρ.1)) ρ.2) args s rm_SD_resource.cells rm_SD_resource.slots (fun q => Γ.2.2 ≤ q)) 0 0 M 31 [some (va_rf a0), some (.int x1), none, none] [.int s0] := by
  unfold fn_SD_resource_31 at h
  refine Gk_istore_n (i := 2) (L' := [some (va_rf a0), some (.int x1), some (.int s0), none]) B d_SD_resource_31 rfl (by decide) (gk_c1_i rfl) rfl ?_
  refine Gk_iload_n (i := 2) (x := s0) B d_SD_resource_32 rfl rfl ?_
  refine Gk_if_eq (tgt := 65) B d_SD_resource_33 rfl (fun c33 => ?_) (fun c33 => ?_)
  · rw [if_pos c33] at h
    refine Gk_iconst (v := (-1)) B d_SD_resource_65 (by decide) ?_
    refine Gk_weak [true, false, false, false] (L' := [some (va_rf a0), none, none, none]) rfl ?_
    refine Gk_widen (k' := 2) (n' := 29) (by decide) (by decide) ?_
    exact sn_SD_resource_66 B hr h
  rw [if_neg c33] at h
  refine Gk_aload_n (i := 0) (r := a0) B d_SD_resource_36 rfl rfl ?_
  obtain ⟨v37, h37, h⟩ := gk_bind h
  refine Gk_getR (j := 1) B d_SD_resource_37 in_SD cl_SD (by decide) tw_279 rfl h37 ?_
  refine Gk_iload_n (i := 1) (x := x1) B d_SD_resource_40 rfl rfl ?_
  refine Gk_if_eq (tgt := 58) B d_SD_resource_41 rfl (fun c41 => ?_) (fun c41 => ?_)
  · rw [if_pos c41] at h
    refine Gk_null B d_SD_resource_58 ?_
    refine Gk_weak [true, false, false, false] (L' := [some (va_rf a0), none, none, none]) rfl ?_
    refine Gk_widen (k' := 2) (n' := 29) (by decide) (by decide) ?_
    exact sn_SD_resource_59 B hr h
  rw [if_neg c41] at h
  refine Gk_new B d_SD_resource_44 in_Template t_Template t_Template_ok tw_322 tw_323 tw_49 cl_Template df_Template_ok (by decide) (by decide) ?_
  refine Gk_dup B d_SD_resource_47 (gk_rc _) ?_
  refine Gk_aload_n (i := 0) (r := a0) B d_SD_resource_48 rfl rfl ?_
  obtain ⟨v49, h49, h⟩ := gk_bind h
  refine Gk_getR (j := 0) B d_SD_resource_49 in_SD cl_SD (by decide) tw_278 rfl h49 ?_
  obtain ⟨o52, g52, h⟩ := gk_bind h
  obtain ⟨w52, h52, h⟩ := gk_bind h
  refine Gk_callI (As := [va_rf v49]) (rest := [va_rf (some M.2), va_rf v37]) (st1 := [va_rf (some M.2), va_rf v37]) (k1 := 2) (n1 := 29) B gk_hG d_SD_resource_52 (sn_Template_init h52) g52 rfl tw_326 tw_324 tw_325 tw_49 nm_Template_init rfl (by simp [gk_rc, gk_ic, gk_jc, rm_SD_resource]) ⟨by decide, by decide⟩ ⟨by decide, by decide⟩ rfl rfl rfl rfl ?_
  refine Gk_goto (tgt := 59) B d_SD_resource_55 rfl ?_
  refine Gk_weak [true, false, false, false] (L' := [some (va_rf a0), none, none, none]) rfl ?_
  exact sn_SD_resource_59 B hr h
set_option maxHeartbeats 4000000 in
set_option maxRecDepth 100000 in
theorem sn_SD_resource_30 {l : Launch} {Γ : gk_G} {p : Program} {e : Env} {s : State} {m : MethodId} {args : Array Value} {below : List Frame} {meth : Method} {c : Code} (B : gk_B p s m args meth c gk_Y Γ c_SD_resource 4 "StageDispatcher") (hr : meth.sig.returnType = (some .int)) {ρ : Int32 × gk_M}   {a0 : Option Nat} {x1 : Int32} {M : gk_M} (h : fn_SD_resource_30  a0 x1 M = some ρ) : Gk p l e rm_SD_resource s m args below meth c gk_Y Γ 4 (MQ below (gk_Q gk_Y Γ (some (.int ρ.1)) ρ.2) args s rm_SD_resource.cells rm_SD_resource.slots (fun q => Γ.2.2 ≤ q)) 0 0 M 30 [some (va_rf a0), some (.int x1), none, none] [] := by
  unfold fn_SD_resource_30 at h
  refine Gk_iconst (v := 0) B d_SD_resource_30 (by decide) ?_
  exact sn_SD_resource_31 B hr h
set_option maxHeartbeats 4000000 in
set_option maxRecDepth 100000 in
theorem sn_SD_resource_26 {l : Launch} {Γ : gk_G} {p : Program} {e : Env} {s : State} {m : MethodId} {args : Array Value} {below : List Frame} {meth : Method} {c : Code} (B : gk_B p s m args meth c gk_Y Γ c_SD_resource 4 "StageDispatcher") (hr : meth.sig.returnType = (some .int)) {ρ : Int32 × gk_M}   {a0 : Option Nat} {x1 : Int32} {M : gk_M} (h : fn_SD_resource_26  a0 x1 M = some ρ) : Gk p l e rm_SD_resource s m args below meth c gk_Y Γ 4 (MQ below (gk_Q gk_Y Γ (some (.int ρ.1)) ρ.2) args s rm_SD_resource.cells rm_SD_resource.slots (fun q => Γ.2.2 ≤ q)) 0 0 M 26 [some (va_rf a0), some (.int x1), none, none] [] := by
  unfold fn_SD_resource_26 at h
  refine Gk_iconst (v := 1) B d_SD_resource_26 (by decide) ?_
  refine Gk_goto (tgt := 31) B d_SD_resource_27 rfl ?_
  exact sn_SD_resource_31 B hr h
set_option maxHeartbeats 4000000 in
set_option maxRecDepth 100000 in
theorem sn_SD_resource_0 {l : Launch} {Γ : gk_G} {p : Program} {e : Env} {s : State} {m : MethodId} {args : Array Value} {below : List Frame} {meth : Method} {c : Code} (B : gk_B p s m args meth c gk_Y Γ c_SD_resource 4 "StageDispatcher") (hr : meth.sig.returnType = (some .int)) {ρ : Int32 × gk_M}   {a0 : Option Nat} {x1 : Int32} {M : gk_M} (h : fn_SD_resource  a0 x1 M = some ρ) : Gk p l e rm_SD_resource s m args below meth c gk_Y Γ 4 (MQ below (gk_Q gk_Y Γ (some (.int ρ.1)) ρ.2) args s rm_SD_resource.cells rm_SD_resource.slots (fun q => Γ.2.2 ≤ q)) 0 0 M 0 [some (va_rf a0), some (.int x1), none, none] [] := by
  unfold fn_SD_resource at h
  refine Gk_aload_n (i := 0) (r := a0) B d_SD_resource_0 rfl rfl ?_
  obtain ⟨v1, h1, h⟩ := gk_bind h
  refine Gk_getR (j := 1) B d_SD_resource_1 in_SD cl_SD (by decide) tw_279 rfl h1 ?_
  obtain ⟨v4, h4, h⟩ := gk_bind h
  refine Gk_getI (j := 3) B d_SD_resource_4 in_Catalog cl_Catalog (by decide) tw_106 rfl h4 ?_
  refine Gk_bipush (v := 6) B d_SD_resource_7 (by decide) ?_
  refine Gk_icmp_ge (tgt := 30) B d_SD_resource_9 rfl (fun c9 => ?_) (fun c9 => ?_)
  · rw [if_pos c9] at h
    exact sn_SD_resource_30 B hr h
  rw [if_neg c9] at h
  refine Gk_iload_n (i := 1) (x := x1) B d_SD_resource_12 rfl rfl ?_
  refine Gk_if_eq (tgt := 26) B d_SD_resource_13 rfl (fun c13 => ?_) (fun c13 => ?_)
  · rw [if_pos c13] at h
    exact sn_SD_resource_26 B hr h
  rw [if_neg c13] at h
  refine Gk_aload_n (i := 0) (r := a0) B d_SD_resource_16 rfl rfl ?_
  obtain ⟨v17, h17, h⟩ := gk_bind h
  refine Gk_getR (j := 0) B d_SD_resource_17 in_SD cl_SD (by decide) tw_278 rfl h17 ?_
  obtain ⟨w20, h20, h⟩ := gk_bind h
  refine Gk_callS (As := [va_rf v17]) (rest := []) (st1 := [.int w20.1]) (k1 := 0) (n1 := 0) B gk_hG d_SD_resource_20 (sn_Template_isGood h20) tw_314 tw_312 tw_313 tw_49 nm_Template_isGood rfl (by decide) ⟨by decide, by decide⟩ ⟨by decide, by decide⟩ rfl rfl rfl rfl ?_
  refine Gk_if_eq (tgt := 30) B d_SD_resource_23 rfl (fun c23 => ?_) (fun c23 => ?_)
  · rw [if_pos c23] at h
    exact sn_SD_resource_30 B hr h
  rw [if_neg c23] at h
  exact sn_SD_resource_26 B hr h
theorem sn_SD_resource {l : Launch} {Γ : gk_G} {a0 : Option Nat} {x1 : Int32} {M : gk_M} {ρ : Int32 × gk_M} (h : fn_SD_resource a0 x1 M = some ρ) : gk_Met l gk_Y Γ y_SD_resource (.code y_SD_resource c_SD_resource 4 (some .int) :: gk_Y.2.2.2) rm_SD_resource [va_rf a0, .int x1] M (some (.int ρ.1)) ρ.2 :=
  gk_start (by decide) (by simp [lg_sl, gk_rc, gk_ic, gk_jc]) [some (va_rf a0), some (.int x1), none, none] (by simp [gk_as, lv_args, gk_rc, gk_ic, gk_jc]) (fun p e s m args below meth c B hr hin => sn_SD_resource_0 B hr h)
theorem d_Mo_groupAt_0 : decode c_Mo_groupAt 0 = .ok (.iload_n 1, 1) := by decide +kernel
theorem d_Mo_groupAt_1 : decode c_Mo_groupAt 1 = .ok (.iconst 1, 1) := by decide +kernel
theorem d_Mo_groupAt_2 : decode c_Mo_groupAt 2 = .ok (.iadd, 1) := by decide +kernel
theorem d_Mo_groupAt_3 : decode c_Mo_groupAt 3 = .ok (.aload_n 0, 1) := by decide +kernel
theorem d_Mo_groupAt_4 : decode c_Mo_groupAt 4 = .ok (.getfield 118, 3) := by decide +kernel
theorem d_Mo_groupAt_7 : decode c_Mo_groupAt 7 = .ok (.if_icmp .ge 14, 3) := by decide +kernel
theorem d_Mo_groupAt_10 : decode c_Mo_groupAt 10 = .ok (.aload_n 0, 1) := by decide +kernel
theorem d_Mo_groupAt_11 : decode c_Mo_groupAt 11 = .ok (.getfield 7, 3) := by decide +kernel
theorem d_Mo_groupAt_14 : decode c_Mo_groupAt 14 = .ok (.iload_n 1, 1) := by decide +kernel
theorem d_Mo_groupAt_15 : decode c_Mo_groupAt 15 = .ok (.iconst 1, 1) := by decide +kernel
theorem d_Mo_groupAt_16 : decode c_Mo_groupAt 16 = .ok (.iadd, 1) := by decide +kernel
theorem d_Mo_groupAt_17 : decode c_Mo_groupAt 17 = .ok (.caload, 1) := by decide +kernel
theorem d_Mo_groupAt_18 : decode c_Mo_groupAt 18 = .ok (.goto 5, 3) := by decide +kernel
theorem d_Mo_groupAt_21 : decode c_Mo_groupAt 21 = .ok (.bipush 32, 2) := by decide +kernel
theorem d_Mo_groupAt_23 : decode c_Mo_groupAt 23 = .ok (.istore_n 2, 1) := by decide +kernel
theorem d_Mo_groupAt_24 : decode c_Mo_groupAt 24 = .ok (.iload_n 1, 1) := by decide +kernel
theorem d_Mo_groupAt_25 : decode c_Mo_groupAt 25 = .ok (.iconst 2, 1) := by decide +kernel
theorem d_Mo_groupAt_26 : decode c_Mo_groupAt 26 = .ok (.iadd, 1) := by decide +kernel
theorem d_Mo_groupAt_27 : decode c_Mo_groupAt 27 = .ok (.aload_n 0, 1) := by decide +kernel
theorem d_Mo_groupAt_28 : decode c_Mo_groupAt 28 = .ok (.getfield 118, 3) := by decide +kernel
theorem d_Mo_groupAt_31 : decode c_Mo_groupAt 31 = .ok (.if_icmp .ge 14, 3) := by decide +kernel
theorem d_Mo_groupAt_34 : decode c_Mo_groupAt 34 = .ok (.aload_n 0, 1) := by decide +kernel
theorem d_Mo_groupAt_35 : decode c_Mo_groupAt 35 = .ok (.getfield 7, 3) := by decide +kernel
theorem d_Mo_groupAt_38 : decode c_Mo_groupAt 38 = .ok (.iload_n 1, 1) := by decide +kernel
theorem d_Mo_groupAt_39 : decode c_Mo_groupAt 39 = .ok (.iconst 2, 1) := by decide +kernel
theorem d_Mo_groupAt_40 : decode c_Mo_groupAt 40 = .ok (.iadd, 1) := by decide +kernel
theorem d_Mo_groupAt_41 : decode c_Mo_groupAt 41 = .ok (.caload, 1) := by decide +kernel
theorem d_Mo_groupAt_42 : decode c_Mo_groupAt 42 = .ok (.goto 5, 3) := by decide +kernel
theorem d_Mo_groupAt_45 : decode c_Mo_groupAt 45 = .ok (.bipush 32, 2) := by decide +kernel
theorem d_Mo_groupAt_47 : decode c_Mo_groupAt 47 = .ok (.istore_n 3, 1) := by decide +kernel
theorem d_Mo_groupAt_48 : decode c_Mo_groupAt 48 = .ok (.iload_n 2, 1) := by decide +kernel
theorem d_Mo_groupAt_49 : decode c_Mo_groupAt 49 = .ok (.bipush 125, 2) := by decide +kernel
theorem d_Mo_groupAt_51 : decode c_Mo_groupAt 51 = .ok (.if_icmp .ne 7, 3) := by decide +kernel
theorem d_Mo_groupAt_54 : decode c_Mo_groupAt 54 = .ok (.iconst 1, 1) := by decide +kernel
theorem d_Mo_groupAt_55 : decode c_Mo_groupAt 55 = .ok (.goto 34, 3) := by decide +kernel
theorem d_Mo_groupAt_58 : decode c_Mo_groupAt 58 = .ok (.iload_n 3, 1) := by decide +kernel
theorem d_Mo_groupAt_59 : decode c_Mo_groupAt 59 = .ok (.bipush 125, 2) := by decide +kernel
theorem d_Mo_groupAt_61 : decode c_Mo_groupAt 61 = .ok (.if_icmp .eq 7, 3) := by decide +kernel
theorem d_Mo_groupAt_64 : decode c_Mo_groupAt 64 = .ok (.iconst 0, 1) := by decide +kernel
theorem d_Mo_groupAt_65 : decode c_Mo_groupAt 65 = .ok (.goto 24, 3) := by decide +kernel
theorem d_Mo_groupAt_68 : decode c_Mo_groupAt 68 = .ok (.iload_n 2, 1) := by decide +kernel
theorem d_Mo_groupAt_69 : decode c_Mo_groupAt 69 = .ok (.bipush 100, 2) := by decide +kernel
theorem d_Mo_groupAt_71 : decode c_Mo_groupAt 71 = .ok (.if_icmp .ne 7, 3) := by decide +kernel
theorem d_Mo_groupAt_74 : decode c_Mo_groupAt 74 = .ok (.iconst 2, 1) := by decide +kernel
theorem d_Mo_groupAt_75 : decode c_Mo_groupAt 75 = .ok (.goto 14, 3) := by decide +kernel
theorem d_Mo_groupAt_78 : decode c_Mo_groupAt 78 = .ok (.iload_n 2, 1) := by decide +kernel
theorem d_Mo_groupAt_79 : decode c_Mo_groupAt 79 = .ok (.bipush 114, 2) := by decide +kernel
theorem d_Mo_groupAt_81 : decode c_Mo_groupAt 81 = .ok (.if_icmp .ne 7, 3) := by decide +kernel
theorem d_Mo_groupAt_84 : decode c_Mo_groupAt 84 = .ok (.iconst 3, 1) := by decide +kernel
theorem d_Mo_groupAt_85 : decode c_Mo_groupAt 85 = .ok (.goto 4, 3) := by decide +kernel
theorem d_Mo_groupAt_88 : decode c_Mo_groupAt 88 = .ok (.iconst 0, 1) := by decide +kernel
theorem d_Mo_groupAt_89 : decode c_Mo_groupAt 89 = .ok (.ireturn, 1) := by decide +kernel
set_option maxHeartbeats 4000000 in
set_option maxRecDepth 100000 in
theorem sn_Mo_groupAt_47 {l : Launch} {Γ : gk_G} {p : Program} {e : Env} {s : State} {m : MethodId} {args : Array Value} {below : List Frame} {meth : Method} {c : Code} (B : gk_B p s m args meth c gk_Y Γ c_Mo_groupAt 4 "StageDispatcherModel") (hr : meth.sig.returnType = (some .int)) {ρ : Int32 × gk_M}   {x2 : Int32} {s0 : Int32} {M : gk_M} (h : fn_Mo_groupAt_47  x2 s0 M = some ρ) : Gk p l e rm_Mo_groupAt s m args below meth c gk_Y Γ 4 (MQ below (gk_Q gk_Y Γ (some (.int ρ.1)) ρ.2) args s rm_Mo_groupAt.cells rm_Mo_groupAt.slots (fun q => Γ.2.2 ≤ q)) 0 0 M 47 [none, none, some (.int x2), none] [.int s0] := by
  unfold fn_Mo_groupAt_47 at h
  refine Gk_istore_n (i := 3) (L' := [none, none, some (.int x2), some (.int s0)]) B d_Mo_groupAt_47 rfl (by decide) (gk_c1_i rfl) rfl ?_
  refine Gk_iload_n (i := 2) (x := x2) B d_Mo_groupAt_48 rfl rfl ?_
  refine Gk_bipush (v := 125) B d_Mo_groupAt_49 (by decide) ?_
  refine Gk_icmp_ne (tgt := 58) B d_Mo_groupAt_51 rfl (fun c51 => ?_) (fun c51 => ?_)
  · rw [if_neg c51] at h
    refine Gk_iload_n (i := 3) (x := s0) B d_Mo_groupAt_58 rfl rfl ?_
    refine Gk_bipush (v := 125) B d_Mo_groupAt_59 (by decide) ?_
    refine Gk_icmp_eq (tgt := 68) B d_Mo_groupAt_61 rfl (fun c61 => ?_) (fun c61 => ?_)
    · rw [if_pos c61] at h
      refine Gk_iload_n (i := 2) (x := x2) B d_Mo_groupAt_68 rfl rfl ?_
      refine Gk_bipush (v := 100) B d_Mo_groupAt_69 (by decide) ?_
      refine Gk_icmp_ne (tgt := 78) B d_Mo_groupAt_71 rfl (fun c71 => ?_) (fun c71 => ?_)
      · rw [if_neg c71] at h
        refine Gk_iload_n (i := 2) (x := x2) B d_Mo_groupAt_78 rfl rfl ?_
        refine Gk_bipush (v := 114) B d_Mo_groupAt_79 (by decide) ?_
        refine Gk_icmp_ne (tgt := 88) B d_Mo_groupAt_81 rfl (fun c81 => ?_) (fun c81 => ?_)
        · rw [if_neg c81] at h
          refine Gk_iconst (v := 0) B d_Mo_groupAt_88 (by decide) ?_
          cases h
          exact Gk_iret B hr d_Mo_groupAt_89 rfl (by decide) (by decide) rfl
        rw [if_pos c81] at h
        refine Gk_iconst (v := 3) B d_Mo_groupAt_84 (by decide) ?_
        refine Gk_goto (tgt := 89) B d_Mo_groupAt_85 rfl ?_
        cases h
        exact Gk_iret B hr d_Mo_groupAt_89 rfl (by decide) (by decide) rfl
      rw [if_pos c71] at h
      refine Gk_iconst (v := 2) B d_Mo_groupAt_74 (by decide) ?_
      refine Gk_goto (tgt := 89) B d_Mo_groupAt_75 rfl ?_
      cases h
      exact Gk_iret B hr d_Mo_groupAt_89 rfl (by decide) (by decide) rfl
    rw [if_neg c61] at h
    refine Gk_iconst (v := 0) B d_Mo_groupAt_64 (by decide) ?_
    refine Gk_goto (tgt := 89) B d_Mo_groupAt_65 rfl ?_
    cases h
    exact Gk_iret B hr d_Mo_groupAt_89 rfl (by decide) (by decide) rfl
  rw [if_pos c51] at h
  refine Gk_iconst (v := 1) B d_Mo_groupAt_54 (by decide) ?_
  refine Gk_goto (tgt := 89) B d_Mo_groupAt_55 rfl ?_
  cases h
  exact Gk_iret B hr d_Mo_groupAt_89 rfl (by decide) (by decide) rfl
set_option maxHeartbeats 4000000 in
set_option maxRecDepth 100000 in
theorem sn_Mo_groupAt_23 {l : Launch} {Γ : gk_G} {p : Program} {e : Env} {s : State} {m : MethodId} {args : Array Value} {below : List Frame} {meth : Method} {c : Code} (B : gk_B p s m args meth c gk_Y Γ c_Mo_groupAt 4 "StageDispatcherModel") (hr : meth.sig.returnType = (some .int)) {ρ : Int32 × gk_M}   {a0 : Option Nat} {x1 : Int32} {s0 : Int32} {M : gk_M} (h : fn_Mo_groupAt_23  a0 x1 s0 M = some ρ) : Gk p l e rm_Mo_groupAt s m args below meth c gk_Y Γ 4 (MQ below (gk_Q gk_Y Γ (some (.int ρ.1)) ρ.2) args s rm_Mo_groupAt.cells rm_Mo_groupAt.slots (fun q => Γ.2.2 ≤ q)) 0 0 M 23 [some (va_rf a0), some (.int x1), none, none] [.int s0] := by
  unfold fn_Mo_groupAt_23 at h
  refine Gk_istore_n (i := 2) (L' := [some (va_rf a0), some (.int x1), some (.int s0), none]) B d_Mo_groupAt_23 rfl (by decide) (gk_c1_i rfl) rfl ?_
  refine Gk_iload_n (i := 1) (x := x1) B d_Mo_groupAt_24 rfl rfl ?_
  refine Gk_iconst (v := 2) B d_Mo_groupAt_25 (by decide) ?_
  refine Gk_iadd B d_Mo_groupAt_26 ?_
  refine Gk_aload_n (i := 0) (r := a0) B d_Mo_groupAt_27 rfl rfl ?_
  obtain ⟨v28, h28, h⟩ := gk_bind h
  refine Gk_getI (j := 1) B d_Mo_groupAt_28 in_Mo cl_Mo (by decide) tw_756 rfl h28 ?_
  refine Gk_icmp_ge (tgt := 45) B d_Mo_groupAt_31 rfl (fun c31 => ?_) (fun c31 => ?_)
  · rw [if_pos c31] at h
    refine Gk_bipush (v := 32) B d_Mo_groupAt_45 (by decide) ?_
    refine Gk_weak [false, false, true, false] (L' := [none, none, some (.int s0), none]) rfl ?_
    exact sn_Mo_groupAt_47 B hr h
  rw [if_neg c31] at h
  refine Gk_aload_n (i := 0) (r := a0) B d_Mo_groupAt_34 rfl rfl ?_
  obtain ⟨v35, h35, h⟩ := gk_bind h
  refine Gk_getR (j := 0) B d_Mo_groupAt_35 in_Mo cl_Mo (by decide) tw_755 rfl h35 ?_
  refine Gk_iload_n (i := 1) (x := x1) B d_Mo_groupAt_38 rfl rfl ?_
  refine Gk_iconst (v := 2) B d_Mo_groupAt_39 (by decide) ?_
  refine Gk_iadd B d_Mo_groupAt_40 ?_
  obtain ⟨v41, h41, h⟩ := gk_bind h
  refine Gk_caload B d_Mo_groupAt_41 ty_1 h41 ?_
  refine Gk_goto (tgt := 47) B d_Mo_groupAt_42 rfl ?_
  refine Gk_weak [false, false, true, false] (L' := [none, none, some (.int s0), none]) rfl ?_
  exact sn_Mo_groupAt_47 B hr h
set_option maxHeartbeats 4000000 in
set_option maxRecDepth 100000 in
theorem sn_Mo_groupAt_0 {l : Launch} {Γ : gk_G} {p : Program} {e : Env} {s : State} {m : MethodId} {args : Array Value} {below : List Frame} {meth : Method} {c : Code} (B : gk_B p s m args meth c gk_Y Γ c_Mo_groupAt 4 "StageDispatcherModel") (hr : meth.sig.returnType = (some .int)) {ρ : Int32 × gk_M}   {a0 : Option Nat} {x1 : Int32} {M : gk_M} (h : fn_Mo_groupAt  a0 x1 M = some ρ) : Gk p l e rm_Mo_groupAt s m args below meth c gk_Y Γ 4 (MQ below (gk_Q gk_Y Γ (some (.int ρ.1)) ρ.2) args s rm_Mo_groupAt.cells rm_Mo_groupAt.slots (fun q => Γ.2.2 ≤ q)) 0 0 M 0 [some (va_rf a0), some (.int x1), none, none] [] := by
  unfold fn_Mo_groupAt at h
  refine Gk_iload_n (i := 1) (x := x1) B d_Mo_groupAt_0 rfl rfl ?_
  refine Gk_iconst (v := 1) B d_Mo_groupAt_1 (by decide) ?_
  refine Gk_iadd B d_Mo_groupAt_2 ?_
  refine Gk_aload_n (i := 0) (r := a0) B d_Mo_groupAt_3 rfl rfl ?_
  obtain ⟨v4, h4, h⟩ := gk_bind h
  refine Gk_getI (j := 1) B d_Mo_groupAt_4 in_Mo cl_Mo (by decide) tw_756 rfl h4 ?_
  refine Gk_icmp_ge (tgt := 21) B d_Mo_groupAt_7 rfl (fun c7 => ?_) (fun c7 => ?_)
  · rw [if_pos c7] at h
    refine Gk_bipush (v := 32) B d_Mo_groupAt_21 (by decide) ?_
    exact sn_Mo_groupAt_23 B hr h
  rw [if_neg c7] at h
  refine Gk_aload_n (i := 0) (r := a0) B d_Mo_groupAt_10 rfl rfl ?_
  obtain ⟨v11, h11, h⟩ := gk_bind h
  refine Gk_getR (j := 0) B d_Mo_groupAt_11 in_Mo cl_Mo (by decide) tw_755 rfl h11 ?_
  refine Gk_iload_n (i := 1) (x := x1) B d_Mo_groupAt_14 rfl rfl ?_
  refine Gk_iconst (v := 1) B d_Mo_groupAt_15 (by decide) ?_
  refine Gk_iadd B d_Mo_groupAt_16 ?_
  obtain ⟨v17, h17, h⟩ := gk_bind h
  refine Gk_caload B d_Mo_groupAt_17 ty_1 h17 ?_
  refine Gk_goto (tgt := 23) B d_Mo_groupAt_18 rfl ?_
  exact sn_Mo_groupAt_23 B hr h
theorem sn_Mo_groupAt {l : Launch} {Γ : gk_G} {a0 : Option Nat} {x1 : Int32} {M : gk_M} {ρ : Int32 × gk_M} (h : fn_Mo_groupAt a0 x1 M = some ρ) : gk_Met l gk_Y Γ y_Mo_groupAt (.code y_Mo_groupAt c_Mo_groupAt 4 (some .int) :: gk_Y.2.2.2) rm_Mo_groupAt [va_rf a0, .int x1] M (some (.int ρ.1)) ρ.2 :=
  gk_start (by decide) (by simp [lg_sl, gk_rc, gk_ic, gk_jc]) [some (va_rf a0), some (.int x1), none, none] (by simp [gk_as, lv_args, gk_rc, gk_ic, gk_jc]) (fun p e s m args below meth c B hr hin => sn_Mo_groupAt_0 B hr h)
theorem d_Mo_goodTemplate_0 : decode c_Mo_goodTemplate 0 = .ok (.iconst 0, 1) := by decide +kernel
theorem d_Mo_goodTemplate_1 : decode c_Mo_goodTemplate 1 = .ok (.istore_n 1, 1) := by decide +kernel
theorem d_Mo_goodTemplate_2 : decode c_Mo_goodTemplate 2 = .ok (.iconst 0, 1) := by decide +kernel
theorem d_Mo_goodTemplate_3 : decode c_Mo_goodTemplate 3 = .ok (.istore_n 2, 1) := by decide +kernel
theorem d_Mo_goodTemplate_4 : decode c_Mo_goodTemplate 4 = .ok (.iconst 0, 1) := by decide +kernel
theorem d_Mo_goodTemplate_5 : decode c_Mo_goodTemplate 5 = .ok (.istore_n 3, 1) := by decide +kernel
theorem d_Mo_goodTemplate_6 : decode c_Mo_goodTemplate 6 = .ok (.iload_n 3, 1) := by decide +kernel
theorem d_Mo_goodTemplate_7 : decode c_Mo_goodTemplate 7 = .ok (.aload_n 0, 1) := by decide +kernel
theorem d_Mo_goodTemplate_8 : decode c_Mo_goodTemplate 8 = .ok (.getfield 118, 3) := by decide +kernel
theorem d_Mo_goodTemplate_11 : decode c_Mo_goodTemplate 11 = .ok (.if_icmp .ge 100, 3) := by decide +kernel
theorem d_Mo_goodTemplate_14 : decode c_Mo_goodTemplate 14 = .ok (.aload_n 0, 1) := by decide +kernel
theorem d_Mo_goodTemplate_15 : decode c_Mo_goodTemplate 15 = .ok (.getfield 7, 3) := by decide +kernel
theorem d_Mo_goodTemplate_18 : decode c_Mo_goodTemplate 18 = .ok (.iload_n 3, 1) := by decide +kernel
theorem d_Mo_goodTemplate_19 : decode c_Mo_goodTemplate 19 = .ok (.caload, 1) := by decide +kernel
theorem d_Mo_goodTemplate_20 : decode c_Mo_goodTemplate 20 = .ok (.bipush 123, 2) := by decide +kernel
theorem d_Mo_goodTemplate_22 : decode c_Mo_goodTemplate 22 = .ok (.if_icmp .ne 11, 3) := by decide +kernel
theorem d_Mo_goodTemplate_25 : decode c_Mo_goodTemplate 25 = .ok (.aload_n 0, 1) := by decide +kernel
theorem d_Mo_goodTemplate_26 : decode c_Mo_goodTemplate 26 = .ok (.iload_n 3, 1) := by decide +kernel
theorem d_Mo_goodTemplate_27 : decode c_Mo_goodTemplate 27 = .ok (.invokevirtual 121, 3) := by decide +kernel
theorem d_Mo_goodTemplate_30 : decode c_Mo_goodTemplate 30 = .ok (.goto 4, 3) := by decide +kernel
theorem d_Mo_goodTemplate_33 : decode c_Mo_goodTemplate 33 = .ok (.iconst 0, 1) := by decide +kernel
theorem d_Mo_goodTemplate_34 : decode c_Mo_goodTemplate 34 = .ok (.istore 4, 2) := by decide +kernel
theorem d_Mo_goodTemplate_36 : decode c_Mo_goodTemplate 36 = .ok (.aload_n 0, 1) := by decide +kernel
theorem d_Mo_goodTemplate_37 : decode c_Mo_goodTemplate 37 = .ok (.getfield 7, 3) := by decide +kernel
theorem d_Mo_goodTemplate_40 : decode c_Mo_goodTemplate 40 = .ok (.iload_n 3, 1) := by decide +kernel
theorem d_Mo_goodTemplate_41 : decode c_Mo_goodTemplate 41 = .ok (.caload, 1) := by decide +kernel
theorem d_Mo_goodTemplate_42 : decode c_Mo_goodTemplate 42 = .ok (.bipush 125, 2) := by decide +kernel
theorem d_Mo_goodTemplate_44 : decode c_Mo_goodTemplate 44 = .ok (.if_icmp .eq 19, 3) := by decide +kernel
theorem d_Mo_goodTemplate_47 : decode c_Mo_goodTemplate 47 = .ok (.aload_n 0, 1) := by decide +kernel
theorem d_Mo_goodTemplate_48 : decode c_Mo_goodTemplate 48 = .ok (.getfield 7, 3) := by decide +kernel
theorem d_Mo_goodTemplate_51 : decode c_Mo_goodTemplate 51 = .ok (.iload_n 3, 1) := by decide +kernel
theorem d_Mo_goodTemplate_52 : decode c_Mo_goodTemplate 52 = .ok (.caload, 1) := by decide +kernel
theorem d_Mo_goodTemplate_53 : decode c_Mo_goodTemplate 53 = .ok (.bipush 123, 2) := by decide +kernel
theorem d_Mo_goodTemplate_55 : decode c_Mo_goodTemplate 55 = .ok (.if_icmp .ne 10, 3) := by decide +kernel
theorem d_Mo_goodTemplate_58 : decode c_Mo_goodTemplate 58 = .ok (.iload 4, 2) := by decide +kernel
theorem d_Mo_goodTemplate_60 : decode c_Mo_goodTemplate 60 = .ok (.ifCond .ne 5, 3) := by decide +kernel
theorem d_Mo_goodTemplate_63 : decode c_Mo_goodTemplate 63 = .ok (.iconst 0, 1) := by decide +kernel
theorem d_Mo_goodTemplate_64 : decode c_Mo_goodTemplate 64 = .ok (.ireturn, 1) := by decide +kernel
theorem d_Mo_goodTemplate_65 : decode c_Mo_goodTemplate 65 = .ok (.iload 4, 2) := by decide +kernel
theorem d_Mo_goodTemplate_67 : decode c_Mo_goodTemplate 67 = .ok (.ifCond .le 9, 3) := by decide +kernel
theorem d_Mo_goodTemplate_70 : decode c_Mo_goodTemplate 70 = .ok (.iload_n 2, 1) := by decide +kernel
theorem d_Mo_goodTemplate_71 : decode c_Mo_goodTemplate 71 = .ok (.iconst 1, 1) := by decide +kernel
theorem d_Mo_goodTemplate_72 : decode c_Mo_goodTemplate 72 = .ok (.iadd, 1) := by decide +kernel
theorem d_Mo_goodTemplate_73 : decode c_Mo_goodTemplate 73 = .ok (.goto 4, 3) := by decide +kernel
theorem d_Mo_goodTemplate_76 : decode c_Mo_goodTemplate 76 = .ok (.iload_n 2, 1) := by decide +kernel
theorem d_Mo_goodTemplate_77 : decode c_Mo_goodTemplate 77 = .ok (.istore_n 2, 1) := by decide +kernel
theorem d_Mo_goodTemplate_78 : decode c_Mo_goodTemplate 78 = .ok (.iload 4, 2) := by decide +kernel
theorem d_Mo_goodTemplate_80 : decode c_Mo_goodTemplate 80 = .ok (.ifCond .ne 9, 3) := by decide +kernel
theorem d_Mo_goodTemplate_83 : decode c_Mo_goodTemplate 83 = .ok (.iload_n 3, 1) := by decide +kernel
theorem d_Mo_goodTemplate_84 : decode c_Mo_goodTemplate 84 = .ok (.iconst 1, 1) := by decide +kernel
theorem d_Mo_goodTemplate_85 : decode c_Mo_goodTemplate 85 = .ok (.iadd, 1) := by decide +kernel
theorem d_Mo_goodTemplate_86 : decode c_Mo_goodTemplate 86 = .ok (.goto 18, 3) := by decide +kernel
theorem d_Mo_goodTemplate_89 : decode c_Mo_goodTemplate 89 = .ok (.iload 4, 2) := by decide +kernel
theorem d_Mo_goodTemplate_91 : decode c_Mo_goodTemplate 91 = .ok (.iconst 1, 1) := by decide +kernel
theorem d_Mo_goodTemplate_92 : decode c_Mo_goodTemplate 92 = .ok (.if_icmp .ne 9, 3) := by decide +kernel
theorem d_Mo_goodTemplate_95 : decode c_Mo_goodTemplate 95 = .ok (.iload_n 3, 1) := by decide +kernel
theorem d_Mo_goodTemplate_96 : decode c_Mo_goodTemplate 96 = .ok (.iconst 2, 1) := by decide +kernel
theorem d_Mo_goodTemplate_97 : decode c_Mo_goodTemplate 97 = .ok (.iadd, 1) := by decide +kernel
theorem d_Mo_goodTemplate_98 : decode c_Mo_goodTemplate 98 = .ok (.goto 6, 3) := by decide +kernel
theorem d_Mo_goodTemplate_101 : decode c_Mo_goodTemplate 101 = .ok (.iload_n 3, 1) := by decide +kernel
theorem d_Mo_goodTemplate_102 : decode c_Mo_goodTemplate 102 = .ok (.iconst 3, 1) := by decide +kernel
theorem d_Mo_goodTemplate_103 : decode c_Mo_goodTemplate 103 = .ok (.iadd, 1) := by decide +kernel
theorem d_Mo_goodTemplate_104 : decode c_Mo_goodTemplate 104 = .ok (.istore_n 3, 1) := by decide +kernel
theorem d_Mo_goodTemplate_105 : decode c_Mo_goodTemplate 105 = .ok (.iinc 1 1, 3) := by decide +kernel
theorem d_Mo_goodTemplate_108 : decode c_Mo_goodTemplate 108 = .ok (.goto (-102), 3) := by decide +kernel
theorem d_Mo_goodTemplate_111 : decode c_Mo_goodTemplate 111 = .ok (.iload_n 1, 1) := by decide +kernel
theorem d_Mo_goodTemplate_112 : decode c_Mo_goodTemplate 112 = .ok (.iconst 2, 1) := by decide +kernel
theorem d_Mo_goodTemplate_113 : decode c_Mo_goodTemplate 113 = .ok (.if_icmp .lt 39, 3) := by decide +kernel
theorem d_Mo_goodTemplate_116 : decode c_Mo_goodTemplate 116 = .ok (.iload_n 2, 1) := by decide +kernel
theorem d_Mo_goodTemplate_117 : decode c_Mo_goodTemplate 117 = .ok (.iconst 4, 1) := by decide +kernel
theorem d_Mo_goodTemplate_118 : decode c_Mo_goodTemplate 118 = .ok (.if_icmp .gt 34, 3) := by decide +kernel
theorem d_Mo_goodTemplate_121 : decode c_Mo_goodTemplate 121 = .ok (.aload_n 0, 1) := by decide +kernel
theorem d_Mo_goodTemplate_122 : decode c_Mo_goodTemplate 122 = .ok (.getfield 7, 3) := by decide +kernel
theorem d_Mo_goodTemplate_125 : decode c_Mo_goodTemplate 125 = .ok (.iconst 0, 1) := by decide +kernel
theorem d_Mo_goodTemplate_126 : decode c_Mo_goodTemplate 126 = .ok (.caload, 1) := by decide +kernel
theorem d_Mo_goodTemplate_127 : decode c_Mo_goodTemplate 127 = .ok (.bipush 47, 2) := by decide +kernel
theorem d_Mo_goodTemplate_129 : decode c_Mo_goodTemplate 129 = .ok (.if_icmp .ne 23, 3) := by decide +kernel
theorem d_Mo_goodTemplate_132 : decode c_Mo_goodTemplate 132 = .ok (.aload_n 0, 1) := by decide +kernel
theorem d_Mo_goodTemplate_133 : decode c_Mo_goodTemplate 133 = .ok (.getfield 7, 3) := by decide +kernel
theorem d_Mo_goodTemplate_136 : decode c_Mo_goodTemplate 136 = .ok (.aload_n 0, 1) := by decide +kernel
theorem d_Mo_goodTemplate_137 : decode c_Mo_goodTemplate 137 = .ok (.getfield 118, 3) := by decide +kernel
theorem d_Mo_goodTemplate_140 : decode c_Mo_goodTemplate 140 = .ok (.iconst 1, 1) := by decide +kernel
theorem d_Mo_goodTemplate_141 : decode c_Mo_goodTemplate 141 = .ok (.isub, 1) := by decide +kernel
theorem d_Mo_goodTemplate_142 : decode c_Mo_goodTemplate 142 = .ok (.caload, 1) := by decide +kernel
theorem d_Mo_goodTemplate_143 : decode c_Mo_goodTemplate 143 = .ok (.bipush 47, 2) := by decide +kernel
theorem d_Mo_goodTemplate_145 : decode c_Mo_goodTemplate 145 = .ok (.if_icmp .eq 7, 3) := by decide +kernel
theorem d_Mo_goodTemplate_148 : decode c_Mo_goodTemplate 148 = .ok (.iconst 1, 1) := by decide +kernel
theorem d_Mo_goodTemplate_149 : decode c_Mo_goodTemplate 149 = .ok (.goto 4, 3) := by decide +kernel
theorem d_Mo_goodTemplate_152 : decode c_Mo_goodTemplate 152 = .ok (.iconst 0, 1) := by decide +kernel
theorem d_Mo_goodTemplate_153 : decode c_Mo_goodTemplate 153 = .ok (.ireturn, 1) := by decide +kernel
set_option maxHeartbeats 4000000 in
set_option maxRecDepth 100000 in
theorem sn_Mo_goodTemplate_104 {l : Launch} {Γ : gk_G} {p : Program} {e : Env} {s : State} {m : MethodId} {args : Array Value} {below : List Frame} {meth : Method} {c : Code} (B : gk_B p s m args meth c gk_Y Γ c_Mo_goodTemplate 5 "StageDispatcherModel") (hr : meth.sig.returnType = (some .boolean)) {ρ : Int32 × gk_M} {k6 : Option Nat → Int32 → Int32 → Int32 → gk_M → Option (Int32 × gk_M)} (H6 : ∀ (a0 : Option Nat) (x1 : Int32) (x2 : Int32) (x3 : Int32) (M : gk_M), k6 a0 x1 x2 x3 M = some ρ → Gk p l e rm_Mo_goodTemplate s m args below meth c gk_Y Γ 5 (MQ below (gk_Q gk_Y Γ (some (.int ρ.1)) ρ.2) args s rm_Mo_goodTemplate.cells rm_Mo_goodTemplate.slots (fun q => Γ.2.2 ≤ q)) 0 0 M 6 [some (va_rf a0), some (.int x1), some (.int x2), some (.int x3), none] []) {a0 : Option Nat} {x1 : Int32} {x2 : Int32} {s0 : Int32} {M : gk_M} (h : fn_Mo_goodTemplate_104 k6 a0 x1 x2 s0 M = some ρ) : Gk p l e rm_Mo_goodTemplate s m args below meth c gk_Y Γ 5 (MQ below (gk_Q gk_Y Γ (some (.int ρ.1)) ρ.2) args s rm_Mo_goodTemplate.cells rm_Mo_goodTemplate.slots (fun q => Γ.2.2 ≤ q)) 0 0 M 104 [some (va_rf a0), some (.int x1), some (.int x2), none, none] [.int s0] := by
  unfold fn_Mo_goodTemplate_104 at h
  refine Gk_istore_n (i := 3) (L' := [some (va_rf a0), some (.int x1), some (.int x2), some (.int s0), none]) B d_Mo_goodTemplate_104 rfl (by decide) (gk_c1_i rfl) rfl ?_
  refine Gk_iinc (x := x1) (v := (x1 + 1)) (L' := [some (va_rf a0), some (.int (x1 + 1)), some (.int x2), some (.int s0), none]) B d_Mo_goodTemplate_105 rfl (congrArg (fun z => x1 + z) (by decide : Int32.ofInt 1 = 1)) (by decide) (gk_c1_r rfl) rfl ?_
  refine Gk_goto (tgt := 6) B d_Mo_goodTemplate_108 rfl ?_
  exact H6 a0 (x1 + 1) x2 s0 M h
set_option maxHeartbeats 4000000 in
set_option maxRecDepth 100000 in
theorem sn_Mo_goodTemplate_77 {l : Launch} {Γ : gk_G} {p : Program} {e : Env} {s : State} {m : MethodId} {args : Array Value} {below : List Frame} {meth : Method} {c : Code} (B : gk_B p s m args meth c gk_Y Γ c_Mo_goodTemplate 5 "StageDispatcherModel") (hr : meth.sig.returnType = (some .boolean)) {ρ : Int32 × gk_M} {k6 : Option Nat → Int32 → Int32 → Int32 → gk_M → Option (Int32 × gk_M)} (H6 : ∀ (a0 : Option Nat) (x1 : Int32) (x2 : Int32) (x3 : Int32) (M : gk_M), k6 a0 x1 x2 x3 M = some ρ → Gk p l e rm_Mo_goodTemplate s m args below meth c gk_Y Γ 5 (MQ below (gk_Q gk_Y Γ (some (.int ρ.1)) ρ.2) args s rm_Mo_goodTemplate.cells rm_Mo_goodTemplate.slots (fun q => Γ.2.2 ≤ q)) 0 0 M 6 [some (va_rf a0), some (.int x1), some (.int x2), some (.int x3), none] []) {a0 : Option Nat} {x1 : Int32} {x3 : Int32} {x4 : Int32} {s0 : Int32} {M : gk_M} (h : fn_Mo_goodTemplate_77 k6 a0 x1 x3 x4 s0 M = some ρ) : Gk p l e rm_Mo_goodTemplate s m args below meth c gk_Y Γ 5 (MQ below (gk_Q gk_Y Γ (some (.int ρ.1)) ρ.2) args s rm_Mo_goodTemplate.cells rm_Mo_goodTemplate.slots (fun q => Γ.2.2 ≤ q)) 0 0 M 77 [some (va_rf a0), some (.int x1), none, some (.int x3), some (.int x4)] [.int s0] := by
  unfold fn_Mo_goodTemplate_77 at h
  refine Gk_istore_n (i := 2) (L' := [some (va_rf a0), some (.int x1), some (.int s0), some (.int x3), some (.int x4)]) B d_Mo_goodTemplate_77 rfl (by decide) (gk_c1_i rfl) rfl ?_
  refine Gk_iload (x := x4) B d_Mo_goodTemplate_78 rfl ?_
  refine Gk_if_ne (tgt := 89) B d_Mo_goodTemplate_80 rfl (fun c80 => ?_) (fun c80 => ?_)
  · rw [if_neg c80] at h
    refine Gk_iload (x := x4) B d_Mo_goodTemplate_89 rfl ?_
    refine Gk_iconst (v := 1) B d_Mo_goodTemplate_91 (by decide) ?_
    refine Gk_icmp_ne (tgt := 101) B d_Mo_goodTemplate_92 rfl (fun c92 => ?_) (fun c92 => ?_)
    · rw [if_neg c92] at h
      refine Gk_iload_n (i := 3) (x := x3) B d_Mo_goodTemplate_101 rfl rfl ?_
      refine Gk_iconst (v := 3) B d_Mo_goodTemplate_102 (by decide) ?_
      refine Gk_iadd B d_Mo_goodTemplate_103 ?_
      refine Gk_weak [true, true, true, false, false] (L' := [some (va_rf a0), some (.int x1), some (.int s0), none, none]) rfl ?_
      exact sn_Mo_goodTemplate_104 B hr H6 h
    rw [if_pos c92] at h
    refine Gk_iload_n (i := 3) (x := x3) B d_Mo_goodTemplate_95 rfl rfl ?_
    refine Gk_iconst (v := 2) B d_Mo_goodTemplate_96 (by decide) ?_
    refine Gk_iadd B d_Mo_goodTemplate_97 ?_
    refine Gk_goto (tgt := 104) B d_Mo_goodTemplate_98 rfl ?_
    refine Gk_weak [true, true, true, false, false] (L' := [some (va_rf a0), some (.int x1), some (.int s0), none, none]) rfl ?_
    exact sn_Mo_goodTemplate_104 B hr H6 h
  rw [if_pos c80] at h
  refine Gk_iload_n (i := 3) (x := x3) B d_Mo_goodTemplate_83 rfl rfl ?_
  refine Gk_iconst (v := 1) B d_Mo_goodTemplate_84 (by decide) ?_
  refine Gk_iadd B d_Mo_goodTemplate_85 ?_
  refine Gk_goto (tgt := 104) B d_Mo_goodTemplate_86 rfl ?_
  refine Gk_weak [true, true, true, false, false] (L' := [some (va_rf a0), some (.int x1), some (.int s0), none, none]) rfl ?_
  exact sn_Mo_goodTemplate_104 B hr H6 h
set_option maxHeartbeats 4000000 in
set_option maxRecDepth 100000 in
theorem sn_Mo_goodTemplate_65 {l : Launch} {Γ : gk_G} {p : Program} {e : Env} {s : State} {m : MethodId} {args : Array Value} {below : List Frame} {meth : Method} {c : Code} (B : gk_B p s m args meth c gk_Y Γ c_Mo_goodTemplate 5 "StageDispatcherModel") (hr : meth.sig.returnType = (some .boolean)) {ρ : Int32 × gk_M} {k6 : Option Nat → Int32 → Int32 → Int32 → gk_M → Option (Int32 × gk_M)} (H6 : ∀ (a0 : Option Nat) (x1 : Int32) (x2 : Int32) (x3 : Int32) (M : gk_M), k6 a0 x1 x2 x3 M = some ρ → Gk p l e rm_Mo_goodTemplate s m args below meth c gk_Y Γ 5 (MQ below (gk_Q gk_Y Γ (some (.int ρ.1)) ρ.2) args s rm_Mo_goodTemplate.cells rm_Mo_goodTemplate.slots (fun q => Γ.2.2 ≤ q)) 0 0 M 6 [some (va_rf a0), some (.int x1), some (.int x2), some (.int x3), none] []) {a0 : Option Nat} {x1 : Int32} {x2 : Int32} {x3 : Int32} {x4 : Int32} {M : gk_M} (h : fn_Mo_goodTemplate_65 k6 a0 x1 x2 x3 x4 M = some ρ) : Gk p l e rm_Mo_goodTemplate s m args below meth c gk_Y Γ 5 (MQ below (gk_Q gk_Y Γ (some (.int ρ.1)) ρ.2) args s rm_Mo_goodTemplate.cells rm_Mo_goodTemplate.slots (fun q => Γ.2.2 ≤ q)) 0 0 M 65 [some (va_rf a0), some (.int x1), some (.int x2), some (.int x3), some (.int x4)] [] := by
  unfold fn_Mo_goodTemplate_65 at h
  refine Gk_iload (x := x4) B d_Mo_goodTemplate_65 rfl ?_
  refine Gk_if_le (tgt := 76) B d_Mo_goodTemplate_67 rfl (fun c67 => ?_) (fun c67 => ?_)
  · rw [if_pos c67] at h
    refine Gk_iload_n (i := 2) (x := x2) B d_Mo_goodTemplate_76 rfl rfl ?_
    refine Gk_weak [true, true, false, true, true] (L' := [some (va_rf a0), some (.int x1), none, some (.int x3), some (.int x4)]) rfl ?_
    exact sn_Mo_goodTemplate_77 B hr H6 h
  rw [if_neg c67] at h
  refine Gk_iload_n (i := 2) (x := x2) B d_Mo_goodTemplate_70 rfl rfl ?_
  refine Gk_iconst (v := 1) B d_Mo_goodTemplate_71 (by decide) ?_
  refine Gk_iadd B d_Mo_goodTemplate_72 ?_
  refine Gk_goto (tgt := 77) B d_Mo_goodTemplate_73 rfl ?_
  refine Gk_weak [true, true, false, true, true] (L' := [some (va_rf a0), some (.int x1), none, some (.int x3), some (.int x4)]) rfl ?_
  exact sn_Mo_goodTemplate_77 B hr H6 h
set_option maxHeartbeats 4000000 in
set_option maxRecDepth 100000 in
theorem sn_Mo_goodTemplate_34 {l : Launch} {Γ : gk_G} {p : Program} {e : Env} {s : State} {m : MethodId} {args : Array Value} {below : List Frame} {meth : Method} {c : Code} (B : gk_B p s m args meth c gk_Y Γ c_Mo_goodTemplate 5 "StageDispatcherModel") (hr : meth.sig.returnType = (some .boolean)) {ρ : Int32 × gk_M} {k6 : Option Nat → Int32 → Int32 → Int32 → gk_M → Option (Int32 × gk_M)} (H6 : ∀ (a0 : Option Nat) (x1 : Int32) (x2 : Int32) (x3 : Int32) (M : gk_M), k6 a0 x1 x2 x3 M = some ρ → Gk p l e rm_Mo_goodTemplate s m args below meth c gk_Y Γ 5 (MQ below (gk_Q gk_Y Γ (some (.int ρ.1)) ρ.2) args s rm_Mo_goodTemplate.cells rm_Mo_goodTemplate.slots (fun q => Γ.2.2 ≤ q)) 0 0 M 6 [some (va_rf a0), some (.int x1), some (.int x2), some (.int x3), none] []) {a0 : Option Nat} {x1 : Int32} {x2 : Int32} {x3 : Int32} {s0 : Int32} {M : gk_M} (h : fn_Mo_goodTemplate_34 k6 a0 x1 x2 x3 s0 M = some ρ) : Gk p l e rm_Mo_goodTemplate s m args below meth c gk_Y Γ 5 (MQ below (gk_Q gk_Y Γ (some (.int ρ.1)) ρ.2) args s rm_Mo_goodTemplate.cells rm_Mo_goodTemplate.slots (fun q => Γ.2.2 ≤ q)) 0 0 M 34 [some (va_rf a0), some (.int x1), some (.int x2), some (.int x3), none] [.int s0] := by
  unfold fn_Mo_goodTemplate_34 at h
  refine Gk_istore (L' := [some (va_rf a0), some (.int x1), some (.int x2), some (.int x3), some (.int s0)]) B d_Mo_goodTemplate_34 (by decide) (gk_c1_i rfl) rfl ?_
  refine Gk_aload_n (i := 0) (r := a0) B d_Mo_goodTemplate_36 rfl rfl ?_
  obtain ⟨v37, h37, h⟩ := gk_bind h
  refine Gk_getR (j := 0) B d_Mo_goodTemplate_37 in_Mo cl_Mo (by decide) tw_755 rfl h37 ?_
  refine Gk_iload_n (i := 3) (x := x3) B d_Mo_goodTemplate_40 rfl rfl ?_
  obtain ⟨v41, h41, h⟩ := gk_bind h
  refine Gk_caload B d_Mo_goodTemplate_41 ty_1 h41 ?_
  refine Gk_bipush (v := 125) B d_Mo_goodTemplate_42 (by decide) ?_
  refine Gk_icmp_eq (tgt := 63) B d_Mo_goodTemplate_44 rfl (fun c44 => ?_) (fun c44 => ?_)
  · rw [if_pos c44] at h
    refine Gk_iconst (v := 0) B d_Mo_goodTemplate_63 (by decide) ?_
    obtain ⟨z, hz, h⟩ := gk_bind h
    obtain ⟨hz1, hz2⟩ := gk_z_eq hz
    cases h
    subst hz1
    exact Gk_iret B hr d_Mo_goodTemplate_64 (gk_nz hz2) (by decide) (by decide) rfl
  rw [if_neg c44] at h
  refine Gk_aload_n (i := 0) (r := a0) B d_Mo_goodTemplate_47 rfl rfl ?_
  obtain ⟨v48, h48, h⟩ := gk_bind h
  refine Gk_getR (j := 0) B d_Mo_goodTemplate_48 in_Mo cl_Mo (by decide) tw_755 rfl h48 ?_
  refine Gk_iload_n (i := 3) (x := x3) B d_Mo_goodTemplate_51 rfl rfl ?_
  obtain ⟨v52, h52, h⟩ := gk_bind h
  refine Gk_caload B d_Mo_goodTemplate_52 ty_1 h52 ?_
  refine Gk_bipush (v := 123) B d_Mo_goodTemplate_53 (by decide) ?_
  refine Gk_icmp_ne (tgt := 65) B d_Mo_goodTemplate_55 rfl (fun c55 => ?_) (fun c55 => ?_)
  · rw [if_neg c55] at h
    exact sn_Mo_goodTemplate_65 B hr H6 h
  rw [if_pos c55] at h
  refine Gk_iload (x := s0) B d_Mo_goodTemplate_58 rfl ?_
  refine Gk_if_ne (tgt := 65) B d_Mo_goodTemplate_60 rfl (fun c60 => ?_) (fun c60 => ?_)
  · rw [if_neg c60] at h
    exact sn_Mo_goodTemplate_65 B hr H6 h
  rw [if_pos c60] at h
  refine Gk_iconst (v := 0) B d_Mo_goodTemplate_63 (by decide) ?_
  obtain ⟨z, hz, h⟩ := gk_bind h
  obtain ⟨hz1, hz2⟩ := gk_z_eq hz
  cases h
  subst hz1
  exact Gk_iret B hr d_Mo_goodTemplate_64 (gk_nz hz2) (by decide) (by decide) rfl
set_option maxHeartbeats 4000000 in
set_option maxRecDepth 100000 in
theorem sn_Mo_goodTemplate_152 {l : Launch} {Γ : gk_G} {p : Program} {e : Env} {s : State} {m : MethodId} {args : Array Value} {below : List Frame} {meth : Method} {c : Code} (B : gk_B p s m args meth c gk_Y Γ c_Mo_goodTemplate 5 "StageDispatcherModel") (hr : meth.sig.returnType = (some .boolean)) {ρ : Int32 × gk_M}    {M : gk_M} (h : fn_Mo_goodTemplate_152   M = some ρ) : Gk p l e rm_Mo_goodTemplate s m args below meth c gk_Y Γ 5 (MQ below (gk_Q gk_Y Γ (some (.int ρ.1)) ρ.2) args s rm_Mo_goodTemplate.cells rm_Mo_goodTemplate.slots (fun q => Γ.2.2 ≤ q)) 0 0 M 152 [none, none, none, none, none] [] := by
  unfold fn_Mo_goodTemplate_152 at h
  refine Gk_iconst (v := 0) B d_Mo_goodTemplate_152 (by decide) ?_
  obtain ⟨z, hz, h⟩ := gk_bind h
  obtain ⟨hz1, hz2⟩ := gk_z_eq hz
  cases h
  subst hz1
  exact Gk_iret B hr d_Mo_goodTemplate_153 (gk_nz hz2) (by decide) (by decide) rfl
set_option maxHeartbeats 4000000 in
set_option maxRecDepth 100000 in
theorem sn_Mo_goodTemplate_6_bd {l : Launch} {Γ : gk_G} {p : Program} {e : Env} {s : State} {m : MethodId} {args : Array Value} {below : List Frame} {meth : Method} {c : Code} (B : gk_B p s m args meth c gk_Y Γ c_Mo_goodTemplate 5 "StageDispatcherModel") (hr : meth.sig.returnType = (some .boolean)) {ρ : Int32 × gk_M} {k6 : Option Nat → Int32 → Int32 → Int32 → gk_M → Option (Int32 × gk_M)} (H6 : ∀ (a0 : Option Nat) (x1 : Int32) (x2 : Int32) (x3 : Int32) (M : gk_M), k6 a0 x1 x2 x3 M = some ρ → Gk p l e rm_Mo_goodTemplate s m args below meth c gk_Y Γ 5 (MQ below (gk_Q gk_Y Γ (some (.int ρ.1)) ρ.2) args s rm_Mo_goodTemplate.cells rm_Mo_goodTemplate.slots (fun q => Γ.2.2 ≤ q)) 0 0 M 6 [some (va_rf a0), some (.int x1), some (.int x2), some (.int x3), none] []) {a0 : Option Nat} {x1 : Int32} {x2 : Int32} {x3 : Int32} {M : gk_M} (h : fn_Mo_goodTemplate_6_bd k6 a0 x1 x2 x3 M = some ρ) : Gk p l e rm_Mo_goodTemplate s m args below meth c gk_Y Γ 5 (MQ below (gk_Q gk_Y Γ (some (.int ρ.1)) ρ.2) args s rm_Mo_goodTemplate.cells rm_Mo_goodTemplate.slots (fun q => Γ.2.2 ≤ q)) 0 0 M 6 [some (va_rf a0), some (.int x1), some (.int x2), some (.int x3), none] [] := by
  unfold fn_Mo_goodTemplate_6_bd at h
  refine Gk_iload_n (i := 3) (x := x3) B d_Mo_goodTemplate_6 rfl rfl ?_
  refine Gk_aload_n (i := 0) (r := a0) B d_Mo_goodTemplate_7 rfl rfl ?_
  obtain ⟨v8, h8, h⟩ := gk_bind h
  refine Gk_getI (j := 1) B d_Mo_goodTemplate_8 in_Mo cl_Mo (by decide) tw_756 rfl h8 ?_
  refine Gk_icmp_ge (tgt := 111) B d_Mo_goodTemplate_11 rfl (fun c11 => ?_) (fun c11 => ?_)
  · rw [if_pos c11] at h
    refine Gk_iload_n (i := 1) (x := x1) B d_Mo_goodTemplate_111 rfl rfl ?_
    refine Gk_iconst (v := 2) B d_Mo_goodTemplate_112 (by decide) ?_
    refine Gk_icmp_lt (tgt := 152) B d_Mo_goodTemplate_113 rfl (fun c113 => ?_) (fun c113 => ?_)
    · rw [if_pos c113] at h
      refine Gk_weak [false, false, false, false, false] (L' := [none, none, none, none, none]) rfl ?_
      exact sn_Mo_goodTemplate_152 B hr h
    rw [if_neg c113] at h
    refine Gk_iload_n (i := 2) (x := x2) B d_Mo_goodTemplate_116 rfl rfl ?_
    refine Gk_iconst (v := 4) B d_Mo_goodTemplate_117 (by decide) ?_
    refine Gk_icmp_gt (tgt := 152) B d_Mo_goodTemplate_118 rfl (fun c118 => ?_) (fun c118 => ?_)
    · rw [if_pos c118] at h
      refine Gk_weak [false, false, false, false, false] (L' := [none, none, none, none, none]) rfl ?_
      exact sn_Mo_goodTemplate_152 B hr h
    rw [if_neg c118] at h
    refine Gk_aload_n (i := 0) (r := a0) B d_Mo_goodTemplate_121 rfl rfl ?_
    obtain ⟨v122, h122, h⟩ := gk_bind h
    refine Gk_getR (j := 0) B d_Mo_goodTemplate_122 in_Mo cl_Mo (by decide) tw_755 rfl h122 ?_
    refine Gk_iconst (v := 0) B d_Mo_goodTemplate_125 (by decide) ?_
    obtain ⟨v126, h126, h⟩ := gk_bind h
    refine Gk_caload B d_Mo_goodTemplate_126 ty_1 h126 ?_
    refine Gk_bipush (v := 47) B d_Mo_goodTemplate_127 (by decide) ?_
    refine Gk_icmp_ne (tgt := 152) B d_Mo_goodTemplate_129 rfl (fun c129 => ?_) (fun c129 => ?_)
    · rw [if_neg c129] at h
      refine Gk_weak [false, false, false, false, false] (L' := [none, none, none, none, none]) rfl ?_
      exact sn_Mo_goodTemplate_152 B hr h
    rw [if_pos c129] at h
    refine Gk_aload_n (i := 0) (r := a0) B d_Mo_goodTemplate_132 rfl rfl ?_
    obtain ⟨v133, h133, h⟩ := gk_bind h
    refine Gk_getR (j := 0) B d_Mo_goodTemplate_133 in_Mo cl_Mo (by decide) tw_755 rfl h133 ?_
    refine Gk_aload_n (i := 0) (r := a0) B d_Mo_goodTemplate_136 rfl rfl ?_
    obtain ⟨v137, h137, h⟩ := gk_bind h
    refine Gk_getI (j := 1) B d_Mo_goodTemplate_137 in_Mo cl_Mo (by decide) tw_756 rfl h137 ?_
    refine Gk_iconst (v := 1) B d_Mo_goodTemplate_140 (by decide) ?_
    refine Gk_isub B d_Mo_goodTemplate_141 ?_
    obtain ⟨v142, h142, h⟩ := gk_bind h
    refine Gk_caload B d_Mo_goodTemplate_142 ty_1 h142 ?_
    refine Gk_bipush (v := 47) B d_Mo_goodTemplate_143 (by decide) ?_
    refine Gk_icmp_eq (tgt := 152) B d_Mo_goodTemplate_145 rfl (fun c145 => ?_) (fun c145 => ?_)
    · rw [if_pos c145] at h
      refine Gk_weak [false, false, false, false, false] (L' := [none, none, none, none, none]) rfl ?_
      exact sn_Mo_goodTemplate_152 B hr h
    rw [if_neg c145] at h
    refine Gk_iconst (v := 1) B d_Mo_goodTemplate_148 (by decide) ?_
    refine Gk_goto (tgt := 153) B d_Mo_goodTemplate_149 rfl ?_
    obtain ⟨z, hz, h⟩ := gk_bind h
    obtain ⟨hz1, hz2⟩ := gk_z_eq hz
    cases h
    subst hz1
    exact Gk_iret B hr d_Mo_goodTemplate_153 (gk_nz hz2) (by decide) (by decide) rfl
  rw [if_neg c11] at h
  refine Gk_aload_n (i := 0) (r := a0) B d_Mo_goodTemplate_14 rfl rfl ?_
  obtain ⟨v15, h15, h⟩ := gk_bind h
  refine Gk_getR (j := 0) B d_Mo_goodTemplate_15 in_Mo cl_Mo (by decide) tw_755 rfl h15 ?_
  refine Gk_iload_n (i := 3) (x := x3) B d_Mo_goodTemplate_18 rfl rfl ?_
  obtain ⟨v19, h19, h⟩ := gk_bind h
  refine Gk_caload B d_Mo_goodTemplate_19 ty_1 h19 ?_
  refine Gk_bipush (v := 123) B d_Mo_goodTemplate_20 (by decide) ?_
  refine Gk_icmp_ne (tgt := 33) B d_Mo_goodTemplate_22 rfl (fun c22 => ?_) (fun c22 => ?_)
  · rw [if_neg c22] at h
    refine Gk_iconst (v := 0) B d_Mo_goodTemplate_33 (by decide) ?_
    exact sn_Mo_goodTemplate_34 B hr H6 h
  rw [if_pos c22] at h
  refine Gk_aload_n (i := 0) (r := a0) B d_Mo_goodTemplate_25 rfl rfl ?_
  refine Gk_iload_n (i := 3) (x := x3) B d_Mo_goodTemplate_26 rfl rfl ?_
  obtain ⟨o27, g27, h⟩ := gk_bind h
  obtain ⟨w27, h27, h⟩ := gk_bind h
  refine Gk_callV (As := [.int x3]) (rest := []) (st1 := [.int w27.1]) (k1 := 0) (n1 := 0) B gk_hG d_Mo_goodTemplate_27 (sn_Mo_groupAt h27) g27 cl_Mo tw_943 tw_940 tw_942 tw_14 tw_48 nm_Mo_groupAt rfl (by decide) ⟨by decide, by decide⟩ ⟨by decide, by decide⟩ rfl rfl rfl rfl ?_
  refine Gk_goto (tgt := 34) B d_Mo_goodTemplate_30 rfl ?_
  exact sn_Mo_goodTemplate_34 B hr H6 h
set_option maxHeartbeats 4000000 in
set_option maxRecDepth 100000 in
theorem sn_Mo_goodTemplate_6 {l : Launch} {Γ : gk_G} {p : Program} {e : Env} {s : State} {m : MethodId} {args : Array Value} {below : List Frame} {meth : Method} {c : Code} (B : gk_B p s m args meth c gk_Y Γ c_Mo_goodTemplate 5 "StageDispatcherModel") (hr : meth.sig.returnType = (some .boolean)) {ρ : Int32 × gk_M}   {a0 : Option Nat} {x1 : Int32} {x2 : Int32} {x3 : Int32} {M : gk_M} (h : fn_Mo_goodTemplate_6  a0 x1 x2 x3 M = some ρ) : Gk p l e rm_Mo_goodTemplate s m args below meth c gk_Y Γ 5 (MQ below (gk_Q gk_Y Γ (some (.int ρ.1)) ρ.2) args s rm_Mo_goodTemplate.cells rm_Mo_goodTemplate.slots (fun q => Γ.2.2 ≤ q)) 0 0 M 6 [some (va_rf a0), some (.int x1), some (.int x2), some (.int x3), none] [] := by
  unfold fn_Mo_goodTemplate_6 at h
  exact gk_loop_sound (α := Option Nat × Int32 × Int32 × Int32 × gk_M) (P := fun a => Gk p l e rm_Mo_goodTemplate s m args below meth c gk_Y Γ 5 (MQ below (gk_Q gk_Y Γ (some (.int ρ.1)) ρ.2) args s rm_Mo_goodTemplate.cells rm_Mo_goodTemplate.slots (fun q => Γ.2.2 ≤ q)) 0 0 a.2.2.2.2 6 [some (va_rf a.1), some (.int a.2.1), some (.int a.2.2.1), some (.int a.2.2.2.1), none] []) (fun kk a Hk hb => sn_Mo_goodTemplate_6_bd B hr (fun a0 x1 x2 x3 M hh => Hk (a0, x1, x2, x3, M) hh) hb) _ _ h
set_option maxHeartbeats 4000000 in
set_option maxRecDepth 100000 in
theorem sn_Mo_goodTemplate_0 {l : Launch} {Γ : gk_G} {p : Program} {e : Env} {s : State} {m : MethodId} {args : Array Value} {below : List Frame} {meth : Method} {c : Code} (B : gk_B p s m args meth c gk_Y Γ c_Mo_goodTemplate 5 "StageDispatcherModel") (hr : meth.sig.returnType = (some .boolean)) {ρ : Int32 × gk_M}   {a0 : Option Nat} {M : gk_M} (h : fn_Mo_goodTemplate  a0 M = some ρ) : Gk p l e rm_Mo_goodTemplate s m args below meth c gk_Y Γ 5 (MQ below (gk_Q gk_Y Γ (some (.int ρ.1)) ρ.2) args s rm_Mo_goodTemplate.cells rm_Mo_goodTemplate.slots (fun q => Γ.2.2 ≤ q)) 0 0 M 0 [some (va_rf a0), none, none, none, none] [] := by
  unfold fn_Mo_goodTemplate at h
  refine Gk_iconst (v := 0) B d_Mo_goodTemplate_0 (by decide) ?_
  refine Gk_istore_n (i := 1) (L' := [some (va_rf a0), some (.int 0), none, none, none]) B d_Mo_goodTemplate_1 rfl (by decide) (gk_c1_r rfl) rfl ?_
  refine Gk_iconst (v := 0) B d_Mo_goodTemplate_2 (by decide) ?_
  refine Gk_istore_n (i := 2) (L' := [some (va_rf a0), some (.int 0), some (.int 0), none, none]) B d_Mo_goodTemplate_3 rfl (by decide) (gk_c1_i rfl) rfl ?_
  refine Gk_iconst (v := 0) B d_Mo_goodTemplate_4 (by decide) ?_
  refine Gk_istore_n (i := 3) (L' := [some (va_rf a0), some (.int 0), some (.int 0), some (.int 0), none]) B d_Mo_goodTemplate_5 rfl (by decide) (gk_c1_i rfl) rfl ?_
  exact sn_Mo_goodTemplate_6 B hr h
theorem sn_Mo_goodTemplate {l : Launch} {Γ : gk_G} {a0 : Option Nat} {M : gk_M} {ρ : Int32 × gk_M} (h : fn_Mo_goodTemplate a0 M = some ρ) : gk_Met l gk_Y Γ y_Mo_goodTemplate (.code y_Mo_goodTemplate c_Mo_goodTemplate 5 (some .boolean) :: gk_Y.2.2.2) rm_Mo_goodTemplate [va_rf a0] M (some (.int ρ.1)) ρ.2 :=
  gk_start (by decide) (by simp [lg_sl, gk_rc, gk_ic, gk_jc]) [some (va_rf a0), none, none, none, none] (by simp [gk_as, lv_args, gk_rc, gk_ic, gk_jc]) (fun p e s m args below meth c B hr hin => sn_Mo_goodTemplate_0 B hr h)
