/-! a request: what comes of it -/
theorem nd_len : ∀ (n : Nat) (l : List Nat), l.Nodup → (∀ x ∈ l, x < n) → l.length ≤ n
  | 0, l, _, h => by
    cases l with
    | nil => exact Nat.le_refl _
    | cons a l => exact absurd (h a (List.mem_cons_self)) (by omega)
  | n + 1, l, hd, h => by
    by_cases hm : n ∈ l
    · have h1 := nd_len n (l.erase n) (hd.erase n) (fun x hx => by
        have h2 := h x (List.mem_of_mem_erase hx)
        have h3 : x ≠ n := fun e => by
          subst e
          exact (List.Nodup.not_mem_erase hd) hx
        omega)
      rw [List.length_erase_of_mem hm] at h1
      omega
    · have h1 := nd_len n l hd (fun x hx => by
        have h2 := h x hx
        have h3 : x ≠ n := fun e => hm (e ▸ hx)
        omega)
      omega
theorem gF_mem {ρ : Nat → Nat} {E : Nat → Bool} {hd : Int32} {B : Nat → Nat → Int32} : ∀ (k i : Nat) (v : Int32), ∀ f ∈ (gF ρ E hd B k i v).2, ∃ j, i ≤ j ∧ j < i + k ∧ f = ρ j ∧ E f = true
  | 0, _, _, f, hf => by simp only [gF, List.not_mem_nil] at hf
  | k + 1, i, v, f, hf => by
    simp only [gF] at hf
    split at hf
    · simp only [List.not_mem_nil] at hf
    · split at hf
      · rename_i hE
        rw [List.mem_cons] at hf
        rcases hf with rfl | hf
        · exact ⟨i, Nat.le_refl _, by omega, rfl, hE⟩
        · obtain ⟨j, h1, h2, h3⟩ := gF_mem k (i + 1) _ f hf
          exact ⟨j, by omega, by omega, h3⟩
      · obtain ⟨j, h1, h2, h3⟩ := gF_mem k (i + 1) _ f hf
        exact ⟨j, by omega, by omega, h3⟩
theorem gF_nd {n : Nat} {ρ : Nat → Nat} {q : Nat → Int} {E : Nat → Bool} {hd : Int32} {B : Nat → Nat → Int32} (hO : ORD n ρ q) : ∀ (k i : Nat) (v : Int32), i + k ≤ n → (gF ρ E hd B k i v).2.Nodup
  | 0, _, _, _ => by simp only [gF]; exact List.nodup_nil
  | k + 1, i, v, h => by
    simp only [gF]
    split
    · exact List.nodup_nil
    · split
      · refine List.nodup_cons.mpr ⟨fun hm => ?_, gF_nd hO k (i + 1) _ (by omega)⟩
        obtain ⟨j, h1, h2, h3, -⟩ := gF_mem k (i + 1) _ _ hm
        have := hO.inj (show i < n by omega) (show j < n by omega) h3
        omega
      · exact gF_nd hO k (i + 1) _ (by omega)
theorem gE_mem {ρ : Nat → Nat} {E : Nat → Bool} : ∀ (k i : Nat), ∀ f ∈ gE ρ E k i, ∃ j, i ≤ j ∧ j < i + k ∧ f = ρ j ∧ E f = true
  | 0, _, f, hf => by simp only [gE, List.not_mem_nil] at hf
  | k + 1, i, f, hf => by
    simp only [gE] at hf
    split at hf
    · rename_i hE
      rw [List.mem_cons] at hf
      rcases hf with rfl | hf
      · exact ⟨i, Nat.le_refl _, by omega, rfl, hE⟩
      · obtain ⟨j, h1, h2, h3⟩ := gE_mem k (i + 1) f hf
        exact ⟨j, by omega, by omega, h3⟩
    · obtain ⟨j, h1, h2, h3⟩ := gE_mem k (i + 1) f hf
      exact ⟨j, by omega, by omega, h3⟩
theorem gE_nd {n : Nat} {ρ : Nat → Nat} {q : Nat → Int} {E : Nat → Bool} (hO : ORD n ρ q) : ∀ (k i : Nat), i + k ≤ n → (gE ρ E k i).Nodup
  | 0, _, _ => by simp only [gE]; exact List.nodup_nil
  | k + 1, i, h => by
    simp only [gE]
    split
    · refine List.nodup_cons.mpr ⟨fun hm => ?_, gE_nd hO k (i + 1) (by omega)⟩
      obtain ⟨j, h1, h2, h3, -⟩ := gE_mem k (i + 1) _ hm
      have := hO.inj (show i < n by omega) (show j < n by omega) h3
      omega
    · exact gE_nd hO k (i + 1) (by omega)
theorem EF_k {B : Nat → Nat → Int32} {mo : Option Nat} {K f : Nat} (h : EF B mo K f = true) : B 20 f = nI K := by
  unfold EF at h
  rw [Bool.and_eq_true, decide_eq_true_eq] at h
  exact h.1
/-- never more than there are -/
theorem len3 {nf : Nat} {ρ σ : Nat → Nat} {q q' : Nat → Int} {B : Nat → Nat → Int32} (hn : nf ≤ 8) (hO : ORD nf ρ q) (hS : ORD nf σ q') (hd v0 v1 : Int32) (m0 m1 m2 : Option Nat) : (gF ρ (EF B m0 0) hd B nf 0 v0).2.length + (gF ρ (EF B m1 1) hd B nf 0 v1).2.length + (gE σ (EF B m2 2) nf 0).length ≤ 8 := by
  have hx : ∀ a b : Nat, a < 3 → b < 3 → a ≠ b → ¬ nI a = nI b := fun a b ha hb hab e => hab ((nI_eq (by omega) (by omega)).mp e)
  have h0 : ∀ f ∈ (gF ρ (EF B m0 0) hd B nf 0 v0).2, f < nf ∧ B 20 f = nI 0 := fun f hf => by
    obtain ⟨j, -, h2, h3, h4⟩ := gF_mem _ _ _ f hf
    exact ⟨by rw [h3]; exact hO.1 j (by omega), EF_k h4⟩
  have h1 : ∀ f ∈ (gF ρ (EF B m1 1) hd B nf 0 v1).2, f < nf ∧ B 20 f = nI 1 := fun f hf => by
    obtain ⟨j, -, h2, h3, h4⟩ := gF_mem _ _ _ f hf
    exact ⟨by rw [h3]; exact hO.1 j (by omega), EF_k h4⟩
  have h2 : ∀ f ∈ gE σ (EF B m2 2) nf 0, f < nf ∧ B 20 f = nI 2 := fun f hf => by
    obtain ⟨j, -, h2, h3, h4⟩ := gE_mem _ _ f hf
    exact ⟨by rw [h3]; exact hS.1 j (by omega), EF_k h4⟩
  have hnd : ((gF ρ (EF B m0 0) hd B nf 0 v0).2 ++ ((gF ρ (EF B m1 1) hd B nf 0 v1).2 ++ gE σ (EF B m2 2) nf 0)).Nodup := by
    refine List.nodup_append.mpr ⟨gF_nd hO nf 0 v0 (by omega), List.nodup_append.mpr ⟨gF_nd hO nf 0 v1 (by omega), gE_nd hS nf 0 (by omega), fun a ha b hb e => ?_⟩, fun a ha b hb e => ?_⟩
    · subst e
      exact hx 1 2 (by omega) (by omega) (by omega) ((h1 a ha).2.symm.trans (h2 a hb).2)
    · subst e
      rw [List.mem_append] at hb
      rcases hb with hb | hb
      · exact hx 0 1 (by omega) (by omega) (by omega) ((h0 a ha).2.symm.trans (h1 a hb).2)
      · exact hx 0 2 (by omega) (by omega) (by omega) ((h0 a ha).2.symm.trans (h2 a hb).2)
  have := nd_len nf _ hnd (fun x hx => by
    rw [List.mem_append, List.mem_append] at hx
    rcases hx with hx | hx | hx
    · exact (h0 x hx).1
    · exact (h1 x hx).1
    · exact (h2 x hx).1)
  rw [List.length_append, List.length_append] at this
  omega
/-- the status, the method matched, the argument if it was called, the verbs, the type, the parameters, the hops, the filters that ran -/
abbrev RS : Type := Int32 × Option Nat × Option Nat × Int32 × Int32 × List (Nat × Nat) × List Int32 × List Nat
def k5 (nf : Nat) (P : Nat → Int32) (B : Nat → Nat → Int32) (ρ : Nat → Nat) (mp : Nat → Int32) (hd : Int32) (v0 al : Int32) (ps : List (Nat × Nat)) (hs : List Int32) (L0 : List Nat) (m : Nat) (τ : Int32) : RS := if 100 ≤ (gF ρ (EF B (some m) 1) hd B nf 0 v0).1 then ((gF ρ (EF B (some m) 1) hd B nf 0 v0).1, some m, none, al, τ, ps, hs, L0 ++ (gF ρ (EF B (some m) 1) hd B nf 0 v0).2) else (SI mp B m (ag B P ps m), some m, ag B P ps m, al, τ, ps, hs, L0 ++ (gF ρ (EF B (some m) 1) hd B nf 0 v0).2)
def k3 (nf : Nat) (P : Nat → Int32) (B : Nat → Nat → Int32) (ρ : Nat → Nat) (mp : Nat → Int32) (hd : Int32) (v0 al : Int32) (ps : List (Nat × Nat)) (hs : List Int32) (L0 : List Nat) (c : Int32 × Option (Nat × Int32)) : RS := match c.2 with
  | some p => k5 nf P B ρ mp hd v0 al ps hs L0 p.1 p.2
  | none => (if c.1 = -1 then 204 else stt mp c.1 4 c.1.toNatClampNeg, none, none, al, -1, ps, hs, L0)
def k2 (mn nf na : Nat) (P : Nat → Int32) (B : Nat → Nat → Int32) (ρ : Nat → Nat) (ty : Nat → Int32) (qs : Nat → Nat) (mp : Nat → Int32) (hd x2 : Int32) (v0 : Int32) (L0 : List Nat) (r : R2) : RS := match r.1 with
  | none => (stt mp 8 4 8, none, none, 0, -1, r.2.1, r.2.2, L0)
  | some C => k3 nf P B ρ mp hd v0 (md (av B C mn)) r.2.1 r.2.2 L0 (s3 mn na B ty qs C v0 x2)
def k1 (rn mn ln n nf na : Nat) (P : Nat → Int32) (B : Nat → Nat → Int32) (ρ : Nat → Nat) (ty : Nat → Int32) (qs : Nat → Nat) (mp : Nat → Int32) (hd x2 : Int32) (v0 : Int32) (L0 : List Nat) : RS := match bR mn ln n P B rn with
  | none => (stt mp 8 4 8, none, none, 0, -1, [], [], L0)
  | some b => k2 mn nf na P B ρ ty qs mp hd x2 v0 L0 (st2 mn ln n P B 25 (qw n P (tl B b) 0).2 (S1 rn B b) (qw n P (tl B b) 0).1 [])
def k0 (rn mn ln n nf na : Nat) (P : Nat → Int32) (B : Nat → Nat → Int32) (ρ : Nat → Nat) (ty : Nat → Int32) (qs : Nat → Nat) (mp : Nat → Int32) (hd x1 x2 : Int32) : RS := if 100 ≤ (gF ρ (EF B none 0) hd B nf 0 x1).1 then ((gF ρ (EF B none 0) hd B nf 0 x1).1, none, none, 0, -1, [], [], (gF ρ (EF B none 0) hd B nf 0 x1).2) else k1 rn mn ln n nf na P B ρ ty qs mp hd x2 (gF ρ (EF B none 0) hd B nf 0 x1).1 (gF ρ (EF B none 0) hd B nf 0 x1).2
theorem s3_c {rn mn na : Nat} {B : Nat → Nat → Int32} {ty : Nat → Int32} {qs : Nat → Nat} {C : Nat → Bool} {v x : Int32} (hA : AL na ty qs) (hmr : ∀ m, m < mn → mrg rn B m) : (s3 mn na B ty qs C v x = (-1, none)) ∨ (∃ j, 8 < j ∧ j < 12 ∧ s3 mn na B ty qs C v x = (nI j, none)) ∨ ∃ p, p.1 < mn ∧ s3 mn na B ty qs C v x = (0, some p) := by
  unfold s3
  split
  · by_cases h5 : v = 5
    · rw [if_pos h5]; exact Or.inl rfl
    · rw [if_neg h5]; exact Or.inr (Or.inl ⟨9, by omega, by omega, rfl⟩)
  · split
    · exact Or.inr (Or.inl ⟨11, by omega, by omega, rfl⟩)
    · cases hf : fm (vm na ty qs B (fun m => if (!decide (x = 0)) = true then rk (B 8 m) else 0) (c2 B (cV mn B C v) x)) mn with
      | none => exact Or.inr (Or.inl ⟨10, by omega, by omega, rfl⟩)
      | some p =>
        unfold e3
        simp only
        split
        · exact Or.inr (Or.inl ⟨10, by omega, by omega, rfl⟩)
        · obtain ⟨i, i1, i2⟩ := fm_ex hf
          have hR2 : (if (!decide (x = 0)) = true then rk (B 8 i) else 0) ≤ 2 := by
            split
            · exact rk_le _
            · omega
          obtain ⟨-, v0, -⟩ := vm_b (R := fun m => if (!decide (x = 0)) = true then rk (B 8 m) else 0) hA hR2 (qy_of (hmr i i1)).2 i2
          exact Or.inr (Or.inr ⟨_, by show p.2.1 < mn; omega, rfl⟩)
