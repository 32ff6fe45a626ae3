/-! loops that run to their end, then go on -/
theorem lp_to {α β : Type} {body : (α → Option β) → α → Option β} (I : Nat → α → Prop) (n : Nat) (step : ∀ i a, i < n → I i a → ∃ a', I (i + 1) a' ∧ ∀ kk, body kk a = kk a') : ∀ (k i F : Nat) (a : α), i + k = n → k < F → I i a → ∃ (a' : α) (m : Nat), I n a' ∧ gk_loop body F a = body (gk_loop body m) a'
  | 0, i, F, a, h, hF, hI => by
    obtain ⟨m, rfl⟩ : ∃ m, F = m + 1 := ⟨F - 1, by omega⟩
    have : i = n := by omega
    subst this
    exact ⟨a, m, hI, rfl⟩
  | k + 1, i, F, a, h, hF, hI => by
    obtain ⟨m, rfl⟩ : ∃ m, F = m + 1 := ⟨F - 1, by omega⟩
    obtain ⟨a', hI', hs⟩ := step i a (by omega) hI
    obtain ⟨a'', m', h1, h2⟩ := lp_to I n step k (i + 1) m a' (by omega) (by omega) hI'
    exact ⟨a'', m', h1, by rw [gk_loop_s, hs, h2]⟩
/-- the same, with an early end -/
theorem lp_or {α β : Type} {body : (α → Option β) → α → Option β} (I : Nat → α → Prop) (R : Option β → Prop) (n : Nat) (step : ∀ i a, i < n → I i a → (∃ a', I (i + 1) a' ∧ ∀ kk, body kk a = kk a') ∨ ∃ y, R y ∧ ∀ kk, body kk a = y) : ∀ (k i F : Nat) (a : α), i + k = n → k < F → I i a → R (gk_loop body F a) ∨ ∃ (a' : α) (m : Nat), I n a' ∧ gk_loop body F a = body (gk_loop body m) a'
  | 0, i, F, a, h, hF, hI => by
    obtain ⟨m, rfl⟩ : ∃ m, F = m + 1 := ⟨F - 1, by omega⟩
    have : i = n := by omega
    subst this
    exact Or.inr ⟨a, m, hI, rfl⟩
  | k + 1, i, F, a, h, hF, hI => by
    obtain ⟨m, rfl⟩ : ∃ m, F = m + 1 := ⟨F - 1, by omega⟩
    rcases step i a (by omega) hI with ⟨a', hI', hs⟩ | ⟨y, hy, hs⟩
    · rw [gk_loop_s, hs]
      exact lp_or I R n step k (i + 1) m a' (by omega) (by omega) hI'
    · left
      rw [gk_loop_s, hs]
      exact hy
/-! bits -/
def hl (x : Int32) (e : Nat) : Bool := !decide (((x >>> (nI e &&& 31)) &&& 1) = 0)
theorem cs_holds (x : Int32) (e : Nat) (M : gk_M) : fn_SD_holds x (nI e) M = some (b2 (hl x e), M) := by
  unfold fn_SD_holds hl
  by_cases h : ((x >>> (nI e &&& 31)) &&& 1) = 0
  · simp [h, gk_z, b2]
  · simp [h, gk_z, b2]
theorem hl_lsb (x : Int32) {e : Nat} (he : e < 32) : hl x e = x.toBitVec.getLsbD e := by
  have h1 : ∀ e, e < 32 → (nI e &&& 31).toBitVec.smod 32 = BitVec.ofNat 32 e := by decide +kernel
  have h2 : ((x >>> (nI e &&& 31)) &&& 1).toBitVec = (x.toBitVec.sshiftRight e) &&& 1#32 := by
    rw [Int32.toBitVec_and, Int32.toBitVec_shiftRight, h1 e he, BitVec.sshiftRight_eq']
    rw [BitVec.toNat_ofNat, Nat.mod_eq_of_lt (by omega)]
    rfl
  have h5 : (x.toBitVec.sshiftRight e).getLsbD 0 = x.toBitVec.getLsbD e := by
    rw [BitVec.getLsbD_sshiftRight]
    simp only [Nat.add_zero, he, if_true]
    rfl
  have h3 : (((x >>> (nI e &&& 31)) &&& 1) = 0) ↔ x.toBitVec.getLsbD e = false := by
    rw [← Int32.toBitVec_inj, h2]
    constructor
    · intro h
      have h4 : ((x.toBitVec.sshiftRight e) &&& 1#32).getLsbD 0 = false := by rw [h]; rfl
      rw [BitVec.getLsbD_and, h5] at h4
      cases hb : x.toBitVec.getLsbD e with
      | false => rfl
      | true => rw [hb] at h4; exact absurd h4 (by decide)
    · intro h
      apply BitVec.eq_of_getLsbD_eq
      intro i hi
      by_cases hi0 : i = 0
      · subst hi0
        rw [BitVec.getLsbD_and, h5, h]; rfl
      · simp [BitVec.getLsbD_one, hi0]
  unfold hl
  cases hb : x.toBitVec.getLsbD e with
  | false => rw [hb] at h3; simp [h3]
  | true => rw [hb] at h3; simp [h3]
theorem hl_0 (e : Nat) (he : e < 32) : hl 0 e = false := by
  rw [hl_lsb _ he]; simp
theorem hl_one {k e : Nat} (hk : k < 32) (he : e < 32) : hl ((1 : Int32) <<< (nI k &&& 31)) e = decide (e = k) := by
  have h : ∀ k, k < 32 → ∀ e, e < 32 → hl ((1 : Int32) <<< (nI k &&& 31)) e = decide (e = k) := by decide +kernel
  exact h k hk e he
theorem hl_or {x y : Int32} {e : Nat} (he : e < 32) : hl (x ||| y) e = (hl x e || hl y e) := by
  rw [hl_lsb _ he, hl_lsb _ he, hl_lsb _ he, Int32.toBitVec_or, BitVec.getLsbD_or]
theorem hl_and {x y : Int32} {e : Nat} (he : e < 32) : hl (x &&& y) e = (hl x e && hl y e) := by
  rw [hl_lsb _ he, hl_lsb _ he, hl_lsb _ he, Int32.toBitVec_and, BitVec.getLsbD_and]
theorem hl_ext {x y : Int32} (h : ∀ e, e < 32 → hl x e = hl y e) : x = y := by
  rw [← Int32.toBitVec_inj]
  apply BitVec.eq_of_getLsbD_eq
  intro i hi
  rw [← hl_lsb _ hi, ← hl_lsb _ hi, h i hi]
/-! where a template fits -/
def qg (q : Nat → Bool) : Nat → Option Nat
  | 0 => if q 0 = true then some 0 else none
  | m + 1 => if q (m + 1) = true then some (m + 1) else qg q m
def oI (r : Option Nat) : Int32 := match r with
  | none => -1
  | some e => nI e
def qo (p c : Int32) : Bool := if p = 1 then !(c == 47) else if p = 2 then wi c 48 57 else if p = 3 then true else c == p
theorem cs_mayHold (p c : Int32) (M : gk_M) : fn_Fit_mayHold p c M = some (b2 (qo p c), M) := by
  unfold fn_Fit_mayHold fn_Fit_mayHold_56 qo
  by_cases h1 : p = 1
  · simp only [h1, if_true]
    by_cases h : c = 47 <;> simp [h, b2, gk_z]
  · by_cases h2 : p = 2
    · simp only [h1, h2, if_true, if_false]
      by_cases h : c < 48
      · have : ¬ (48 : Int32) ≤ c := by rw [i_nle]; exact h
        simp [h, wi, this, b2, gk_z]
      · have h' : (48 : Int32) ≤ c := by rw [← i_nlt]; exact h
        by_cases h5 : 57 < c
        · have : ¬ c ≤ 57 := by rw [i_nle]; exact h5
          simp [h, h5, wi, this, b2, gk_z]
        · have h5' : c ≤ 57 := by rw [← i_nlt]; exact h5
          simp [h, h5, wi, h', h5', b2, gk_z]
    · by_cases h3 : p = 3
      · simp [h3, b2, gk_z]
      · simp only [h1, h2, h3, if_false]
        by_cases h : c = p <;> simp [h, b2, gk_z]
theorem ms_fits (p c : Int32) (M : gk_M) : fn_Mo_fits p c M = some (b2 (qo p c), M) := by
  unfold fn_Mo_fits fn_Mo_fits_44 fn_Mo_fits_48 qo
  by_cases h3 : p = 3
  · simp [h3, b2, gk_z]
  · by_cases h2 : p = 2
    · simp only [h2, if_true]
      by_cases h : c < 48
      · have : ¬ (48 : Int32) ≤ c := by rw [i_nle]; exact h
        simp [h, wi, this, b2, gk_z]
      · have h' : (48 : Int32) ≤ c := by rw [← i_nlt]; exact h
        by_cases h5 : 57 < c
        · have : ¬ c ≤ 57 := by rw [i_nle]; exact h5
          simp [h, h5, wi, this, b2, gk_z]
        · have h5' : c ≤ 57 := by rw [← i_nlt]; exact h5
          simp [h, h5, wi, h', h5', b2, gk_z]
    · by_cases h1 : p = 1
      · simp only [h1, h2, h3, if_true, if_false]
        by_cases h : c = 47 <;> simp [h, b2, gk_z]
      · simp only [h1, h2, h3, if_false]
        by_cases h : c = p <;> simp [h, b2, gk_z]
def ql (n : Nat) (p : Int32) (j : Nat) : Nat := if p ≤ 3 then n else min n (j + 1)
def qr (lim : Nat) (P : Nat → Int32) (p : Int32) : Nat → Nat → Nat
  | 0, e => e
  | m + 1, e => if e < lim ∧ qo p (P e) = true then qr lim P p m (e + 1) else e
def qe (n : Nat) (P : Nat → Int32) (p : Int32) (j : Nat) : Nat := qr (ql n p j) P p n j
def qs (p : Int32) (j : Nat) : Nat := if p = 3 then j else j + 1
def qL (n : Nat) (P : Nat → Int32) (p : Int32) (C : Nat → Bool) (j : Nat) : Option Nat := qg (fun e => decide (qs p j ≤ e) && C e) (qe n P p j)
def qc (n : Nat) (P : Nat → Int32) : List Int32 → Nat → Bool
  | [], j => decide (j = n) || decide (j < n ∧ P j = 47)
  | p :: l, j => (qL n P p (qc n P l) j).isSome
def qw (n : Nat) (P : Nat → Int32) : List Int32 → Nat → List (Nat × Nat) × Nat
  | [], j => ([], j)
  | p :: l, j => ((if p ≤ 3 then [(j, (qL n P p (qc n P l) j).getD 0)] else []) ++ (qw n P l ((qL n P p (qc n P l) j).getD 0)).1, (qw n P l ((qL n P p (qc n P l) j).getD 0)).2)
theorem qr_spec (lim : Nat) (P : Nat → Int32) (p : Int32) : ∀ m e, lim - e ≤ m → e ≤ qr lim P p m e ∧ (∀ i, e ≤ i → i < qr lim P p m e → i < lim ∧ qo p (P i) = true) ∧ ¬ (qr lim P p m e < lim ∧ qo p (P (qr lim P p m e)) = true)
  | 0, e, h => ⟨Nat.le_refl _, fun i h1 h2 => absurd h2 (by simp only [qr]; omega), fun h1 => by have := h1.1; simp only [qr] at this; omega⟩
  | m + 1, e, h => by
    by_cases hc : e < lim ∧ qo p (P e) = true
    · obtain ⟨h1, h2, h3⟩ := qr_spec lim P p m (e + 1) (by omega)
      have hq : qr lim P p (m + 1) e = qr lim P p m (e + 1) := by simp only [qr]; rw [if_pos hc]
      rw [hq]
      refine ⟨by omega, fun i hi hi' => ?_, h3⟩
      by_cases hie : i = e
      · subst hie; exact hc
      · exact h2 i (by omega) hi'
    · have hq : qr lim P p (m + 1) e = e := by simp only [qr]; rw [if_neg hc]
      rw [hq]
      exact ⟨Nat.le_refl _, fun i h1 h2 => absurd h2 (by omega), hc⟩
theorem qe_spec (n : Nat) (P : Nat → Int32) (p : Int32) (j : Nat) : j ≤ qe n P p j ∧ (∀ i, j ≤ i → i < qe n P p j → i < ql n p j ∧ qo p (P i) = true) ∧ ¬ (qe n P p j < ql n p j ∧ qo p (P (qe n P p j)) = true) := by
  apply qr_spec
  unfold ql
  split <;> omega
theorem ql_le (n : Nat) (p : Int32) (j : Nat) : ql n p j ≤ n := by
  unfold ql
  split <;> omega
theorem qe_le {n : Nat} (P : Nat → Int32) (p : Int32) {j : Nat} (h : j ≤ n) : qe n P p j ≤ n := by
  obtain ⟨h1, h2, -⟩ := qe_spec n P p j
  have := ql_le n p j
  by_cases hj : j = qe n P p j
  · omega
  · have := (h2 (qe n P p j - 1) (by omega) (by omega)).1
    omega
theorem qg_some {q : Nat → Bool} : ∀ {m e : Nat}, qg q m = some e → q e = true ∧ e ≤ m
  | 0, e, h => by
    simp only [qg] at h
    split at h
    · rename_i h1; cases h; exact ⟨h1, Nat.le_refl _⟩
    · cases h
  | m + 1, e, h => by
    simp only [qg] at h
    split at h
    · rename_i h1; cases h; exact ⟨h1, Nat.le_refl _⟩
    · obtain ⟨h1, h2⟩ := qg_some h
      exact ⟨h1, by omega⟩
theorem qg_congr {q q' : Nat → Bool} : ∀ {m : Nat}, (∀ e, e ≤ m → q e = q' e) → qg q m = qg q' m
  | 0, h => by simp only [qg, h 0 (Nat.le_refl _)]
  | m + 1, h => by simp only [qg, h (m + 1) (Nat.le_refl _), qg_congr (m := m) (fun e he => h e (by omega))]
theorem qg_none {q : Nat → Bool} : ∀ {m : Nat}, (∀ e, e ≤ m → q e = false) → qg q m = none
  | 0, h => by simp [qg, h 0 (Nat.le_refl _)]
  | m + 1, h => by simp [qg, h (m + 1) (Nat.le_refl _), qg_none (m := m) (fun e he => h e (by omega))]
theorem qL_some {n : Nat} {P : Nat → Int32} {p : Int32} {C : Nat → Bool} {j e : Nat} (hj : j ≤ n) (h : qL n P p C j = some e) : j ≤ e ∧ e ≤ n ∧ C e = true ∧ qs p j ≤ e := by
  obtain ⟨h1, h2⟩ := qg_some h
  simp only [Bool.and_eq_true, decide_eq_true_eq] at h1
  have h3 := qe_le P p hj
  have h4 : j ≤ qs p j := by unfold qs; split <;> omega
  exact ⟨by omega, by omega, h1.2, h1.1⟩
theorem qL_congr {n : Nat} {P : Nat → Int32} {p : Int32} {C C' : Nat → Bool} {j : Nat} (hj : j ≤ n) (h : ∀ e, j ≤ e → e ≤ n → C e = C' e) : qL n P p C j = qL n P p C' j := by
  refine qg_congr fun e he => ?_
  have h3 := qe_le P p hj
  have h4 : j ≤ qs p j := by unfold qs; split <;> omega
  by_cases hs : qs p j ≤ e
  · rw [h e (by omega) (by omega)]
  · simp [hs]
theorem qw_le (n : Nat) (P : Nat → Int32) : ∀ (l : List Int32) (j : Nat), j ≤ n → qc n P l j = true → j ≤ (qw n P l j).2 ∧ (qw n P l j).2 ≤ n ∧ ∀ g ∈ (qw n P l j).1, g.1 ≤ g.2 ∧ g.2 ≤ n
  | [], j, hj, _ => by simp [qw]; exact hj
  | p :: l, j, hj, hc => by
    simp only [qc] at hc
    obtain ⟨e, he⟩ := Option.isSome_iff_exists.mp hc
    obtain ⟨h1, h2, h3, h4⟩ := qL_some hj he
    obtain ⟨h5, h6, h7⟩ := qw_le n P l e h2 h3
    simp only [qw, he, Option.getD_some]
    refine ⟨by omega, h6, fun g hg => ?_⟩
    rw [List.mem_append] at hg
    rcases hg with hg | hg
    · split at hg
      · simp at hg; subst hg; exact ⟨h1, h2⟩
      · simp at hg
    · exact h7 g hg
theorem qw_len (n : Nat) (P : Nat → Int32) : ∀ (l : List Int32) (j : Nat), (qw n P l j).1.length = ngr l
  | [], j => rfl
  | p :: l, j => by
    simp only [qw, List.length_append, qw_len n P l, ngr]
    by_cases h : p ≤ 3 <;> simp [h] <;> omega
theorem oI_neg {r : Option Nat} (h : ∀ e, r = some e → e < 2 ^ 31) : (oI r = -1) = (r = none) := by
  cases r with
  | none => simp [oI]
  | some e =>
    simp only [oI, reduceCtorEq, eq_iff_iff, iff_false]
    intro h1
    have := nI_pos (h e rfl)
    rw [h1] at this
    exact this (by decide)
