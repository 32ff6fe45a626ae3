/-! types -/
def TL : List Int32 := [0, 16, 17, 18, 19, 32, 33, 34, 35, 48, 49, 50, 51]
theorem isTy_mem {x : Int32} (h : isTy x = true) : x ∈ TL := by
  have key : ∀ j, j < 52 → isTy (nI j) = true → nI j ∈ TL := by decide +kernel
  by_cases h0 : x = 0
  · subst h0; decide
  · have hw : wi x 16 51 = true := by
      have h' := h
      simp only [isTy, Bool.or_eq_true, Bool.and_eq_true, beq_iff_eq] at h'
      rcases h' with h' | h'
      · exact absurd h' h0
      · exact h'.1
    rw [wi_t] at hw
    have h1 := Int32.le_iff_toInt_le.mp hw.1
    have h2 := Int32.le_iff_toInt_le.mp hw.2
    rw [show (16 : Int32).toInt = 16 by decide] at h1
    rw [show (51 : Int32).toInt = 51 by decide] at h2
    obtain ⟨j, hj, rfl⟩ := nI_of (x := x) (by rw [Int32.lt_iff_toInt_lt, Int32.toInt_zero]; omega)
    rw [nI_toInt hj] at h2
    exact key j (by omega) h
def cv (x y : Int32) : Bool := decide (x = 0) || (decide (x = y) || (decide ((x &&& 15) = 0) && decide ((x >>> ((4 : Int32) &&& 31)) = (y >>> ((4 : Int32) &&& 31)))))
theorem cs_covers (x y : Int32) (M : gk_M) : fn_SD_covers x y M = some (b2 (cv x y), M) := by
  unfold fn_SD_covers fn_SD_covers_25 fn_SD_covers_29 cv
  by_cases h0 : x = 0
  · simp only [if_pos h0, decide_eq_true h0, Bool.true_or, ev_z1, Option.bind_some, b2_t]
  · by_cases h1 : x = y
    · simp only [if_neg h0, if_pos h1, decide_eq_true h1, Bool.true_or, Bool.or_true, ev_z1, Option.bind_some, b2_t]
    · by_cases h2 : (x &&& 15) = 0
      · by_cases h3 : (x >>> ((4 : Int32) &&& 31)) = (y >>> ((4 : Int32) &&& 31))
        · simp only [if_neg h0, if_neg h1, if_pos h2, if_pos h3, decide_eq_true h2, decide_eq_true h3, Bool.and_self, Bool.or_true, ev_z1, Option.bind_some, b2_t]
        · simp only [if_neg h0, if_neg h1, if_pos h2, if_neg h3, decide_eq_false h0, decide_eq_false h1, decide_eq_false h3, Bool.and_false, Bool.or_false, ev_z0, Option.bind_some, b2_f]
      · simp only [if_neg h0, if_neg h1, if_neg h2, decide_eq_false h0, decide_eq_false h1, decide_eq_false h2, Bool.false_and, Bool.or_false, ev_z0, Option.bind_some, b2_f]
theorem ty_mod {x : Int32} (h : isTy x = true) : ((x - x / 16 * 16) = 0) = ((x &&& 15) = 0) := by
  have key : ∀ x ∈ TL, decide ((x - x / 16 * 16) = 0) = decide ((x &&& 15) = 0) := by decide +kernel
  exact propext (decide_eq_decide.mp (key x (isTy_mem h)))
theorem ty_div {x y : Int32} (h : isTy x = true) (h' : isTy y = true) : ((x / 16) = (y / 16)) = ((x >>> ((4 : Int32) &&& 31)) = (y >>> ((4 : Int32) &&& 31))) := by
  have key : ∀ x ∈ TL, ∀ y ∈ TL, decide ((x / 16) = (y / 16)) = decide ((x >>> ((4 : Int32) &&& 31)) = (y >>> ((4 : Int32) &&& 31))) := by decide +kernel
  exact propext (decide_eq_decide.mp (key x (isTy_mem h) y (isTy_mem h')))
theorem ms_covers {x y : Int32} (hx : isTy x = true) (hy : isTy y = true) (M : gk_M) : fn_Mo_covers x y M = some (b2 (cv x y), M) := by
  rw [← cs_covers x y M]
  unfold fn_Mo_covers fn_SD_covers fn_Mo_covers_27 fn_Mo_covers_31 fn_SD_covers_25 fn_SD_covers_29
  simp only [ty_mod hx, ty_div hx hy]
def mt (x y : Int32) : Int32 := if cv x y = true then y else if cv y x = true then x else -1
theorem cs_meeting (x y : Int32) (M : gk_M) : fn_SD_meeting x y M = some (mt x y, M) := by
  simp only [fn_SD_meeting, cs_covers, Option.bind_some, b2_0, mt]
  rcases bool_or (cv x y) with h | h
  · simp only [h, if_true, Bool.false_eq_true, if_false]
    rcases bool_or (cv y x) with h' | h'
    · simp only [h', if_true, Bool.false_eq_true, if_false]
    · simp only [h', if_true, Bool.true_eq_false, if_false]
  · simp only [h, if_true, Bool.true_eq_false, if_false]
theorem ms_meet {x y : Int32} (hx : isTy x = true) (hy : isTy y = true) (M : gk_M) : fn_Mo_meet x y M = some (b2 (cv x y || cv y x), M) := by
  simp only [fn_Mo_meet, ms_covers hx hy, ms_covers hy hx, Option.bind_some, b2_0, fn_Mo_meet_16, ev_z1, ev_z0]
  rcases bool_or (cv x y) with h | h
  · simp only [h, if_true, Bool.false_or]
    rcases bool_or (cv y x) with h' | h'
    · simp only [h', if_true, b2_f]
    · simp only [h', Bool.true_eq_false, if_false, b2_t]
  · simp only [h, Bool.true_eq_false, if_false, Bool.true_or, b2_t]
def rk (x : Int32) : Nat := if x = 0 then 0 else if (x &&& 15) = 0 then 1 else 2
theorem rk_le (x : Int32) : rk x ≤ 2 := by
  unfold rk
  split
  · omega
  · split <;> omega
theorem cs_rank (x : Int32) (M : gk_M) : fn_SD_rankOf x M = some (nI (rk x), M) := by
  unfold fn_SD_rankOf rk
  by_cases h0 : x = 0
  · simp only [if_pos h0]; rfl
  · by_cases h1 : (x &&& 15) = 0
    · simp only [if_neg h0, if_pos h1]; rfl
    · simp only [if_neg h0, if_neg h1]; rfl
theorem ms_rank {x : Int32} (h : isTy x = true) (M : gk_M) : fn_Mo_rank x M = some (nI (rk x), M) := by
  unfold fn_Mo_rank rk
  simp only [ty_mod h]
  by_cases h0 : x = 0
  · have h1 : (x &&& 15) = 0 := by rw [h0]; decide
    simp only [if_pos h0, if_pos h1]; rfl
  · by_cases h1 : (x &&& 15) = 0
    · simp only [if_neg h0, if_pos h1]; rfl
    · simp only [if_neg h0, if_neg h1]; rfl
/-- what is met -/
theorem mt_c {x y : Int32} (hx : isTy x = true) (hy : isTy y = true) (h : (cv y x || cv x y) = true) : mt x y = (if cv y x = true then x else y) ∧ ¬ mt x y = -1 ∧ isTy (mt x y) = true := by
  have key : ∀ x ∈ TL, ∀ y ∈ TL, (cv y x || cv x y) = true → mt x y = (if cv y x = true then x else y) ∧ ¬ mt x y = -1 ∧ isTy (mt x y) = true := by decide +kernel
  exact key x (isTy_mem hx) y (isTy_mem hy) h
theorem mt_n {x y : Int32} (h : (cv y x || cv x y) = false) : mt x y = -1 := by
  rw [Bool.or_eq_false_iff] at h
  unfold mt
  rw [h.1, h.2, if_neg (by decide), if_neg (by decide)]
/-- the type that is answered -/
def at3 (x : Int32) : Int32 := if x = 0 ∨ x = 16 then 255 else if (x &&& 15) = 0 then -1 else x
theorem cs_isConcrete (x : Int32) (M : gk_M) : fn_SD_isConcrete x M = some (b2 (isTy x && !decide ((x &&& 15) = 0)), M) := by
  simp only [fn_SD_isConcrete, cs_isType, Option.bind_some, b2_0, fn_SD_isConcrete_18, ev_z0, ev_z1]
  rcases bool_or (isTy x) with h | h
  · simp only [h, if_true, Bool.false_and, b2_f]
  · by_cases h1 : (x &&& 15) = 0
    · simp only [h, Bool.true_eq_false, if_false, if_pos h1, decide_eq_true h1, Bool.not_true, Bool.and_false, b2_f]
    · simp only [h, Bool.true_eq_false, if_false, if_neg h1, decide_eq_false h1, Bool.not_false, Bool.and_true, b2_t]
theorem cs_at34 {x : Int32} (h : isTy x = true) (M : gk_M) : fn_SD_answeredType_34 x M = some (at3 x, M) := by
  simp only [fn_SD_answeredType_34, fn_SD_answeredType_45, cs_isConcrete, Option.bind_some, b2_0, h, Bool.true_and, at3]
  by_cases h0 : x = 0
  · rw [if_pos h0, if_pos (Or.inl h0)]
  · by_cases h1 : x = 16
    · rw [if_neg h0, if_pos h1, if_pos (Or.inr h1)]
    · rw [if_neg h0, if_neg h1, if_neg (show ¬ (x = 0 ∨ x = 16) from fun q => q.elim h0 h1)]
      by_cases h2 : (x &&& 15) = 0
      · simp only [decide_eq_true h2, Bool.not_true, if_true, if_pos h2]
      · simp only [decide_eq_false h2, Bool.not_false, Bool.true_eq_false, if_false, if_neg h2]
theorem at3_m {x : Int32} (h : isTy x = true) : ((x &&& 15) = 0 → ((x ≤ 16) = (¬ at3 x = -1))) ∧ (¬ at3 x = -1 → at3 x = if (x &&& 15) = 0 then 255 else x) ∧ (¬ (x &&& 15) = 0 → ¬ at3 x = -1) := by
  have key : ∀ x ∈ TL, ((x &&& 15) = 0 → (decide (x ≤ 16) = decide (¬ at3 x = -1))) ∧ (¬ at3 x = -1 → at3 x = if (x &&& 15) = 0 then 255 else x) ∧ (¬ (x &&& 15) = 0 → ¬ at3 x = -1) := by decide +kernel
  obtain ⟨a, b, c⟩ := key x (isTy_mem h)
  exact ⟨fun q => propext (decide_eq_decide.mp (a q)), b, c⟩
/-! the first of the greatest -/
def fs {α : Type} (r x : Option (Nat × α)) : Option (Nat × α) := match x with
  | none => r
  | some x => match r with
    | none => some x
    | some y => if y.1 < x.1 then some x else some y
def fm {α : Type} (w : Nat → Option (Nat × α)) : Nat → Option (Nat × α)
  | 0 => none
  | k + 1 => fs (fm w k) (w k)
theorem fs_n {α : Type} (r : Option (Nat × α)) : fs r none = r := rfl
theorem fs_0 {α : Type} (x : Option (Nat × α)) : fs none x = x := by cases x <;> rfl
theorem fs_assoc {α : Type} (a b c : Option (Nat × α)) : fs (fs a b) c = fs a (fs b c) := by
  cases c with
  | none => rfl
  | some c =>
    cases b with
    | none => rfl
    | some b =>
      cases a with
      | none => rw [fs_0, fs_0]
      | some a =>
        simp only [fs]
        by_cases h1 : a.1 < b.1
        · by_cases h2 : b.1 < c.1
          · simp only [if_pos h1, if_pos h2, if_pos (show a.1 < c.1 by omega)]
          · simp only [if_pos h1, if_neg h2]
        · by_cases h2 : b.1 < c.1
          · simp only [if_neg h1, if_pos h2]
          · simp only [if_neg h1, if_neg h2, if_neg (show ¬ a.1 < c.1 by omega)]
theorem fs_map {α β : Type} (c : Nat) (g : α → β) (a b : Option (Nat × α)) : (fs a b).map (fun p => (c + p.1, g p.2)) = fs (a.map (fun p => (c + p.1, g p.2))) (b.map (fun p => (c + p.1, g p.2))) := by
  cases b with
  | none => rfl
  | some b =>
    cases a with
    | none => rfl
    | some a =>
      simp only [fs, Option.map_some]
      by_cases h : a.1 < b.1
      · rw [if_pos h, if_pos (show c + a.1 < c + b.1 by omega), Option.map_some]
      · rw [if_neg h, if_neg (show ¬ c + a.1 < c + b.1 by omega), Option.map_some]
theorem fs_ex {α : Type} {r x : Option (Nat × α)} {p : Nat × α} (h : fs r x = some p) : r = some p ∨ x = some p := by
  cases x with
  | none => exact Or.inl h
  | some x =>
    cases r with
    | none => exact Or.inr h
    | some r =>
      simp only [fs] at h
      split at h
      · exact Or.inr h
      · exact Or.inl h
theorem fm_ex {α : Type} {w : Nat → Option (Nat × α)} : ∀ {k : Nat} {p : Nat × α}, fm w k = some p → ∃ i, i < k ∧ w i = some p
  | 0, _, h => by cases h
  | k + 1, p, h => by
    rcases fs_ex h with h | h
    · obtain ⟨i, h1, h2⟩ := fm_ex h
      exact ⟨i, by omega, h2⟩
    · exact ⟨k, by omega, h⟩
theorem fm_none {α : Type} {w : Nat → Option (Nat × α)} : ∀ {k : Nat}, fm w k = none ↔ ∀ i, i < k → w i = none
  | 0 => ⟨fun _ i h => absurd h (by omega), fun _ => rfl⟩
  | k + 1 => by
    constructor
    · intro h i hi
      have hk : w k = none := by
        cases hw : w k with
        | none => rfl
        | some x =>
          simp only [fm, hw] at h
          cases hf : fm w k with
          | none => rw [hf] at h; cases h
          | some y =>
            rw [hf] at h
            simp only [fs] at h
            split at h <;> cases h
      by_cases e : i = k
      · subst e; exact hk
      · simp only [fm, hk, fs_n] at h
        exact fm_none.mp h i (by omega)
    · intro h
      simp only [fm, h k (by omega), fs_n]
      exact fm_none.mpr (fun i hi => h i (by omega))
