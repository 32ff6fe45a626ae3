/-! the memory of the two objects: z is the dispatcher's address, z + 27 the reference's; D holds all other cells (templates, methods, locators, filters: from z + 61 on). t = (scalars, arrays of ints, arrays of references) of the dispatcher, u = (scalars by field, bestKey, arrays by field) of the reference -/
abbrev sd_S : Type := (Nat → Int32) × (Nat → Nat → Int32) × (Nat → Nat → Option Nat)
abbrev mo_S : Type := (Nat → Int32) × Int64 × (Nat → Nat → Int32)
def up2 (A : Nat → Nat → Int32) (i j : Nat) (x : Int32) : Nat → Nat → Int32 := fun a => if a = i then upd (A a) j x else A a
def up2r (A : Nat → Nat → Option Nat) (i j : Nat) (x : Option Nat) : Nat → Nat → Option Nat := fun a => if a = i then va_up (A a) j x else A a
theorem up2_self (A : Nat → Nat → Int32) (i j : Nat) (x : Int32) : up2 A i j x i = upd (A i) j x := by simp [up2]
theorem up2_ne (A : Nat → Nat → Int32) {i a : Nat} (j : Nat) (x : Int32) (h : a ≠ i) : up2 A i j x a = A a := by simp [up2, h]
theorem up2r_self (A : Nat → Nat → Option Nat) (i j : Nat) (x : Option Nat) : up2r A i j x i = va_up (A i) j x := by simp [up2r]
theorem up2r_ne (A : Nat → Nat → Option Nat) {i a : Nat} (j : Nat) (x : Option Nat) (h : a ≠ i) : up2r A i j x a = A a := by simp [up2r, h]
def sd_V (z : Nat) (j : Nat) (s : Nat → Int32) (f : Nat → Int32) (g : Nat → Option Nat) : gk_E := match j with
  | 0 => .inr (0, [.ref (z + 1), .ref (z + 3), .ref (z + 7), .ref (z + 11), .ref (z + 14), .ref (z + 19), .ref (z + 26)])
  | 1 => .inr (1, [.ref (z + 2), .int (s 0)])
  | 2 => .inl (1, 24, .inl f)
  | 3 => .inr (7, [.ref (z + 4), .ref (z + 5), .ref (z + 6), .int (s 1), .int (s 2), .int (s 3)])
  | 4 => .inl (3, 6, .inr (.inr (.inr (.inr g))))
  | 5 => .inl (4, 12, .inr (.inr (.inr (.inr g))))
  | 6 => .inl (5, 8, .inr (.inr (.inr (.inr g))))
  | 7 => .inr (10, [.ref (z + 8), .ref (z + 9), .ref (z + 10), .int (s 4)])
  | 8 => .inl (6, 8, .inr (.inr (.inr (.inr g))))
  | 9 => .inl (0, 8, .inl f)
  | 10 => .inl (0, 8, .inl f)
  | 11 => .inr (9, [.ref (z + 12), .ref (z + 13), .int (s 5)])
  | 12 => .inl (0, 4, .inl f)
  | 13 => .inl (0, 4, .inl f)
  | 14 => .inr (8, [.ref (z + 15), .int (s 6), .int (s 7), .int (s 8)])
  | 15 => .inr (3, [.ref (z + 16), .ref (z + 17), .ref (z + 18), .int (s 9), .int (s 10)])
  | 16 => .inl (0, 25, .inl f)
  | 17 => .inl (0, 4, .inl f)
  | 18 => .inl (0, 4, .inl f)
  | 19 => .inr (11, [.ref (z + 20), .ref (z + 22), .ref (z + 23), .ref (z + 24), .ref (z + 25), .int (s 11), .int (s 12), .int (s 13), .int (s 14), .int (s 15), .int (s 16), .int (s 17), .int (s 18)])
  | 20 => .inr (1, [.ref (z + 21), .int (s 19)])
  | 21 => .inl (1, 24, .inl f)
  | 22 => .inl (0, 24, .inl f)
  | 23 => .inl (0, 104, .inl f)
  | 24 => .inl (0, 104, .inl f)
  | 25 => .inl (0, 8, .inl f)
  | _ => .inl (0, 16, .inl f)
def mo_F (z : Nat) (s : Nat → Int32) (K : Int64) : List Value := [.ref (z + 28), .int (s 1), .ref (z + 29), .ref (z + 30), .int (s 4), .int (s 5), .ref (z + 31), .ref (z + 32), .ref (z + 33), .ref (z + 34), .ref (z + 35), .ref (z + 36), .ref (z + 37), .ref (z + 38), .int (s 14), .ref (z + 39), .ref (z + 40), .int (s 17), .ref (z + 41), .ref (z + 42), .ref (z + 43), .ref (z + 44), .ref (z + 45), .ref (z + 46), .ref (z + 47), .int (s 25), .ref (z + 48), .ref (z + 49), .ref (z + 50), .int (s 29), .int (s 30), .int (s 31), .int (s 32), .int (s 33), .int (s 34), .int (s 35), .int (s 36), .int (s 37), .int (s 38), .int (s 39), .int (s 40), .ref (z + 51), .int (s 42), .ref (z + 52), .ref (z + 53), .int (s 45), .ref (z + 54), .int (s 47), .ref (z + 55), .ref (z + 56), .int (s 50), .ref (z + 57), .ref (z + 58), .ref (z + 59), .ref (z + 60), .long K, .int (s 56)]
def mo_fd (r : Nat) : Nat := match r with
  | 1 => 0
  | 2 => 2
  | 3 => 3
  | 4 => 6
  | 5 => 7
  | 6 => 8
  | 7 => 9
  | 8 => 10
  | 9 => 11
  | 10 => 12
  | 11 => 13
  | 12 => 15
  | 13 => 16
  | 14 => 18
  | 15 => 19
  | 16 => 20
  | 17 => 21
  | 18 => 22
  | 19 => 23
  | 20 => 24
  | 21 => 26
  | 22 => 27
  | 23 => 28
  | 24 => 41
  | 25 => 43
  | 26 => 44
  | 27 => 46
  | 28 => 48
  | 29 => 49
  | 30 => 51
  | 31 => 52
  | 32 => 53
  | _ => 54
def mo_ty (r : Nat) : Nat × Nat := match r with
  | 1 => (1, 24)
  | 2 => (1, 624)
  | 3 => (0, 26)
  | 4 => (0, 12)
  | 5 => (0, 12)
  | 6 => (0, 12)
  | 7 => (0, 12)
  | 8 => (0, 12)
  | 9 => (0, 12)
  | 10 => (0, 12)
  | 11 => (0, 12)
  | 12 => (0, 8)
  | 13 => (0, 8)
  | 14 => (0, 8)
  | 15 => (0, 8)
  | 16 => (0, 8)
  | 17 => (0, 8)
  | 18 => (0, 8)
  | 19 => (2, 8)
  | 20 => (0, 16)
  | 21 => (0, 4)
  | 22 => (0, 4)
  | 23 => (1, 24)
  | 24 => (0, 26)
  | 25 => (0, 112)
  | 26 => (0, 112)
  | 27 => (0, 8)
  | 28 => (0, 24)
  | 29 => (2, 625)
  | 30 => (0, 24)
  | 31 => (0, 24)
  | 32 => (2, 6)
  | _ => (2, 12)
def mo_V (z : Nat) (r : Nat) (u : mo_S) : gk_E := if r = 0 then .inr (12, mo_F z u.1 u.2.1) else .inl ((mo_ty r).1, (mo_ty r).2, .inl (u.2.2 (mo_fd r)))
def me (z : Nat) (D : gk_M) (t : sd_S) (u : mo_S) : gk_M := (fun a => if a < z then D.1 a else if a < z + 27 then some (sd_V z (a - z) t.1 (t.2.1 (a - z)) (t.2.2 (a - z))) else if a < z + 61 then some (mo_V z (a - (z + 27)) u) else D.1 a, D.2)
theorem mo_inj : ∀ a, a < 34 → ∀ b, b < 34 → a ≠ 0 → b ≠ 0 → mo_fd a = mo_fd b → a = b := by decide +kernel
theorem mo_upV {z : Nat} {u : mo_S} {i j r a : Nat} (x : Int32) (ha : a < 34) (hne : a ≠ r) (hr : r < 34 ∧ r ≠ 0) (hi : mo_fd r = i) : mo_V z a (u.1, u.2.1, up2 u.2.2 i j x) = mo_V z a u := by
  by_cases h0 : a = 0
  · simp only [mo_V, if_pos h0]
  · simp only [mo_V, if_neg h0]
    rw [up2_ne _ _ _ (fun h => hne (mo_inj a ha r hr.1 h0 hr.2 (h.trans hi.symm)))]
section MEM
variable {z : Nat} {D : gk_M} {t : sd_S} {u : mo_S}
theorem me_2 : (me z D t u).2 = D.2 := rfl
theorem me_sd {i : Nat} (h : i < 27) : (me z D t u).1 (z + i) = some (sd_V z i t.1 (t.2.1 i) (t.2.2 i)) := by
  have h1 : ¬ z + i < z := by omega
  have h2 : z + i < z + 27 := by omega
  simp only [me, if_neg h1, if_pos h2, Nat.add_sub_cancel_left]
theorem me_mo {r : Nat} (h : r < 34) : (me z D t u).1 (z + 27 + r) = some (mo_V z r u) := by
  have h1 : ¬ z + 27 + r < z := by omega
  have h2 : ¬ z + 27 + r < z + 27 := by omega
  have h3 : z + 27 + r < z + 61 := by omega
  simp only [me, if_neg h1, if_neg h2, if_pos h3, Nat.add_sub_cancel_left]
theorem me_dy {a : Nat} (h : z + 61 ≤ a) : (me z D t u).1 a = D.1 a := by
  have h1 : ¬ a < z := by omega
  have h2 : ¬ a < z + 27 := by omega
  have h3 : ¬ a < z + 61 := by omega
  simp only [me, if_neg h1, if_neg h2, if_neg h3]
theorem me_usd {i : Nat} (h : i < 27) {t' : sd_S} {e : gk_E} (he : sd_V z i t'.1 (t'.2.1 i) (t'.2.2 i) = e) (ho : ∀ j, j < 27 → j ≠ i → sd_V z j t'.1 (t'.2.1 j) (t'.2.2 j) = sd_V z j t.1 (t.2.1 j) (t.2.2 j)) : (va_up (me z D t u).1 (z + i) (some e), (me z D t u).2) = me z D t' u := by
  refine Prod.ext (funext fun a => ?_) rfl
  by_cases ha : a = z + i
  · subst ha
    show va_up _ _ _ _ = _
    rw [va_up_self, me_sd h, he]
  · show va_up _ _ _ _ = _
    rw [va_up_ne _ _ ha]
    simp only [me]
    by_cases h1 : a < z
    · simp only [if_pos h1]
    · by_cases h2 : a < z + 27
      · simp only [if_neg h1, if_pos h2]
        rw [ho (a - z) (by omega) (by omega)]
      · simp only [if_neg h1, if_neg h2]
theorem me_umo {r : Nat} (h : r < 34) {u' : mo_S} {e : gk_E} (he : mo_V z r u' = e) (ho : ∀ j, j < 34 → j ≠ r → mo_V z j u' = mo_V z j u) : (va_up (me z D t u).1 (z + 27 + r) (some e), (me z D t u).2) = me z D t u' := by
  refine Prod.ext (funext fun a => ?_) rfl
  by_cases ha : a = z + 27 + r
  · subst ha
    show va_up _ _ _ _ = _
    rw [va_up_self, me_mo h, he]
  · show va_up _ _ _ _ = _
    rw [va_up_ne _ _ ha]
    simp only [me]
    by_cases h1 : a < z
    · simp only [if_pos h1]
    · by_cases h2 : a < z + 27
      · simp only [if_neg h1, if_pos h2]
      · by_cases h3 : a < z + 61
        · simp only [if_neg h1, if_neg h2, if_pos h3]
          rw [ho (a - (z + 27)) (by omega) (by omega)]
        · simp only [if_neg h1, if_neg h2, if_neg h3]
theorem me_udy {a : Nat} (h : z + 61 ≤ a) {x : Option gk_E} {n : Nat} : (va_up (me z D t u).1 a x, n) = me z (va_up D.1 a x, n) t u := by
  refine Prod.ext (funext fun b => ?_) rfl
  simp only [me, va_up]
  by_cases hb : b = a
  · subst hb
    have h1 : ¬ b < z := by omega
    have h2 : ¬ b < z + 27 := by omega
    have h3 : ¬ b < z + 61 := by omega
    simp only [if_neg h1, if_neg h2, if_neg h3, if_true]
  · simp only [if_neg hb]
theorem me_nw (h : z + 61 ≤ D.2) (x : gk_E) : gk_nw (me z D t u) x = me z (gk_nw D x) t u := me_udy h
theorem dy_ob {ci d : Nat} (h : z + 61 ≤ d) : gk_ob (me z D t u) ci (some d) = gk_ob D ci (some d) := by simp only [gk_ob, me_dy h]
theorem dy_gi {ci k d : Nat} (h : z + 61 ≤ d) : gk_gi (me z D t u) ci k (some d) = gk_gi D ci k (some d) := by simp only [gk_gi, dy_ob h]
theorem dy_gr {ci k d : Nat} (h : z + 61 ≤ d) : gk_gr (me z D t u) ci k (some d) = gk_gr D ci k (some d) := by simp only [gk_gr, dy_ob h]
theorem dy_ia {ty d : Nat} (h : z + 61 ≤ d) : gk_ia (me z D t u) ty (some d) = gk_ia D ty (some d) := by simp only [gk_ia, me_dy h]
theorem dy_il {ty d : Nat} {i : Int32} (h : z + 61 ≤ d) : gk_il (me z D t u) ty (some d) i = gk_il D ty (some d) i := by simp only [gk_il, dy_ia h]
theorem dy_pf {ci k d : Nat} {v : Value} (h : z + 61 ≤ d) : gk_pf (me z D t u) ci k (some d) v = (gk_pf D ci k (some d) v).map (fun D' => me z D' t u) := by
  simp only [gk_pf, dy_ob h]
  cases gk_ob D ci (some d) with
  | none => rfl
  | some fs =>
    simp only [Option.bind_some, Option.map_some]
    split
    · rw [me_2, me_udy h]; rfl
    · rfl
theorem dy_is {ty d : Nat} {fty : FieldType} {i x : Int32} (h : z + 61 ≤ d) : gk_is (me z D t u) ty fty (some d) i x = (gk_is D ty fty (some d) i x).map (fun D' => me z D' t u) := by
  simp only [gk_is, dy_ia h]
  cases gk_ia D ty (some d) with
  | none => rfl
  | some w =>
    simp only [Option.bind_some, Option.map_some]
    split
    · rw [me_2, me_udy h]; rfl
    · rfl
theorem sd_at0 : (me z D t u).1 z = some (.inr (0, [.ref (z + 1), .ref (z + 3), .ref (z + 7), .ref (z + 11), .ref (z + 14), .ref (z + 19), .ref (z + 26)])) := me_sd (i := 0) (by decide)
theorem sd_ob_0 : gk_ob (me z D t u) 0 (some z) = some [.ref (z + 1), .ref (z + 3), .ref (z + 7), .ref (z + 11), .ref (z + 14), .ref (z + 19), .ref (z + 26)] := gk_ob_of (sd_at0)
theorem sd_gr_0_0 : gk_gr (me z D t u) 0 0 (some z) = some (some (z + 1)) := ev_gr (sd_at0) rfl
theorem sd_gr_0_1 : gk_gr (me z D t u) 0 1 (some z) = some (some (z + 3)) := ev_gr (sd_at0) rfl
theorem sd_gr_0_2 : gk_gr (me z D t u) 0 2 (some z) = some (some (z + 7)) := ev_gr (sd_at0) rfl
theorem sd_gr_0_3 : gk_gr (me z D t u) 0 3 (some z) = some (some (z + 11)) := ev_gr (sd_at0) rfl
theorem sd_gr_0_4 : gk_gr (me z D t u) 0 4 (some z) = some (some (z + 14)) := ev_gr (sd_at0) rfl
theorem sd_gr_0_5 : gk_gr (me z D t u) 0 5 (some z) = some (some (z + 19)) := ev_gr (sd_at0) rfl
theorem sd_gr_0_6 : gk_gr (me z D t u) 0 6 (some z) = some (some (z + 26)) := ev_gr (sd_at0) rfl
theorem sd_ob_1 : gk_ob (me z D t u) 1 (some (z + 1)) = some [.ref (z + 2), .int (t.1 0)] := gk_ob_of (me_sd (i := 1) (by decide))
theorem sd_gr_1_0 : gk_gr (me z D t u) 1 0 (some (z + 1)) = some (some (z + 2)) := ev_gr (me_sd (i := 1) (by decide)) rfl
theorem sd_gi_0 : gk_gi (me z D t u) 1 1 (some (z + 1)) = some (t.1 0) := ev_gi (me_sd (i := 1) (by decide)) rfl
theorem sd_pf_0 {x : Int32} : gk_pf (me z D t u) 1 1 (some (z + 1)) (.int x) = some (me z D (upd t.1 0 x, t.2) u) := by
  rw [ev_pf (me_sd (i := 1) (by decide)) (by show 1 < 2; decide)]
  refine congrArg some (me_usd (i := 1) (by decide) rfl (fun j h1 h2 => ?_))
  unfold sd_V
  split <;> first | rfl | exact absurd rfl h2
theorem sd_ob_3 : gk_ob (me z D t u) 7 (some (z + 3)) = some [.ref (z + 4), .ref (z + 5), .ref (z + 6), .int (t.1 1), .int (t.1 2), .int (t.1 3)] := gk_ob_of (me_sd (i := 3) (by decide))
theorem sd_gr_3_0 : gk_gr (me z D t u) 7 0 (some (z + 3)) = some (some (z + 4)) := ev_gr (me_sd (i := 3) (by decide)) rfl
theorem sd_gr_3_1 : gk_gr (me z D t u) 7 1 (some (z + 3)) = some (some (z + 5)) := ev_gr (me_sd (i := 3) (by decide)) rfl
theorem sd_gr_3_2 : gk_gr (me z D t u) 7 2 (some (z + 3)) = some (some (z + 6)) := ev_gr (me_sd (i := 3) (by decide)) rfl
theorem sd_gi_1 : gk_gi (me z D t u) 7 3 (some (z + 3)) = some (t.1 1) := ev_gi (me_sd (i := 3) (by decide)) rfl
theorem sd_pf_1 {x : Int32} : gk_pf (me z D t u) 7 3 (some (z + 3)) (.int x) = some (me z D (upd t.1 1 x, t.2) u) := by
  rw [ev_pf (me_sd (i := 3) (by decide)) (by show 3 < 6; decide)]
  refine congrArg some (me_usd (i := 3) (by decide) rfl (fun j h1 h2 => ?_))
  unfold sd_V
  split <;> first | rfl | exact absurd rfl h2
theorem sd_gi_2 : gk_gi (me z D t u) 7 4 (some (z + 3)) = some (t.1 2) := ev_gi (me_sd (i := 3) (by decide)) rfl
theorem sd_pf_2 {x : Int32} : gk_pf (me z D t u) 7 4 (some (z + 3)) (.int x) = some (me z D (upd t.1 2 x, t.2) u) := by
  rw [ev_pf (me_sd (i := 3) (by decide)) (by show 4 < 6; decide)]
  refine congrArg some (me_usd (i := 3) (by decide) rfl (fun j h1 h2 => ?_))
  unfold sd_V
  split <;> first | rfl | exact absurd rfl h2
theorem sd_gi_3 : gk_gi (me z D t u) 7 5 (some (z + 3)) = some (t.1 3) := ev_gi (me_sd (i := 3) (by decide)) rfl
theorem sd_pf_3 {x : Int32} : gk_pf (me z D t u) 7 5 (some (z + 3)) (.int x) = some (me z D (upd t.1 3 x, t.2) u) := by
  rw [ev_pf (me_sd (i := 3) (by decide)) (by show 5 < 6; decide)]
  refine congrArg some (me_usd (i := 3) (by decide) rfl (fun j h1 h2 => ?_))
  unfold sd_V
  split <;> first | rfl | exact absurd rfl h2
theorem sd_ob_7 : gk_ob (me z D t u) 10 (some (z + 7)) = some [.ref (z + 8), .ref (z + 9), .ref (z + 10), .int (t.1 4)] := gk_ob_of (me_sd (i := 7) (by decide))
theorem sd_gr_7_0 : gk_gr (me z D t u) 10 0 (some (z + 7)) = some (some (z + 8)) := ev_gr (me_sd (i := 7) (by decide)) rfl
theorem sd_gr_7_1 : gk_gr (me z D t u) 10 1 (some (z + 7)) = some (some (z + 9)) := ev_gr (me_sd (i := 7) (by decide)) rfl
theorem sd_gr_7_2 : gk_gr (me z D t u) 10 2 (some (z + 7)) = some (some (z + 10)) := ev_gr (me_sd (i := 7) (by decide)) rfl
theorem sd_gi_4 : gk_gi (me z D t u) 10 3 (some (z + 7)) = some (t.1 4) := ev_gi (me_sd (i := 7) (by decide)) rfl
theorem sd_pf_4 {x : Int32} : gk_pf (me z D t u) 10 3 (some (z + 7)) (.int x) = some (me z D (upd t.1 4 x, t.2) u) := by
  rw [ev_pf (me_sd (i := 7) (by decide)) (by show 3 < 4; decide)]
  refine congrArg some (me_usd (i := 7) (by decide) rfl (fun j h1 h2 => ?_))
  unfold sd_V
  split <;> first | rfl | exact absurd rfl h2
theorem sd_ob_11 : gk_ob (me z D t u) 9 (some (z + 11)) = some [.ref (z + 12), .ref (z + 13), .int (t.1 5)] := gk_ob_of (me_sd (i := 11) (by decide))
theorem sd_gr_11_0 : gk_gr (me z D t u) 9 0 (some (z + 11)) = some (some (z + 12)) := ev_gr (me_sd (i := 11) (by decide)) rfl
theorem sd_gr_11_1 : gk_gr (me z D t u) 9 1 (some (z + 11)) = some (some (z + 13)) := ev_gr (me_sd (i := 11) (by decide)) rfl
theorem sd_gi_5 : gk_gi (me z D t u) 9 2 (some (z + 11)) = some (t.1 5) := ev_gi (me_sd (i := 11) (by decide)) rfl
theorem sd_pf_5 {x : Int32} : gk_pf (me z D t u) 9 2 (some (z + 11)) (.int x) = some (me z D (upd t.1 5 x, t.2) u) := by
  rw [ev_pf (me_sd (i := 11) (by decide)) (by show 2 < 3; decide)]
  refine congrArg some (me_usd (i := 11) (by decide) rfl (fun j h1 h2 => ?_))
  unfold sd_V
  split <;> first | rfl | exact absurd rfl h2
theorem sd_ob_14 : gk_ob (me z D t u) 8 (some (z + 14)) = some [.ref (z + 15), .int (t.1 6), .int (t.1 7), .int (t.1 8)] := gk_ob_of (me_sd (i := 14) (by decide))
theorem sd_gr_14_0 : gk_gr (me z D t u) 8 0 (some (z + 14)) = some (some (z + 15)) := ev_gr (me_sd (i := 14) (by decide)) rfl
theorem sd_gi_6 : gk_gi (me z D t u) 8 1 (some (z + 14)) = some (t.1 6) := ev_gi (me_sd (i := 14) (by decide)) rfl
theorem sd_pf_6 {x : Int32} : gk_pf (me z D t u) 8 1 (some (z + 14)) (.int x) = some (me z D (upd t.1 6 x, t.2) u) := by
  rw [ev_pf (me_sd (i := 14) (by decide)) (by show 1 < 4; decide)]
  refine congrArg some (me_usd (i := 14) (by decide) rfl (fun j h1 h2 => ?_))
  unfold sd_V
  split <;> first | rfl | exact absurd rfl h2
theorem sd_gi_7 : gk_gi (me z D t u) 8 2 (some (z + 14)) = some (t.1 7) := ev_gi (me_sd (i := 14) (by decide)) rfl
theorem sd_pf_7 {x : Int32} : gk_pf (me z D t u) 8 2 (some (z + 14)) (.int x) = some (me z D (upd t.1 7 x, t.2) u) := by
  rw [ev_pf (me_sd (i := 14) (by decide)) (by show 2 < 4; decide)]
  refine congrArg some (me_usd (i := 14) (by decide) rfl (fun j h1 h2 => ?_))
  unfold sd_V
  split <;> first | rfl | exact absurd rfl h2
theorem sd_gi_8 : gk_gi (me z D t u) 8 3 (some (z + 14)) = some (t.1 8) := ev_gi (me_sd (i := 14) (by decide)) rfl
theorem sd_pf_8 {x : Int32} : gk_pf (me z D t u) 8 3 (some (z + 14)) (.int x) = some (me z D (upd t.1 8 x, t.2) u) := by
  rw [ev_pf (me_sd (i := 14) (by decide)) (by show 3 < 4; decide)]
  refine congrArg some (me_usd (i := 14) (by decide) rfl (fun j h1 h2 => ?_))
  unfold sd_V
  split <;> first | rfl | exact absurd rfl h2
theorem sd_ob_15 : gk_ob (me z D t u) 3 (some (z + 15)) = some [.ref (z + 16), .ref (z + 17), .ref (z + 18), .int (t.1 9), .int (t.1 10)] := gk_ob_of (me_sd (i := 15) (by decide))
theorem sd_gr_15_0 : gk_gr (me z D t u) 3 0 (some (z + 15)) = some (some (z + 16)) := ev_gr (me_sd (i := 15) (by decide)) rfl
theorem sd_gr_15_1 : gk_gr (me z D t u) 3 1 (some (z + 15)) = some (some (z + 17)) := ev_gr (me_sd (i := 15) (by decide)) rfl
theorem sd_gr_15_2 : gk_gr (me z D t u) 3 2 (some (z + 15)) = some (some (z + 18)) := ev_gr (me_sd (i := 15) (by decide)) rfl
theorem sd_gi_9 : gk_gi (me z D t u) 3 3 (some (z + 15)) = some (t.1 9) := ev_gi (me_sd (i := 15) (by decide)) rfl
theorem sd_pf_9 {x : Int32} : gk_pf (me z D t u) 3 3 (some (z + 15)) (.int x) = some (me z D (upd t.1 9 x, t.2) u) := by
  rw [ev_pf (me_sd (i := 15) (by decide)) (by show 3 < 5; decide)]
  refine congrArg some (me_usd (i := 15) (by decide) rfl (fun j h1 h2 => ?_))
  unfold sd_V
  split <;> first | rfl | exact absurd rfl h2
theorem sd_gi_10 : gk_gi (me z D t u) 3 4 (some (z + 15)) = some (t.1 10) := ev_gi (me_sd (i := 15) (by decide)) rfl
theorem sd_pf_10 {x : Int32} : gk_pf (me z D t u) 3 4 (some (z + 15)) (.int x) = some (me z D (upd t.1 10 x, t.2) u) := by
  rw [ev_pf (me_sd (i := 15) (by decide)) (by show 4 < 5; decide)]
  refine congrArg some (me_usd (i := 15) (by decide) rfl (fun j h1 h2 => ?_))
  unfold sd_V
  split <;> first | rfl | exact absurd rfl h2
theorem sd_ob_19 : gk_ob (me z D t u) 11 (some (z + 19)) = some [.ref (z + 20), .ref (z + 22), .ref (z + 23), .ref (z + 24), .ref (z + 25), .int (t.1 11), .int (t.1 12), .int (t.1 13), .int (t.1 14), .int (t.1 15), .int (t.1 16), .int (t.1 17), .int (t.1 18)] := gk_ob_of (me_sd (i := 19) (by decide))
theorem sd_gr_19_0 : gk_gr (me z D t u) 11 0 (some (z + 19)) = some (some (z + 20)) := ev_gr (me_sd (i := 19) (by decide)) rfl
theorem sd_gr_19_1 : gk_gr (me z D t u) 11 1 (some (z + 19)) = some (some (z + 22)) := ev_gr (me_sd (i := 19) (by decide)) rfl
theorem sd_gr_19_2 : gk_gr (me z D t u) 11 2 (some (z + 19)) = some (some (z + 23)) := ev_gr (me_sd (i := 19) (by decide)) rfl
theorem sd_gr_19_3 : gk_gr (me z D t u) 11 3 (some (z + 19)) = some (some (z + 24)) := ev_gr (me_sd (i := 19) (by decide)) rfl
theorem sd_gr_19_4 : gk_gr (me z D t u) 11 4 (some (z + 19)) = some (some (z + 25)) := ev_gr (me_sd (i := 19) (by decide)) rfl
theorem sd_gi_11 : gk_gi (me z D t u) 11 5 (some (z + 19)) = some (t.1 11) := ev_gi (me_sd (i := 19) (by decide)) rfl
theorem sd_pf_11 {x : Int32} : gk_pf (me z D t u) 11 5 (some (z + 19)) (.int x) = some (me z D (upd t.1 11 x, t.2) u) := by
  rw [ev_pf (me_sd (i := 19) (by decide)) (by show 5 < 13; decide)]
  refine congrArg some (me_usd (i := 19) (by decide) rfl (fun j h1 h2 => ?_))
  unfold sd_V
  split <;> first | rfl | exact absurd rfl h2
theorem sd_gi_12 : gk_gi (me z D t u) 11 6 (some (z + 19)) = some (t.1 12) := ev_gi (me_sd (i := 19) (by decide)) rfl
theorem sd_pf_12 {x : Int32} : gk_pf (me z D t u) 11 6 (some (z + 19)) (.int x) = some (me z D (upd t.1 12 x, t.2) u) := by
  rw [ev_pf (me_sd (i := 19) (by decide)) (by show 6 < 13; decide)]
  refine congrArg some (me_usd (i := 19) (by decide) rfl (fun j h1 h2 => ?_))
  unfold sd_V
  split <;> first | rfl | exact absurd rfl h2
theorem sd_gi_13 : gk_gi (me z D t u) 11 7 (some (z + 19)) = some (t.1 13) := ev_gi (me_sd (i := 19) (by decide)) rfl
theorem sd_pf_13 {x : Int32} : gk_pf (me z D t u) 11 7 (some (z + 19)) (.int x) = some (me z D (upd t.1 13 x, t.2) u) := by
  rw [ev_pf (me_sd (i := 19) (by decide)) (by show 7 < 13; decide)]
  refine congrArg some (me_usd (i := 19) (by decide) rfl (fun j h1 h2 => ?_))
  unfold sd_V
  split <;> first | rfl | exact absurd rfl h2
theorem sd_gi_14 : gk_gi (me z D t u) 11 8 (some (z + 19)) = some (t.1 14) := ev_gi (me_sd (i := 19) (by decide)) rfl
theorem sd_pf_14 {x : Int32} : gk_pf (me z D t u) 11 8 (some (z + 19)) (.int x) = some (me z D (upd t.1 14 x, t.2) u) := by
  rw [ev_pf (me_sd (i := 19) (by decide)) (by show 8 < 13; decide)]
  refine congrArg some (me_usd (i := 19) (by decide) rfl (fun j h1 h2 => ?_))
  unfold sd_V
  split <;> first | rfl | exact absurd rfl h2
theorem sd_gi_15 : gk_gi (me z D t u) 11 9 (some (z + 19)) = some (t.1 15) := ev_gi (me_sd (i := 19) (by decide)) rfl
theorem sd_pf_15 {x : Int32} : gk_pf (me z D t u) 11 9 (some (z + 19)) (.int x) = some (me z D (upd t.1 15 x, t.2) u) := by
  rw [ev_pf (me_sd (i := 19) (by decide)) (by show 9 < 13; decide)]
  refine congrArg some (me_usd (i := 19) (by decide) rfl (fun j h1 h2 => ?_))
  unfold sd_V
  split <;> first | rfl | exact absurd rfl h2
theorem sd_gi_16 : gk_gi (me z D t u) 11 10 (some (z + 19)) = some (t.1 16) := ev_gi (me_sd (i := 19) (by decide)) rfl
theorem sd_pf_16 {x : Int32} : gk_pf (me z D t u) 11 10 (some (z + 19)) (.int x) = some (me z D (upd t.1 16 x, t.2) u) := by
  rw [ev_pf (me_sd (i := 19) (by decide)) (by show 10 < 13; decide)]
  refine congrArg some (me_usd (i := 19) (by decide) rfl (fun j h1 h2 => ?_))
  unfold sd_V
  split <;> first | rfl | exact absurd rfl h2
theorem sd_gi_17 : gk_gi (me z D t u) 11 11 (some (z + 19)) = some (t.1 17) := ev_gi (me_sd (i := 19) (by decide)) rfl
theorem sd_pf_17 {x : Int32} : gk_pf (me z D t u) 11 11 (some (z + 19)) (.int x) = some (me z D (upd t.1 17 x, t.2) u) := by
  rw [ev_pf (me_sd (i := 19) (by decide)) (by show 11 < 13; decide)]
  refine congrArg some (me_usd (i := 19) (by decide) rfl (fun j h1 h2 => ?_))
  unfold sd_V
  split <;> first | rfl | exact absurd rfl h2
theorem sd_gi_18 : gk_gi (me z D t u) 11 12 (some (z + 19)) = some (t.1 18) := ev_gi (me_sd (i := 19) (by decide)) rfl
theorem sd_pf_18 {x : Int32} : gk_pf (me z D t u) 11 12 (some (z + 19)) (.int x) = some (me z D (upd t.1 18 x, t.2) u) := by
  rw [ev_pf (me_sd (i := 19) (by decide)) (by show 12 < 13; decide)]
  refine congrArg some (me_usd (i := 19) (by decide) rfl (fun j h1 h2 => ?_))
  unfold sd_V
  split <;> first | rfl | exact absurd rfl h2
theorem sd_ob_20 : gk_ob (me z D t u) 1 (some (z + 20)) = some [.ref (z + 21), .int (t.1 19)] := gk_ob_of (me_sd (i := 20) (by decide))
theorem sd_gr_20_0 : gk_gr (me z D t u) 1 0 (some (z + 20)) = some (some (z + 21)) := ev_gr (me_sd (i := 20) (by decide)) rfl
theorem sd_gi_19 : gk_gi (me z D t u) 1 1 (some (z + 20)) = some (t.1 19) := ev_gi (me_sd (i := 20) (by decide)) rfl
theorem sd_pf_19 {x : Int32} : gk_pf (me z D t u) 1 1 (some (z + 20)) (.int x) = some (me z D (upd t.1 19 x, t.2) u) := by
  rw [ev_pf (me_sd (i := 20) (by decide)) (by show 1 < 2; decide)]
  refine congrArg some (me_usd (i := 20) (by decide) rfl (fun j h1 h2 => ?_))
  unfold sd_V
  split <;> first | rfl | exact absurd rfl h2
theorem sd_ia_2 : gk_ia (me z D t u) 1 (some (z + 2)) = some (24, t.2.1 2) := gk_ia_of (me_sd (i := 2) (by decide))
theorem sd_il_2 {j : Nat} (h : j < 24) : gk_il (me z D t u) 1 (some (z + 2)) (nI j) = some (t.2.1 2 j) := ev_il (me_sd (i := 2) (by decide)) h (by decide)
theorem sd_ln_2 : gk_ln (me z D t u) 1 (some (z + 2)) = some (nI 24) := ev_ln (me_sd (i := 2) (by decide))
theorem sd_is_2 {j : Nat} {x : Int32} (h : j < 24) : gk_is (me z D t u) 1 .char (some (z + 2)) (nI j) x = some (me z D (t.1, up2 t.2.1 2 j (vp_nar .char x), t.2.2) u) := by
  rw [ev_is (me_sd (i := 2) (by decide)) h (by decide)]
  refine congrArg some (me_usd (i := 2) (by decide) ?_ (fun a h1 h2 => ?_))
  · show sd_V z 2 t.1 (up2 t.2.1 2 j (vp_nar .char x) 2) (t.2.2 2) = _
    rw [up2_self]; rfl
  · show sd_V z a t.1 (up2 t.2.1 2 j (vp_nar .char x) a) (t.2.2 a) = _
    rw [up2_ne _ _ _ h2]
theorem sd_ia_9 : gk_ia (me z D t u) 0 (some (z + 9)) = some (8, t.2.1 9) := gk_ia_of (me_sd (i := 9) (by decide))
theorem sd_il_9 {j : Nat} (h : j < 8) : gk_il (me z D t u) 0 (some (z + 9)) (nI j) = some (t.2.1 9 j) := ev_il (me_sd (i := 9) (by decide)) h (by decide)
theorem sd_ln_9 : gk_ln (me z D t u) 0 (some (z + 9)) = some (nI 8) := ev_ln (me_sd (i := 9) (by decide))
theorem sd_is_9 {j : Nat} {x : Int32} (h : j < 8) : gk_is (me z D t u) 0 .int (some (z + 9)) (nI j) x = some (me z D (t.1, up2 t.2.1 9 j (vp_nar .int x), t.2.2) u) := by
  rw [ev_is (me_sd (i := 9) (by decide)) h (by decide)]
  refine congrArg some (me_usd (i := 9) (by decide) ?_ (fun a h1 h2 => ?_))
  · show sd_V z 9 t.1 (up2 t.2.1 9 j (vp_nar .int x) 9) (t.2.2 9) = _
    rw [up2_self]; rfl
  · show sd_V z a t.1 (up2 t.2.1 9 j (vp_nar .int x) a) (t.2.2 a) = _
    rw [up2_ne _ _ _ h2]
theorem sd_ia_10 : gk_ia (me z D t u) 0 (some (z + 10)) = some (8, t.2.1 10) := gk_ia_of (me_sd (i := 10) (by decide))
theorem sd_il_10 {j : Nat} (h : j < 8) : gk_il (me z D t u) 0 (some (z + 10)) (nI j) = some (t.2.1 10 j) := ev_il (me_sd (i := 10) (by decide)) h (by decide)
theorem sd_ln_10 : gk_ln (me z D t u) 0 (some (z + 10)) = some (nI 8) := ev_ln (me_sd (i := 10) (by decide))
theorem sd_is_10 {j : Nat} {x : Int32} (h : j < 8) : gk_is (me z D t u) 0 .int (some (z + 10)) (nI j) x = some (me z D (t.1, up2 t.2.1 10 j (vp_nar .int x), t.2.2) u) := by
  rw [ev_is (me_sd (i := 10) (by decide)) h (by decide)]
  refine congrArg some (me_usd (i := 10) (by decide) ?_ (fun a h1 h2 => ?_))
  · show sd_V z 10 t.1 (up2 t.2.1 10 j (vp_nar .int x) 10) (t.2.2 10) = _
    rw [up2_self]; rfl
  · show sd_V z a t.1 (up2 t.2.1 10 j (vp_nar .int x) a) (t.2.2 a) = _
    rw [up2_ne _ _ _ h2]
theorem sd_ia_12 : gk_ia (me z D t u) 0 (some (z + 12)) = some (4, t.2.1 12) := gk_ia_of (me_sd (i := 12) (by decide))
theorem sd_il_12 {j : Nat} (h : j < 4) : gk_il (me z D t u) 0 (some (z + 12)) (nI j) = some (t.2.1 12 j) := ev_il (me_sd (i := 12) (by decide)) h (by decide)
theorem sd_ln_12 : gk_ln (me z D t u) 0 (some (z + 12)) = some (nI 4) := ev_ln (me_sd (i := 12) (by decide))
theorem sd_is_12 {j : Nat} {x : Int32} (h : j < 4) : gk_is (me z D t u) 0 .int (some (z + 12)) (nI j) x = some (me z D (t.1, up2 t.2.1 12 j (vp_nar .int x), t.2.2) u) := by
  rw [ev_is (me_sd (i := 12) (by decide)) h (by decide)]
  refine congrArg some (me_usd (i := 12) (by decide) ?_ (fun a h1 h2 => ?_))
  · show sd_V z 12 t.1 (up2 t.2.1 12 j (vp_nar .int x) 12) (t.2.2 12) = _
    rw [up2_self]; rfl
  · show sd_V z a t.1 (up2 t.2.1 12 j (vp_nar .int x) a) (t.2.2 a) = _
    rw [up2_ne _ _ _ h2]
theorem sd_ia_13 : gk_ia (me z D t u) 0 (some (z + 13)) = some (4, t.2.1 13) := gk_ia_of (me_sd (i := 13) (by decide))
theorem sd_il_13 {j : Nat} (h : j < 4) : gk_il (me z D t u) 0 (some (z + 13)) (nI j) = some (t.2.1 13 j) := ev_il (me_sd (i := 13) (by decide)) h (by decide)
theorem sd_ln_13 : gk_ln (me z D t u) 0 (some (z + 13)) = some (nI 4) := ev_ln (me_sd (i := 13) (by decide))
theorem sd_is_13 {j : Nat} {x : Int32} (h : j < 4) : gk_is (me z D t u) 0 .int (some (z + 13)) (nI j) x = some (me z D (t.1, up2 t.2.1 13 j (vp_nar .int x), t.2.2) u) := by
  rw [ev_is (me_sd (i := 13) (by decide)) h (by decide)]
  refine congrArg some (me_usd (i := 13) (by decide) ?_ (fun a h1 h2 => ?_))
  · show sd_V z 13 t.1 (up2 t.2.1 13 j (vp_nar .int x) 13) (t.2.2 13) = _
    rw [up2_self]; rfl
  · show sd_V z a t.1 (up2 t.2.1 13 j (vp_nar .int x) a) (t.2.2 a) = _
    rw [up2_ne _ _ _ h2]
theorem sd_ia_16 : gk_ia (me z D t u) 0 (some (z + 16)) = some (25, t.2.1 16) := gk_ia_of (me_sd (i := 16) (by decide))
theorem sd_il_16 {j : Nat} (h : j < 25) : gk_il (me z D t u) 0 (some (z + 16)) (nI j) = some (t.2.1 16 j) := ev_il (me_sd (i := 16) (by decide)) h (by decide)
theorem sd_ln_16 : gk_ln (me z D t u) 0 (some (z + 16)) = some (nI 25) := ev_ln (me_sd (i := 16) (by decide))
theorem sd_is_16 {j : Nat} {x : Int32} (h : j < 25) : gk_is (me z D t u) 0 .int (some (z + 16)) (nI j) x = some (me z D (t.1, up2 t.2.1 16 j (vp_nar .int x), t.2.2) u) := by
  rw [ev_is (me_sd (i := 16) (by decide)) h (by decide)]
  refine congrArg some (me_usd (i := 16) (by decide) ?_ (fun a h1 h2 => ?_))
  · show sd_V z 16 t.1 (up2 t.2.1 16 j (vp_nar .int x) 16) (t.2.2 16) = _
    rw [up2_self]; rfl
  · show sd_V z a t.1 (up2 t.2.1 16 j (vp_nar .int x) a) (t.2.2 a) = _
    rw [up2_ne _ _ _ h2]
theorem sd_ia_17 : gk_ia (me z D t u) 0 (some (z + 17)) = some (4, t.2.1 17) := gk_ia_of (me_sd (i := 17) (by decide))
theorem sd_il_17 {j : Nat} (h : j < 4) : gk_il (me z D t u) 0 (some (z + 17)) (nI j) = some (t.2.1 17 j) := ev_il (me_sd (i := 17) (by decide)) h (by decide)
theorem sd_ln_17 : gk_ln (me z D t u) 0 (some (z + 17)) = some (nI 4) := ev_ln (me_sd (i := 17) (by decide))
theorem sd_is_17 {j : Nat} {x : Int32} (h : j < 4) : gk_is (me z D t u) 0 .int (some (z + 17)) (nI j) x = some (me z D (t.1, up2 t.2.1 17 j (vp_nar .int x), t.2.2) u) := by
  rw [ev_is (me_sd (i := 17) (by decide)) h (by decide)]
  refine congrArg some (me_usd (i := 17) (by decide) ?_ (fun a h1 h2 => ?_))
  · show sd_V z 17 t.1 (up2 t.2.1 17 j (vp_nar .int x) 17) (t.2.2 17) = _
    rw [up2_self]; rfl
  · show sd_V z a t.1 (up2 t.2.1 17 j (vp_nar .int x) a) (t.2.2 a) = _
    rw [up2_ne _ _ _ h2]
theorem sd_ia_18 : gk_ia (me z D t u) 0 (some (z + 18)) = some (4, t.2.1 18) := gk_ia_of (me_sd (i := 18) (by decide))
theorem sd_il_18 {j : Nat} (h : j < 4) : gk_il (me z D t u) 0 (some (z + 18)) (nI j) = some (t.2.1 18 j) := ev_il (me_sd (i := 18) (by decide)) h (by decide)
theorem sd_ln_18 : gk_ln (me z D t u) 0 (some (z + 18)) = some (nI 4) := ev_ln (me_sd (i := 18) (by decide))
theorem sd_is_18 {j : Nat} {x : Int32} (h : j < 4) : gk_is (me z D t u) 0 .int (some (z + 18)) (nI j) x = some (me z D (t.1, up2 t.2.1 18 j (vp_nar .int x), t.2.2) u) := by
  rw [ev_is (me_sd (i := 18) (by decide)) h (by decide)]
  refine congrArg some (me_usd (i := 18) (by decide) ?_ (fun a h1 h2 => ?_))
  · show sd_V z 18 t.1 (up2 t.2.1 18 j (vp_nar .int x) 18) (t.2.2 18) = _
    rw [up2_self]; rfl
  · show sd_V z a t.1 (up2 t.2.1 18 j (vp_nar .int x) a) (t.2.2 a) = _
    rw [up2_ne _ _ _ h2]
theorem sd_ia_21 : gk_ia (me z D t u) 1 (some (z + 21)) = some (24, t.2.1 21) := gk_ia_of (me_sd (i := 21) (by decide))
theorem sd_il_21 {j : Nat} (h : j < 24) : gk_il (me z D t u) 1 (some (z + 21)) (nI j) = some (t.2.1 21 j) := ev_il (me_sd (i := 21) (by decide)) h (by decide)
theorem sd_ln_21 : gk_ln (me z D t u) 1 (some (z + 21)) = some (nI 24) := ev_ln (me_sd (i := 21) (by decide))
theorem sd_is_21 {j : Nat} {x : Int32} (h : j < 24) : gk_is (me z D t u) 1 .char (some (z + 21)) (nI j) x = some (me z D (t.1, up2 t.2.1 21 j (vp_nar .char x), t.2.2) u) := by
  rw [ev_is (me_sd (i := 21) (by decide)) h (by decide)]
  refine congrArg some (me_usd (i := 21) (by decide) ?_ (fun a h1 h2 => ?_))
  · show sd_V z 21 t.1 (up2 t.2.1 21 j (vp_nar .char x) 21) (t.2.2 21) = _
    rw [up2_self]; rfl
  · show sd_V z a t.1 (up2 t.2.1 21 j (vp_nar .char x) a) (t.2.2 a) = _
    rw [up2_ne _ _ _ h2]
theorem sd_ia_22 : gk_ia (me z D t u) 0 (some (z + 22)) = some (24, t.2.1 22) := gk_ia_of (me_sd (i := 22) (by decide))
theorem sd_il_22 {j : Nat} (h : j < 24) : gk_il (me z D t u) 0 (some (z + 22)) (nI j) = some (t.2.1 22 j) := ev_il (me_sd (i := 22) (by decide)) h (by decide)
theorem sd_ln_22 : gk_ln (me z D t u) 0 (some (z + 22)) = some (nI 24) := ev_ln (me_sd (i := 22) (by decide))
theorem sd_is_22 {j : Nat} {x : Int32} (h : j < 24) : gk_is (me z D t u) 0 .int (some (z + 22)) (nI j) x = some (me z D (t.1, up2 t.2.1 22 j (vp_nar .int x), t.2.2) u) := by
  rw [ev_is (me_sd (i := 22) (by decide)) h (by decide)]
  refine congrArg some (me_usd (i := 22) (by decide) ?_ (fun a h1 h2 => ?_))
  · show sd_V z 22 t.1 (up2 t.2.1 22 j (vp_nar .int x) 22) (t.2.2 22) = _
    rw [up2_self]; rfl
  · show sd_V z a t.1 (up2 t.2.1 22 j (vp_nar .int x) a) (t.2.2 a) = _
    rw [up2_ne _ _ _ h2]
theorem sd_ia_23 : gk_ia (me z D t u) 0 (some (z + 23)) = some (104, t.2.1 23) := gk_ia_of (me_sd (i := 23) (by decide))
theorem sd_il_23 {j : Nat} (h : j < 104) : gk_il (me z D t u) 0 (some (z + 23)) (nI j) = some (t.2.1 23 j) := ev_il (me_sd (i := 23) (by decide)) h (by decide)
theorem sd_ln_23 : gk_ln (me z D t u) 0 (some (z + 23)) = some (nI 104) := ev_ln (me_sd (i := 23) (by decide))
theorem sd_is_23 {j : Nat} {x : Int32} (h : j < 104) : gk_is (me z D t u) 0 .int (some (z + 23)) (nI j) x = some (me z D (t.1, up2 t.2.1 23 j (vp_nar .int x), t.2.2) u) := by
  rw [ev_is (me_sd (i := 23) (by decide)) h (by decide)]
  refine congrArg some (me_usd (i := 23) (by decide) ?_ (fun a h1 h2 => ?_))
  · show sd_V z 23 t.1 (up2 t.2.1 23 j (vp_nar .int x) 23) (t.2.2 23) = _
    rw [up2_self]; rfl
  · show sd_V z a t.1 (up2 t.2.1 23 j (vp_nar .int x) a) (t.2.2 a) = _
    rw [up2_ne _ _ _ h2]
theorem sd_ia_24 : gk_ia (me z D t u) 0 (some (z + 24)) = some (104, t.2.1 24) := gk_ia_of (me_sd (i := 24) (by decide))
theorem sd_il_24 {j : Nat} (h : j < 104) : gk_il (me z D t u) 0 (some (z + 24)) (nI j) = some (t.2.1 24 j) := ev_il (me_sd (i := 24) (by decide)) h (by decide)
theorem sd_ln_24 : gk_ln (me z D t u) 0 (some (z + 24)) = some (nI 104) := ev_ln (me_sd (i := 24) (by decide))
theorem sd_is_24 {j : Nat} {x : Int32} (h : j < 104) : gk_is (me z D t u) 0 .int (some (z + 24)) (nI j) x = some (me z D (t.1, up2 t.2.1 24 j (vp_nar .int x), t.2.2) u) := by
  rw [ev_is (me_sd (i := 24) (by decide)) h (by decide)]
  refine congrArg some (me_usd (i := 24) (by decide) ?_ (fun a h1 h2 => ?_))
  · show sd_V z 24 t.1 (up2 t.2.1 24 j (vp_nar .int x) 24) (t.2.2 24) = _
    rw [up2_self]; rfl
  · show sd_V z a t.1 (up2 t.2.1 24 j (vp_nar .int x) a) (t.2.2 a) = _
    rw [up2_ne _ _ _ h2]
theorem sd_ia_25 : gk_ia (me z D t u) 0 (some (z + 25)) = some (8, t.2.1 25) := gk_ia_of (me_sd (i := 25) (by decide))
theorem sd_il_25 {j : Nat} (h : j < 8) : gk_il (me z D t u) 0 (some (z + 25)) (nI j) = some (t.2.1 25 j) := ev_il (me_sd (i := 25) (by decide)) h (by decide)
theorem sd_ln_25 : gk_ln (me z D t u) 0 (some (z + 25)) = some (nI 8) := ev_ln (me_sd (i := 25) (by decide))
theorem sd_is_25 {j : Nat} {x : Int32} (h : j < 8) : gk_is (me z D t u) 0 .int (some (z + 25)) (nI j) x = some (me z D (t.1, up2 t.2.1 25 j (vp_nar .int x), t.2.2) u) := by
  rw [ev_is (me_sd (i := 25) (by decide)) h (by decide)]
  refine congrArg some (me_usd (i := 25) (by decide) ?_ (fun a h1 h2 => ?_))
  · show sd_V z 25 t.1 (up2 t.2.1 25 j (vp_nar .int x) 25) (t.2.2 25) = _
    rw [up2_self]; rfl
  · show sd_V z a t.1 (up2 t.2.1 25 j (vp_nar .int x) a) (t.2.2 a) = _
    rw [up2_ne _ _ _ h2]
theorem sd_ia_26 : gk_ia (me z D t u) 0 (some (z + 26)) = some (16, t.2.1 26) := gk_ia_of (me_sd (i := 26) (by decide))
theorem sd_il_26 {j : Nat} (h : j < 16) : gk_il (me z D t u) 0 (some (z + 26)) (nI j) = some (t.2.1 26 j) := ev_il (me_sd (i := 26) (by decide)) h (by decide)
theorem sd_ln_26 : gk_ln (me z D t u) 0 (some (z + 26)) = some (nI 16) := ev_ln (me_sd (i := 26) (by decide))
theorem sd_is_26 {j : Nat} {x : Int32} (h : j < 16) : gk_is (me z D t u) 0 .int (some (z + 26)) (nI j) x = some (me z D (t.1, up2 t.2.1 26 j (vp_nar .int x), t.2.2) u) := by
  rw [ev_is (me_sd (i := 26) (by decide)) h (by decide)]
  refine congrArg some (me_usd (i := 26) (by decide) ?_ (fun a h1 h2 => ?_))
  · show sd_V z 26 t.1 (up2 t.2.1 26 j (vp_nar .int x) 26) (t.2.2 26) = _
    rw [up2_self]; rfl
  · show sd_V z a t.1 (up2 t.2.1 26 j (vp_nar .int x) a) (t.2.2 a) = _
    rw [up2_ne _ _ _ h2]
theorem sd_al_4 {j : Nat} (h : j < 6) : gk_al (me z D t u) 3 (some (z + 4)) (nI j) = some (t.2.2 4 j) := ev_al (me_sd (i := 4) (by decide)) h (by decide)
theorem sd_sr_4 {j : Nat} {v : Option Nat} (h : j < 6) (hv : v = none ∨ (gk_ob (me z D t u) 2 v).isSome = true) : gk_sr (me z D t u) 3 2 (some (z + 4)) (nI j) v = some (me z D (t.1, t.2.1, up2r t.2.2 4 j v) u) := by
  rw [ev_sr (me_sd (i := 4) (by decide)) h (by decide) hv]
  refine congrArg some (me_usd (i := 4) (by decide) ?_ (fun a h1 h2 => ?_))
  · show sd_V z 4 t.1 (t.2.1 4) (up2r t.2.2 4 j v 4) = _
    rw [up2r_self]; rfl
  · show sd_V z a t.1 (t.2.1 a) (up2r t.2.2 4 j v a) = _
    rw [up2r_ne _ _ _ h2]
theorem sd_al_5 {j : Nat} (h : j < 12) : gk_al (me z D t u) 4 (some (z + 5)) (nI j) = some (t.2.2 5 j) := ev_al (me_sd (i := 5) (by decide)) h (by decide)
theorem sd_sr_5 {j : Nat} {v : Option Nat} (h : j < 12) (hv : v = none ∨ (gk_ob (me z D t u) 4 v).isSome = true) : gk_sr (me z D t u) 4 4 (some (z + 5)) (nI j) v = some (me z D (t.1, t.2.1, up2r t.2.2 5 j v) u) := by
  rw [ev_sr (me_sd (i := 5) (by decide)) h (by decide) hv]
  refine congrArg some (me_usd (i := 5) (by decide) ?_ (fun a h1 h2 => ?_))
  · show sd_V z 5 t.1 (t.2.1 5) (up2r t.2.2 5 j v 5) = _
    rw [up2r_self]; rfl
  · show sd_V z a t.1 (t.2.1 a) (up2r t.2.2 5 j v a) = _
    rw [up2r_ne _ _ _ h2]
theorem sd_al_6 {j : Nat} (h : j < 8) : gk_al (me z D t u) 5 (some (z + 6)) (nI j) = some (t.2.2 6 j) := ev_al (me_sd (i := 6) (by decide)) h (by decide)
theorem sd_sr_6 {j : Nat} {v : Option Nat} (h : j < 8) (hv : v = none ∨ (gk_ob (me z D t u) 5 v).isSome = true) : gk_sr (me z D t u) 5 5 (some (z + 6)) (nI j) v = some (me z D (t.1, t.2.1, up2r t.2.2 6 j v) u) := by
  rw [ev_sr (me_sd (i := 6) (by decide)) h (by decide) hv]
  refine congrArg some (me_usd (i := 6) (by decide) ?_ (fun a h1 h2 => ?_))
  · show sd_V z 6 t.1 (t.2.1 6) (up2r t.2.2 6 j v 6) = _
    rw [up2r_self]; rfl
  · show sd_V z a t.1 (t.2.1 a) (up2r t.2.2 6 j v a) = _
    rw [up2r_ne _ _ _ h2]
theorem sd_al_8 {j : Nat} (h : j < 8) : gk_al (me z D t u) 6 (some (z + 8)) (nI j) = some (t.2.2 8 j) := ev_al (me_sd (i := 8) (by decide)) h (by decide)
theorem sd_sr_8 {j : Nat} {v : Option Nat} (h : j < 8) (hv : v = none ∨ (gk_ob (me z D t u) 6 v).isSome = true) : gk_sr (me z D t u) 6 6 (some (z + 8)) (nI j) v = some (me z D (t.1, t.2.1, up2r t.2.2 8 j v) u) := by
  rw [ev_sr (me_sd (i := 8) (by decide)) h (by decide) hv]
  refine congrArg some (me_usd (i := 8) (by decide) ?_ (fun a h1 h2 => ?_))
  · show sd_V z 8 t.1 (t.2.1 8) (up2r t.2.2 8 j v 8) = _
    rw [up2r_self]; rfl
  · show sd_V z a t.1 (t.2.1 a) (up2r t.2.2 8 j v a) = _
    rw [up2r_ne _ _ _ h2]
theorem mo_at : (me z D t u).1 (z + 27) = some (.inr (12, mo_F z u.1 u.2.1)) := me_mo (r := 0) (by decide)
theorem mo_ob : gk_ob (me z D t u) 12 (some (z + 27)) = some (mo_F z u.1 u.2.1) := gk_ob_of mo_at
theorem mo_us {u1 : Nat → Int32} {K : Int64} {e : gk_E} (he : .inr (12, mo_F z u1 K) = e) : (va_up (me z D t u).1 (z + 27) (some e), (me z D t u).2) = me z D t (u1, K, u.2.2) := me_umo (r := 0) (by decide) (by rw [← he]; rfl) (fun j h1 h2 => by simp only [mo_V, if_neg h2])
theorem mo_gr_0 : gk_gr (me z D t u) 12 0 (some (z + 27)) = some (some (z + 28)) := ev_gr mo_at rfl
theorem mo_ia_0 : gk_ia (me z D t u) 1 (some (z + 28)) = some (24, u.2.2 0) := gk_ia_of (me_mo (r := 1) (by decide))
theorem mo_il_0 {j : Nat} (h : j < 24) : gk_il (me z D t u) 1 (some (z + 28)) (nI j) = some (u.2.2 0 j) := ev_il (a := (z + 28)) (n := 24) (f := u.2.2 0) (me_mo (r := 1) (by decide)) h (by decide)
theorem mo_is_0 {j : Nat} {x : Int32} (h : j < 24) : gk_is (me z D t u) 1 .char (some (z + 28)) (nI j) x = some (me z D t (u.1, u.2.1, up2 u.2.2 0 j (vp_nar .char x))) := by
  refine (ev_is (t := 1) (a := (z + 28)) (n := 24) (f := u.2.2 0) (me_mo (r := 1) (by decide)) h (by decide)).trans ?_
  refine congrArg some (me_umo (r := 1) (by decide) ?_ (fun a h1 h2 => ?_))
  · show (Sum.inl (_, _, Sum.inl (up2 u.2.2 0 j (vp_nar .char x) 0)) : gk_E) = _
    rw [up2_self]; rfl
  · exact mo_upV _ h1 h2 (by decide) rfl
theorem mo_gi_1 : gk_gi (me z D t u) 12 1 (some (z + 27)) = some (u.1 1) := ev_gi mo_at rfl
theorem mo_pf_1 {x : Int32} : gk_pf (me z D t u) 12 1 (some (z + 27)) (.int x) = some (me z D t (upd u.1 1 x, u.2)) := by
  rw [ev_pf mo_at (by show 1 < 57; decide)]
  exact congrArg some (mo_us rfl)
theorem mo_gr_2 : gk_gr (me z D t u) 12 2 (some (z + 27)) = some (some (z + 29)) := ev_gr mo_at rfl
theorem mo_ia_2 : gk_ia (me z D t u) 1 (some (z + 29)) = some (624, u.2.2 2) := gk_ia_of (me_mo (r := 2) (by decide))
theorem mo_il_2 {j : Nat} (h : j < 624) : gk_il (me z D t u) 1 (some (z + 29)) (nI j) = some (u.2.2 2 j) := ev_il (a := (z + 29)) (n := 624) (f := u.2.2 2) (me_mo (r := 2) (by decide)) h (by decide)
theorem mo_is_2 {j : Nat} {x : Int32} (h : j < 624) : gk_is (me z D t u) 1 .char (some (z + 29)) (nI j) x = some (me z D t (u.1, u.2.1, up2 u.2.2 2 j (vp_nar .char x))) := by
  refine (ev_is (t := 1) (a := (z + 29)) (n := 624) (f := u.2.2 2) (me_mo (r := 2) (by decide)) h (by decide)).trans ?_
  refine congrArg some (me_umo (r := 2) (by decide) ?_ (fun a h1 h2 => ?_))
  · show (Sum.inl (_, _, Sum.inl (up2 u.2.2 2 j (vp_nar .char x) 2)) : gk_E) = _
    rw [up2_self]; rfl
  · exact mo_upV _ h1 h2 (by decide) rfl
theorem mo_gr_3 : gk_gr (me z D t u) 12 3 (some (z + 27)) = some (some (z + 30)) := ev_gr mo_at rfl
theorem mo_ia_3 : gk_ia (me z D t u) 0 (some (z + 30)) = some (26, u.2.2 3) := gk_ia_of (me_mo (r := 3) (by decide))
theorem mo_il_3 {j : Nat} (h : j < 26) : gk_il (me z D t u) 0 (some (z + 30)) (nI j) = some (u.2.2 3 j) := ev_il (a := (z + 30)) (n := 26) (f := u.2.2 3) (me_mo (r := 3) (by decide)) h (by decide)
theorem mo_is_3 {j : Nat} {x : Int32} (h : j < 26) : gk_is (me z D t u) 0 .int (some (z + 30)) (nI j) x = some (me z D t (u.1, u.2.1, up2 u.2.2 3 j (vp_nar .int x))) := by
  refine (ev_is (t := 0) (a := (z + 30)) (n := 26) (f := u.2.2 3) (me_mo (r := 3) (by decide)) h (by decide)).trans ?_
  refine congrArg some (me_umo (r := 3) (by decide) ?_ (fun a h1 h2 => ?_))
  · show (Sum.inl (_, _, Sum.inl (up2 u.2.2 3 j (vp_nar .int x) 3)) : gk_E) = _
    rw [up2_self]; rfl
  · exact mo_upV _ h1 h2 (by decide) rfl
theorem mo_gi_4 : gk_gi (me z D t u) 12 4 (some (z + 27)) = some (u.1 4) := ev_gi mo_at rfl
theorem mo_pf_4 {x : Int32} : gk_pf (me z D t u) 12 4 (some (z + 27)) (.int x) = some (me z D t (upd u.1 4 x, u.2)) := by
  rw [ev_pf mo_at (by show 4 < 57; decide)]
  exact congrArg some (mo_us rfl)
theorem mo_gi_5 : gk_gi (me z D t u) 12 5 (some (z + 27)) = some (u.1 5) := ev_gi mo_at rfl
theorem mo_pf_5 {x : Int32} : gk_pf (me z D t u) 12 5 (some (z + 27)) (.int x) = some (me z D t (upd u.1 5 x, u.2)) := by
  rw [ev_pf mo_at (by show 5 < 57; decide)]
  exact congrArg some (mo_us rfl)
theorem mo_gr_6 : gk_gr (me z D t u) 12 6 (some (z + 27)) = some (some (z + 31)) := ev_gr mo_at rfl
theorem mo_ia_6 : gk_ia (me z D t u) 0 (some (z + 31)) = some (12, u.2.2 6) := gk_ia_of (me_mo (r := 4) (by decide))
theorem mo_il_6 {j : Nat} (h : j < 12) : gk_il (me z D t u) 0 (some (z + 31)) (nI j) = some (u.2.2 6 j) := ev_il (a := (z + 31)) (n := 12) (f := u.2.2 6) (me_mo (r := 4) (by decide)) h (by decide)
theorem mo_is_6 {j : Nat} {x : Int32} (h : j < 12) : gk_is (me z D t u) 0 .int (some (z + 31)) (nI j) x = some (me z D t (u.1, u.2.1, up2 u.2.2 6 j (vp_nar .int x))) := by
  refine (ev_is (t := 0) (a := (z + 31)) (n := 12) (f := u.2.2 6) (me_mo (r := 4) (by decide)) h (by decide)).trans ?_
  refine congrArg some (me_umo (r := 4) (by decide) ?_ (fun a h1 h2 => ?_))
  · show (Sum.inl (_, _, Sum.inl (up2 u.2.2 6 j (vp_nar .int x) 6)) : gk_E) = _
    rw [up2_self]; rfl
  · exact mo_upV _ h1 h2 (by decide) rfl
theorem mo_gr_7 : gk_gr (me z D t u) 12 7 (some (z + 27)) = some (some (z + 32)) := ev_gr mo_at rfl
theorem mo_ia_7 : gk_ia (me z D t u) 0 (some (z + 32)) = some (12, u.2.2 7) := gk_ia_of (me_mo (r := 5) (by decide))
theorem mo_il_7 {j : Nat} (h : j < 12) : gk_il (me z D t u) 0 (some (z + 32)) (nI j) = some (u.2.2 7 j) := ev_il (a := (z + 32)) (n := 12) (f := u.2.2 7) (me_mo (r := 5) (by decide)) h (by decide)
theorem mo_is_7 {j : Nat} {x : Int32} (h : j < 12) : gk_is (me z D t u) 0 .int (some (z + 32)) (nI j) x = some (me z D t (u.1, u.2.1, up2 u.2.2 7 j (vp_nar .int x))) := by
  refine (ev_is (t := 0) (a := (z + 32)) (n := 12) (f := u.2.2 7) (me_mo (r := 5) (by decide)) h (by decide)).trans ?_
  refine congrArg some (me_umo (r := 5) (by decide) ?_ (fun a h1 h2 => ?_))
  · show (Sum.inl (_, _, Sum.inl (up2 u.2.2 7 j (vp_nar .int x) 7)) : gk_E) = _
    rw [up2_self]; rfl
  · exact mo_upV _ h1 h2 (by decide) rfl
theorem mo_gr_8 : gk_gr (me z D t u) 12 8 (some (z + 27)) = some (some (z + 33)) := ev_gr mo_at rfl
theorem mo_ia_8 : gk_ia (me z D t u) 0 (some (z + 33)) = some (12, u.2.2 8) := gk_ia_of (me_mo (r := 6) (by decide))
theorem mo_il_8 {j : Nat} (h : j < 12) : gk_il (me z D t u) 0 (some (z + 33)) (nI j) = some (u.2.2 8 j) := ev_il (a := (z + 33)) (n := 12) (f := u.2.2 8) (me_mo (r := 6) (by decide)) h (by decide)
theorem mo_is_8 {j : Nat} {x : Int32} (h : j < 12) : gk_is (me z D t u) 0 .int (some (z + 33)) (nI j) x = some (me z D t (u.1, u.2.1, up2 u.2.2 8 j (vp_nar .int x))) := by
  refine (ev_is (t := 0) (a := (z + 33)) (n := 12) (f := u.2.2 8) (me_mo (r := 6) (by decide)) h (by decide)).trans ?_
  refine congrArg some (me_umo (r := 6) (by decide) ?_ (fun a h1 h2 => ?_))
  · show (Sum.inl (_, _, Sum.inl (up2 u.2.2 8 j (vp_nar .int x) 8)) : gk_E) = _
    rw [up2_self]; rfl
  · exact mo_upV _ h1 h2 (by decide) rfl
theorem mo_gr_9 : gk_gr (me z D t u) 12 9 (some (z + 27)) = some (some (z + 34)) := ev_gr mo_at rfl
theorem mo_ia_9 : gk_ia (me z D t u) 0 (some (z + 34)) = some (12, u.2.2 9) := gk_ia_of (me_mo (r := 7) (by decide))
theorem mo_il_9 {j : Nat} (h : j < 12) : gk_il (me z D t u) 0 (some (z + 34)) (nI j) = some (u.2.2 9 j) := ev_il (a := (z + 34)) (n := 12) (f := u.2.2 9) (me_mo (r := 7) (by decide)) h (by decide)
theorem mo_is_9 {j : Nat} {x : Int32} (h : j < 12) : gk_is (me z D t u) 0 .int (some (z + 34)) (nI j) x = some (me z D t (u.1, u.2.1, up2 u.2.2 9 j (vp_nar .int x))) := by
  refine (ev_is (t := 0) (a := (z + 34)) (n := 12) (f := u.2.2 9) (me_mo (r := 7) (by decide)) h (by decide)).trans ?_
  refine congrArg some (me_umo (r := 7) (by decide) ?_ (fun a h1 h2 => ?_))
  · show (Sum.inl (_, _, Sum.inl (up2 u.2.2 9 j (vp_nar .int x) 9)) : gk_E) = _
    rw [up2_self]; rfl
  · exact mo_upV _ h1 h2 (by decide) rfl
theorem mo_gr_10 : gk_gr (me z D t u) 12 10 (some (z + 27)) = some (some (z + 35)) := ev_gr mo_at rfl
theorem mo_ia_10 : gk_ia (me z D t u) 0 (some (z + 35)) = some (12, u.2.2 10) := gk_ia_of (me_mo (r := 8) (by decide))
theorem mo_il_10 {j : Nat} (h : j < 12) : gk_il (me z D t u) 0 (some (z + 35)) (nI j) = some (u.2.2 10 j) := ev_il (a := (z + 35)) (n := 12) (f := u.2.2 10) (me_mo (r := 8) (by decide)) h (by decide)
theorem mo_is_10 {j : Nat} {x : Int32} (h : j < 12) : gk_is (me z D t u) 0 .int (some (z + 35)) (nI j) x = some (me z D t (u.1, u.2.1, up2 u.2.2 10 j (vp_nar .int x))) := by
  refine (ev_is (t := 0) (a := (z + 35)) (n := 12) (f := u.2.2 10) (me_mo (r := 8) (by decide)) h (by decide)).trans ?_
  refine congrArg some (me_umo (r := 8) (by decide) ?_ (fun a h1 h2 => ?_))
  · show (Sum.inl (_, _, Sum.inl (up2 u.2.2 10 j (vp_nar .int x) 10)) : gk_E) = _
    rw [up2_self]; rfl
  · exact mo_upV _ h1 h2 (by decide) rfl
theorem mo_gr_11 : gk_gr (me z D t u) 12 11 (some (z + 27)) = some (some (z + 36)) := ev_gr mo_at rfl
theorem mo_ia_11 : gk_ia (me z D t u) 0 (some (z + 36)) = some (12, u.2.2 11) := gk_ia_of (me_mo (r := 9) (by decide))
theorem mo_il_11 {j : Nat} (h : j < 12) : gk_il (me z D t u) 0 (some (z + 36)) (nI j) = some (u.2.2 11 j) := ev_il (a := (z + 36)) (n := 12) (f := u.2.2 11) (me_mo (r := 9) (by decide)) h (by decide)
theorem mo_is_11 {j : Nat} {x : Int32} (h : j < 12) : gk_is (me z D t u) 0 .int (some (z + 36)) (nI j) x = some (me z D t (u.1, u.2.1, up2 u.2.2 11 j (vp_nar .int x))) := by
  refine (ev_is (t := 0) (a := (z + 36)) (n := 12) (f := u.2.2 11) (me_mo (r := 9) (by decide)) h (by decide)).trans ?_
  refine congrArg some (me_umo (r := 9) (by decide) ?_ (fun a h1 h2 => ?_))
  · show (Sum.inl (_, _, Sum.inl (up2 u.2.2 11 j (vp_nar .int x) 11)) : gk_E) = _
    rw [up2_self]; rfl
  · exact mo_upV _ h1 h2 (by decide) rfl
theorem mo_gr_12 : gk_gr (me z D t u) 12 12 (some (z + 27)) = some (some (z + 37)) := ev_gr mo_at rfl
theorem mo_ia_12 : gk_ia (me z D t u) 0 (some (z + 37)) = some (12, u.2.2 12) := gk_ia_of (me_mo (r := 10) (by decide))
theorem mo_il_12 {j : Nat} (h : j < 12) : gk_il (me z D t u) 0 (some (z + 37)) (nI j) = some (u.2.2 12 j) := ev_il (a := (z + 37)) (n := 12) (f := u.2.2 12) (me_mo (r := 10) (by decide)) h (by decide)
theorem mo_is_12 {j : Nat} {x : Int32} (h : j < 12) : gk_is (me z D t u) 0 .int (some (z + 37)) (nI j) x = some (me z D t (u.1, u.2.1, up2 u.2.2 12 j (vp_nar .int x))) := by
  refine (ev_is (t := 0) (a := (z + 37)) (n := 12) (f := u.2.2 12) (me_mo (r := 10) (by decide)) h (by decide)).trans ?_
  refine congrArg some (me_umo (r := 10) (by decide) ?_ (fun a h1 h2 => ?_))
  · show (Sum.inl (_, _, Sum.inl (up2 u.2.2 12 j (vp_nar .int x) 12)) : gk_E) = _
    rw [up2_self]; rfl
  · exact mo_upV _ h1 h2 (by decide) rfl
theorem mo_gr_13 : gk_gr (me z D t u) 12 13 (some (z + 27)) = some (some (z + 38)) := ev_gr mo_at rfl
theorem mo_ia_13 : gk_ia (me z D t u) 0 (some (z + 38)) = some (12, u.2.2 13) := gk_ia_of (me_mo (r := 11) (by decide))
theorem mo_il_13 {j : Nat} (h : j < 12) : gk_il (me z D t u) 0 (some (z + 38)) (nI j) = some (u.2.2 13 j) := ev_il (a := (z + 38)) (n := 12) (f := u.2.2 13) (me_mo (r := 11) (by decide)) h (by decide)
theorem mo_is_13 {j : Nat} {x : Int32} (h : j < 12) : gk_is (me z D t u) 0 .int (some (z + 38)) (nI j) x = some (me z D t (u.1, u.2.1, up2 u.2.2 13 j (vp_nar .int x))) := by
  refine (ev_is (t := 0) (a := (z + 38)) (n := 12) (f := u.2.2 13) (me_mo (r := 11) (by decide)) h (by decide)).trans ?_
  refine congrArg some (me_umo (r := 11) (by decide) ?_ (fun a h1 h2 => ?_))
  · show (Sum.inl (_, _, Sum.inl (up2 u.2.2 13 j (vp_nar .int x) 13)) : gk_E) = _
    rw [up2_self]; rfl
  · exact mo_upV _ h1 h2 (by decide) rfl
theorem mo_gi_14 : gk_gi (me z D t u) 12 14 (some (z + 27)) = some (u.1 14) := ev_gi mo_at rfl
theorem mo_pf_14 {x : Int32} : gk_pf (me z D t u) 12 14 (some (z + 27)) (.int x) = some (me z D t (upd u.1 14 x, u.2)) := by
  rw [ev_pf mo_at (by show 14 < 57; decide)]
  exact congrArg some (mo_us rfl)
theorem mo_gr_15 : gk_gr (me z D t u) 12 15 (some (z + 27)) = some (some (z + 39)) := ev_gr mo_at rfl
theorem mo_ia_15 : gk_ia (me z D t u) 0 (some (z + 39)) = some (8, u.2.2 15) := gk_ia_of (me_mo (r := 12) (by decide))
theorem mo_il_15 {j : Nat} (h : j < 8) : gk_il (me z D t u) 0 (some (z + 39)) (nI j) = some (u.2.2 15 j) := ev_il (a := (z + 39)) (n := 8) (f := u.2.2 15) (me_mo (r := 12) (by decide)) h (by decide)
theorem mo_is_15 {j : Nat} {x : Int32} (h : j < 8) : gk_is (me z D t u) 0 .int (some (z + 39)) (nI j) x = some (me z D t (u.1, u.2.1, up2 u.2.2 15 j (vp_nar .int x))) := by
  refine (ev_is (t := 0) (a := (z + 39)) (n := 8) (f := u.2.2 15) (me_mo (r := 12) (by decide)) h (by decide)).trans ?_
  refine congrArg some (me_umo (r := 12) (by decide) ?_ (fun a h1 h2 => ?_))
  · show (Sum.inl (_, _, Sum.inl (up2 u.2.2 15 j (vp_nar .int x) 15)) : gk_E) = _
    rw [up2_self]; rfl
  · exact mo_upV _ h1 h2 (by decide) rfl
theorem mo_gr_16 : gk_gr (me z D t u) 12 16 (some (z + 27)) = some (some (z + 40)) := ev_gr mo_at rfl
theorem mo_ia_16 : gk_ia (me z D t u) 0 (some (z + 40)) = some (8, u.2.2 16) := gk_ia_of (me_mo (r := 13) (by decide))
theorem mo_il_16 {j : Nat} (h : j < 8) : gk_il (me z D t u) 0 (some (z + 40)) (nI j) = some (u.2.2 16 j) := ev_il (a := (z + 40)) (n := 8) (f := u.2.2 16) (me_mo (r := 13) (by decide)) h (by decide)
theorem mo_is_16 {j : Nat} {x : Int32} (h : j < 8) : gk_is (me z D t u) 0 .int (some (z + 40)) (nI j) x = some (me z D t (u.1, u.2.1, up2 u.2.2 16 j (vp_nar .int x))) := by
  refine (ev_is (t := 0) (a := (z + 40)) (n := 8) (f := u.2.2 16) (me_mo (r := 13) (by decide)) h (by decide)).trans ?_
  refine congrArg some (me_umo (r := 13) (by decide) ?_ (fun a h1 h2 => ?_))
  · show (Sum.inl (_, _, Sum.inl (up2 u.2.2 16 j (vp_nar .int x) 16)) : gk_E) = _
    rw [up2_self]; rfl
  · exact mo_upV _ h1 h2 (by decide) rfl
theorem mo_gi_17 : gk_gi (me z D t u) 12 17 (some (z + 27)) = some (u.1 17) := ev_gi mo_at rfl
theorem mo_pf_17 {x : Int32} : gk_pf (me z D t u) 12 17 (some (z + 27)) (.int x) = some (me z D t (upd u.1 17 x, u.2)) := by
  rw [ev_pf mo_at (by show 17 < 57; decide)]
  exact congrArg some (mo_us rfl)
theorem mo_gr_18 : gk_gr (me z D t u) 12 18 (some (z + 27)) = some (some (z + 41)) := ev_gr mo_at rfl
theorem mo_ia_18 : gk_ia (me z D t u) 0 (some (z + 41)) = some (8, u.2.2 18) := gk_ia_of (me_mo (r := 14) (by decide))
theorem mo_il_18 {j : Nat} (h : j < 8) : gk_il (me z D t u) 0 (some (z + 41)) (nI j) = some (u.2.2 18 j) := ev_il (a := (z + 41)) (n := 8) (f := u.2.2 18) (me_mo (r := 14) (by decide)) h (by decide)
theorem mo_is_18 {j : Nat} {x : Int32} (h : j < 8) : gk_is (me z D t u) 0 .int (some (z + 41)) (nI j) x = some (me z D t (u.1, u.2.1, up2 u.2.2 18 j (vp_nar .int x))) := by
  refine (ev_is (t := 0) (a := (z + 41)) (n := 8) (f := u.2.2 18) (me_mo (r := 14) (by decide)) h (by decide)).trans ?_
  refine congrArg some (me_umo (r := 14) (by decide) ?_ (fun a h1 h2 => ?_))
  · show (Sum.inl (_, _, Sum.inl (up2 u.2.2 18 j (vp_nar .int x) 18)) : gk_E) = _
    rw [up2_self]; rfl
  · exact mo_upV _ h1 h2 (by decide) rfl
theorem mo_gr_19 : gk_gr (me z D t u) 12 19 (some (z + 27)) = some (some (z + 42)) := ev_gr mo_at rfl
theorem mo_ia_19 : gk_ia (me z D t u) 0 (some (z + 42)) = some (8, u.2.2 19) := gk_ia_of (me_mo (r := 15) (by decide))
theorem mo_il_19 {j : Nat} (h : j < 8) : gk_il (me z D t u) 0 (some (z + 42)) (nI j) = some (u.2.2 19 j) := ev_il (a := (z + 42)) (n := 8) (f := u.2.2 19) (me_mo (r := 15) (by decide)) h (by decide)
theorem mo_is_19 {j : Nat} {x : Int32} (h : j < 8) : gk_is (me z D t u) 0 .int (some (z + 42)) (nI j) x = some (me z D t (u.1, u.2.1, up2 u.2.2 19 j (vp_nar .int x))) := by
  refine (ev_is (t := 0) (a := (z + 42)) (n := 8) (f := u.2.2 19) (me_mo (r := 15) (by decide)) h (by decide)).trans ?_
  refine congrArg some (me_umo (r := 15) (by decide) ?_ (fun a h1 h2 => ?_))
  · show (Sum.inl (_, _, Sum.inl (up2 u.2.2 19 j (vp_nar .int x) 19)) : gk_E) = _
    rw [up2_self]; rfl
  · exact mo_upV _ h1 h2 (by decide) rfl
theorem mo_gr_20 : gk_gr (me z D t u) 12 20 (some (z + 27)) = some (some (z + 43)) := ev_gr mo_at rfl
theorem mo_ia_20 : gk_ia (me z D t u) 0 (some (z + 43)) = some (8, u.2.2 20) := gk_ia_of (me_mo (r := 16) (by decide))
theorem mo_il_20 {j : Nat} (h : j < 8) : gk_il (me z D t u) 0 (some (z + 43)) (nI j) = some (u.2.2 20 j) := ev_il (a := (z + 43)) (n := 8) (f := u.2.2 20) (me_mo (r := 16) (by decide)) h (by decide)
theorem mo_is_20 {j : Nat} {x : Int32} (h : j < 8) : gk_is (me z D t u) 0 .int (some (z + 43)) (nI j) x = some (me z D t (u.1, u.2.1, up2 u.2.2 20 j (vp_nar .int x))) := by
  refine (ev_is (t := 0) (a := (z + 43)) (n := 8) (f := u.2.2 20) (me_mo (r := 16) (by decide)) h (by decide)).trans ?_
  refine congrArg some (me_umo (r := 16) (by decide) ?_ (fun a h1 h2 => ?_))
  · show (Sum.inl (_, _, Sum.inl (up2 u.2.2 20 j (vp_nar .int x) 20)) : gk_E) = _
    rw [up2_self]; rfl
  · exact mo_upV _ h1 h2 (by decide) rfl
theorem mo_gr_21 : gk_gr (me z D t u) 12 21 (some (z + 27)) = some (some (z + 44)) := ev_gr mo_at rfl
theorem mo_ia_21 : gk_ia (me z D t u) 0 (some (z + 44)) = some (8, u.2.2 21) := gk_ia_of (me_mo (r := 17) (by decide))
theorem mo_il_21 {j : Nat} (h : j < 8) : gk_il (me z D t u) 0 (some (z + 44)) (nI j) = some (u.2.2 21 j) := ev_il (a := (z + 44)) (n := 8) (f := u.2.2 21) (me_mo (r := 17) (by decide)) h (by decide)
theorem mo_is_21 {j : Nat} {x : Int32} (h : j < 8) : gk_is (me z D t u) 0 .int (some (z + 44)) (nI j) x = some (me z D t (u.1, u.2.1, up2 u.2.2 21 j (vp_nar .int x))) := by
  refine (ev_is (t := 0) (a := (z + 44)) (n := 8) (f := u.2.2 21) (me_mo (r := 17) (by decide)) h (by decide)).trans ?_
  refine congrArg some (me_umo (r := 17) (by decide) ?_ (fun a h1 h2 => ?_))
  · show (Sum.inl (_, _, Sum.inl (up2 u.2.2 21 j (vp_nar .int x) 21)) : gk_E) = _
    rw [up2_self]; rfl
  · exact mo_upV _ h1 h2 (by decide) rfl
theorem mo_gr_22 : gk_gr (me z D t u) 12 22 (some (z + 27)) = some (some (z + 45)) := ev_gr mo_at rfl
theorem mo_ia_22 : gk_ia (me z D t u) 0 (some (z + 45)) = some (8, u.2.2 22) := gk_ia_of (me_mo (r := 18) (by decide))
theorem mo_il_22 {j : Nat} (h : j < 8) : gk_il (me z D t u) 0 (some (z + 45)) (nI j) = some (u.2.2 22 j) := ev_il (a := (z + 45)) (n := 8) (f := u.2.2 22) (me_mo (r := 18) (by decide)) h (by decide)
theorem mo_is_22 {j : Nat} {x : Int32} (h : j < 8) : gk_is (me z D t u) 0 .int (some (z + 45)) (nI j) x = some (me z D t (u.1, u.2.1, up2 u.2.2 22 j (vp_nar .int x))) := by
  refine (ev_is (t := 0) (a := (z + 45)) (n := 8) (f := u.2.2 22) (me_mo (r := 18) (by decide)) h (by decide)).trans ?_
  refine congrArg some (me_umo (r := 18) (by decide) ?_ (fun a h1 h2 => ?_))
  · show (Sum.inl (_, _, Sum.inl (up2 u.2.2 22 j (vp_nar .int x) 22)) : gk_E) = _
    rw [up2_self]; rfl
  · exact mo_upV _ h1 h2 (by decide) rfl
theorem mo_gr_23 : gk_gr (me z D t u) 12 23 (some (z + 27)) = some (some (z + 46)) := ev_gr mo_at rfl
theorem mo_ia_23 : gk_ia (me z D t u) 2 (some (z + 46)) = some (8, u.2.2 23) := gk_ia_of (me_mo (r := 19) (by decide))
theorem mo_il_23 {j : Nat} (h : j < 8) : gk_il (me z D t u) 2 (some (z + 46)) (nI j) = some (u.2.2 23 j) := ev_il (a := (z + 46)) (n := 8) (f := u.2.2 23) (me_mo (r := 19) (by decide)) h (by decide)
theorem mo_is_23 {j : Nat} {x : Int32} (h : j < 8) : gk_is (me z D t u) 2 .boolean (some (z + 46)) (nI j) x = some (me z D t (u.1, u.2.1, up2 u.2.2 23 j (vp_nar .boolean x))) := by
  refine (ev_is (t := 2) (a := (z + 46)) (n := 8) (f := u.2.2 23) (me_mo (r := 19) (by decide)) h (by decide)).trans ?_
  refine congrArg some (me_umo (r := 19) (by decide) ?_ (fun a h1 h2 => ?_))
  · show (Sum.inl (_, _, Sum.inl (up2 u.2.2 23 j (vp_nar .boolean x) 23)) : gk_E) = _
    rw [up2_self]; rfl
  · exact mo_upV _ h1 h2 (by decide) rfl
theorem mo_gr_24 : gk_gr (me z D t u) 12 24 (some (z + 27)) = some (some (z + 47)) := ev_gr mo_at rfl
theorem mo_ia_24 : gk_ia (me z D t u) 0 (some (z + 47)) = some (16, u.2.2 24) := gk_ia_of (me_mo (r := 20) (by decide))
theorem mo_il_24 {j : Nat} (h : j < 16) : gk_il (me z D t u) 0 (some (z + 47)) (nI j) = some (u.2.2 24 j) := ev_il (a := (z + 47)) (n := 16) (f := u.2.2 24) (me_mo (r := 20) (by decide)) h (by decide)
theorem mo_is_24 {j : Nat} {x : Int32} (h : j < 16) : gk_is (me z D t u) 0 .int (some (z + 47)) (nI j) x = some (me z D t (u.1, u.2.1, up2 u.2.2 24 j (vp_nar .int x))) := by
  refine (ev_is (t := 0) (a := (z + 47)) (n := 16) (f := u.2.2 24) (me_mo (r := 20) (by decide)) h (by decide)).trans ?_
  refine congrArg some (me_umo (r := 20) (by decide) ?_ (fun a h1 h2 => ?_))
  · show (Sum.inl (_, _, Sum.inl (up2 u.2.2 24 j (vp_nar .int x) 24)) : gk_E) = _
    rw [up2_self]; rfl
  · exact mo_upV _ h1 h2 (by decide) rfl
theorem mo_gi_25 : gk_gi (me z D t u) 12 25 (some (z + 27)) = some (u.1 25) := ev_gi mo_at rfl
theorem mo_pf_25 {x : Int32} : gk_pf (me z D t u) 12 25 (some (z + 27)) (.int x) = some (me z D t (upd u.1 25 x, u.2)) := by
  rw [ev_pf mo_at (by show 25 < 57; decide)]
  exact congrArg some (mo_us rfl)
theorem mo_gr_26 : gk_gr (me z D t u) 12 26 (some (z + 27)) = some (some (z + 48)) := ev_gr mo_at rfl
theorem mo_ia_26 : gk_ia (me z D t u) 0 (some (z + 48)) = some (4, u.2.2 26) := gk_ia_of (me_mo (r := 21) (by decide))
theorem mo_il_26 {j : Nat} (h : j < 4) : gk_il (me z D t u) 0 (some (z + 48)) (nI j) = some (u.2.2 26 j) := ev_il (a := (z + 48)) (n := 4) (f := u.2.2 26) (me_mo (r := 21) (by decide)) h (by decide)
theorem mo_is_26 {j : Nat} {x : Int32} (h : j < 4) : gk_is (me z D t u) 0 .int (some (z + 48)) (nI j) x = some (me z D t (u.1, u.2.1, up2 u.2.2 26 j (vp_nar .int x))) := by
  refine (ev_is (t := 0) (a := (z + 48)) (n := 4) (f := u.2.2 26) (me_mo (r := 21) (by decide)) h (by decide)).trans ?_
  refine congrArg some (me_umo (r := 21) (by decide) ?_ (fun a h1 h2 => ?_))
  · show (Sum.inl (_, _, Sum.inl (up2 u.2.2 26 j (vp_nar .int x) 26)) : gk_E) = _
    rw [up2_self]; rfl
  · exact mo_upV _ h1 h2 (by decide) rfl
theorem mo_gr_27 : gk_gr (me z D t u) 12 27 (some (z + 27)) = some (some (z + 49)) := ev_gr mo_at rfl
theorem mo_ia_27 : gk_ia (me z D t u) 0 (some (z + 49)) = some (4, u.2.2 27) := gk_ia_of (me_mo (r := 22) (by decide))
theorem mo_il_27 {j : Nat} (h : j < 4) : gk_il (me z D t u) 0 (some (z + 49)) (nI j) = some (u.2.2 27 j) := ev_il (a := (z + 49)) (n := 4) (f := u.2.2 27) (me_mo (r := 22) (by decide)) h (by decide)
theorem mo_is_27 {j : Nat} {x : Int32} (h : j < 4) : gk_is (me z D t u) 0 .int (some (z + 49)) (nI j) x = some (me z D t (u.1, u.2.1, up2 u.2.2 27 j (vp_nar .int x))) := by
  refine (ev_is (t := 0) (a := (z + 49)) (n := 4) (f := u.2.2 27) (me_mo (r := 22) (by decide)) h (by decide)).trans ?_
  refine congrArg some (me_umo (r := 22) (by decide) ?_ (fun a h1 h2 => ?_))
  · show (Sum.inl (_, _, Sum.inl (up2 u.2.2 27 j (vp_nar .int x) 27)) : gk_E) = _
    rw [up2_self]; rfl
  · exact mo_upV _ h1 h2 (by decide) rfl
theorem mo_gr_28 : gk_gr (me z D t u) 12 28 (some (z + 27)) = some (some (z + 50)) := ev_gr mo_at rfl
theorem mo_ia_28 : gk_ia (me z D t u) 1 (some (z + 50)) = some (24, u.2.2 28) := gk_ia_of (me_mo (r := 23) (by decide))
theorem mo_il_28 {j : Nat} (h : j < 24) : gk_il (me z D t u) 1 (some (z + 50)) (nI j) = some (u.2.2 28 j) := ev_il (a := (z + 50)) (n := 24) (f := u.2.2 28) (me_mo (r := 23) (by decide)) h (by decide)
theorem mo_is_28 {j : Nat} {x : Int32} (h : j < 24) : gk_is (me z D t u) 1 .char (some (z + 50)) (nI j) x = some (me z D t (u.1, u.2.1, up2 u.2.2 28 j (vp_nar .char x))) := by
  refine (ev_is (t := 1) (a := (z + 50)) (n := 24) (f := u.2.2 28) (me_mo (r := 23) (by decide)) h (by decide)).trans ?_
  refine congrArg some (me_umo (r := 23) (by decide) ?_ (fun a h1 h2 => ?_))
  · show (Sum.inl (_, _, Sum.inl (up2 u.2.2 28 j (vp_nar .char x) 28)) : gk_E) = _
    rw [up2_self]; rfl
  · exact mo_upV _ h1 h2 (by decide) rfl
theorem mo_gi_29 : gk_gi (me z D t u) 12 29 (some (z + 27)) = some (u.1 29) := ev_gi mo_at rfl
theorem mo_pf_29 {x : Int32} : gk_pf (me z D t u) 12 29 (some (z + 27)) (.int x) = some (me z D t (upd u.1 29 x, u.2)) := by
  rw [ev_pf mo_at (by show 29 < 57; decide)]
  exact congrArg some (mo_us rfl)
theorem mo_gi_30 : gk_gi (me z D t u) 12 30 (some (z + 27)) = some (u.1 30) := ev_gi mo_at rfl
theorem mo_pf_30 {x : Int32} : gk_pf (me z D t u) 12 30 (some (z + 27)) (.int x) = some (me z D t (upd u.1 30 x, u.2)) := by
  rw [ev_pf mo_at (by show 30 < 57; decide)]
  exact congrArg some (mo_us rfl)
theorem mo_gi_31 : gk_gi (me z D t u) 12 31 (some (z + 27)) = some (u.1 31) := ev_gi mo_at rfl
theorem mo_pf_31 {x : Int32} : gk_pf (me z D t u) 12 31 (some (z + 27)) (.int x) = some (me z D t (upd u.1 31 x, u.2)) := by
  rw [ev_pf mo_at (by show 31 < 57; decide)]
  exact congrArg some (mo_us rfl)
theorem mo_gi_32 : gk_gi (me z D t u) 12 32 (some (z + 27)) = some (u.1 32) := ev_gi mo_at rfl
theorem mo_pf_32 {x : Int32} : gk_pf (me z D t u) 12 32 (some (z + 27)) (.int x) = some (me z D t (upd u.1 32 x, u.2)) := by
  rw [ev_pf mo_at (by show 32 < 57; decide)]
  exact congrArg some (mo_us rfl)
theorem mo_gi_33 : gk_gi (me z D t u) 12 33 (some (z + 27)) = some (u.1 33) := ev_gi mo_at rfl
theorem mo_pf_33 {x : Int32} : gk_pf (me z D t u) 12 33 (some (z + 27)) (.int x) = some (me z D t (upd u.1 33 x, u.2)) := by
  rw [ev_pf mo_at (by show 33 < 57; decide)]
  exact congrArg some (mo_us rfl)
theorem mo_gi_34 : gk_gi (me z D t u) 12 34 (some (z + 27)) = some (u.1 34) := ev_gi mo_at rfl
theorem mo_pf_34 {x : Int32} : gk_pf (me z D t u) 12 34 (some (z + 27)) (.int x) = some (me z D t (upd u.1 34 x, u.2)) := by
  rw [ev_pf mo_at (by show 34 < 57; decide)]
  exact congrArg some (mo_us rfl)
theorem mo_gi_35 : gk_gi (me z D t u) 12 35 (some (z + 27)) = some (u.1 35) := ev_gi mo_at rfl
theorem mo_pf_35 {x : Int32} : gk_pf (me z D t u) 12 35 (some (z + 27)) (.int x) = some (me z D t (upd u.1 35 x, u.2)) := by
  rw [ev_pf mo_at (by show 35 < 57; decide)]
  exact congrArg some (mo_us rfl)
theorem mo_gi_36 : gk_gi (me z D t u) 12 36 (some (z + 27)) = some (u.1 36) := ev_gi mo_at rfl
theorem mo_pf_36 {x : Int32} : gk_pf (me z D t u) 12 36 (some (z + 27)) (.int x) = some (me z D t (upd u.1 36 x, u.2)) := by
  rw [ev_pf mo_at (by show 36 < 57; decide)]
  exact congrArg some (mo_us rfl)
theorem mo_gi_37 : gk_gi (me z D t u) 12 37 (some (z + 27)) = some (u.1 37) := ev_gi mo_at rfl
theorem mo_pf_37 {x : Int32} : gk_pf (me z D t u) 12 37 (some (z + 27)) (.int x) = some (me z D t (upd u.1 37 x, u.2)) := by
  rw [ev_pf mo_at (by show 37 < 57; decide)]
  exact congrArg some (mo_us rfl)
theorem mo_gi_38 : gk_gi (me z D t u) 12 38 (some (z + 27)) = some (u.1 38) := ev_gi mo_at rfl
theorem mo_pf_38 {x : Int32} : gk_pf (me z D t u) 12 38 (some (z + 27)) (.int x) = some (me z D t (upd u.1 38 x, u.2)) := by
  rw [ev_pf mo_at (by show 38 < 57; decide)]
  exact congrArg some (mo_us rfl)
theorem mo_gi_39 : gk_gi (me z D t u) 12 39 (some (z + 27)) = some (u.1 39) := ev_gi mo_at rfl
theorem mo_pf_39 {x : Int32} : gk_pf (me z D t u) 12 39 (some (z + 27)) (.int x) = some (me z D t (upd u.1 39 x, u.2)) := by
  rw [ev_pf mo_at (by show 39 < 57; decide)]
  exact congrArg some (mo_us rfl)
theorem mo_gi_40 : gk_gi (me z D t u) 12 40 (some (z + 27)) = some (u.1 40) := ev_gi mo_at rfl
theorem mo_pf_40 {x : Int32} : gk_pf (me z D t u) 12 40 (some (z + 27)) (.int x) = some (me z D t (upd u.1 40 x, u.2)) := by
  rw [ev_pf mo_at (by show 40 < 57; decide)]
  exact congrArg some (mo_us rfl)
theorem mo_gr_41 : gk_gr (me z D t u) 12 41 (some (z + 27)) = some (some (z + 51)) := ev_gr mo_at rfl
theorem mo_ia_41 : gk_ia (me z D t u) 0 (some (z + 51)) = some (26, u.2.2 41) := gk_ia_of (me_mo (r := 24) (by decide))
theorem mo_il_41 {j : Nat} (h : j < 26) : gk_il (me z D t u) 0 (some (z + 51)) (nI j) = some (u.2.2 41 j) := ev_il (a := (z + 51)) (n := 26) (f := u.2.2 41) (me_mo (r := 24) (by decide)) h (by decide)
theorem mo_is_41 {j : Nat} {x : Int32} (h : j < 26) : gk_is (me z D t u) 0 .int (some (z + 51)) (nI j) x = some (me z D t (u.1, u.2.1, up2 u.2.2 41 j (vp_nar .int x))) := by
  refine (ev_is (t := 0) (a := (z + 51)) (n := 26) (f := u.2.2 41) (me_mo (r := 24) (by decide)) h (by decide)).trans ?_
  refine congrArg some (me_umo (r := 24) (by decide) ?_ (fun a h1 h2 => ?_))
  · show (Sum.inl (_, _, Sum.inl (up2 u.2.2 41 j (vp_nar .int x) 41)) : gk_E) = _
    rw [up2_self]; rfl
  · exact mo_upV _ h1 h2 (by decide) rfl
theorem mo_gi_42 : gk_gi (me z D t u) 12 42 (some (z + 27)) = some (u.1 42) := ev_gi mo_at rfl
theorem mo_pf_42 {x : Int32} : gk_pf (me z D t u) 12 42 (some (z + 27)) (.int x) = some (me z D t (upd u.1 42 x, u.2)) := by
  rw [ev_pf mo_at (by show 42 < 57; decide)]
  exact congrArg some (mo_us rfl)
theorem mo_gr_43 : gk_gr (me z D t u) 12 43 (some (z + 27)) = some (some (z + 52)) := ev_gr mo_at rfl
theorem mo_ia_43 : gk_ia (me z D t u) 0 (some (z + 52)) = some (112, u.2.2 43) := gk_ia_of (me_mo (r := 25) (by decide))
theorem mo_il_43 {j : Nat} (h : j < 112) : gk_il (me z D t u) 0 (some (z + 52)) (nI j) = some (u.2.2 43 j) := ev_il (a := (z + 52)) (n := 112) (f := u.2.2 43) (me_mo (r := 25) (by decide)) h (by decide)
theorem mo_is_43 {j : Nat} {x : Int32} (h : j < 112) : gk_is (me z D t u) 0 .int (some (z + 52)) (nI j) x = some (me z D t (u.1, u.2.1, up2 u.2.2 43 j (vp_nar .int x))) := by
  refine (ev_is (t := 0) (a := (z + 52)) (n := 112) (f := u.2.2 43) (me_mo (r := 25) (by decide)) h (by decide)).trans ?_
  refine congrArg some (me_umo (r := 25) (by decide) ?_ (fun a h1 h2 => ?_))
  · show (Sum.inl (_, _, Sum.inl (up2 u.2.2 43 j (vp_nar .int x) 43)) : gk_E) = _
    rw [up2_self]; rfl
  · exact mo_upV _ h1 h2 (by decide) rfl
theorem mo_gr_44 : gk_gr (me z D t u) 12 44 (some (z + 27)) = some (some (z + 53)) := ev_gr mo_at rfl
theorem mo_ia_44 : gk_ia (me z D t u) 0 (some (z + 53)) = some (112, u.2.2 44) := gk_ia_of (me_mo (r := 26) (by decide))
theorem mo_il_44 {j : Nat} (h : j < 112) : gk_il (me z D t u) 0 (some (z + 53)) (nI j) = some (u.2.2 44 j) := ev_il (a := (z + 53)) (n := 112) (f := u.2.2 44) (me_mo (r := 26) (by decide)) h (by decide)
theorem mo_is_44 {j : Nat} {x : Int32} (h : j < 112) : gk_is (me z D t u) 0 .int (some (z + 53)) (nI j) x = some (me z D t (u.1, u.2.1, up2 u.2.2 44 j (vp_nar .int x))) := by
  refine (ev_is (t := 0) (a := (z + 53)) (n := 112) (f := u.2.2 44) (me_mo (r := 26) (by decide)) h (by decide)).trans ?_
  refine congrArg some (me_umo (r := 26) (by decide) ?_ (fun a h1 h2 => ?_))
  · show (Sum.inl (_, _, Sum.inl (up2 u.2.2 44 j (vp_nar .int x) 44)) : gk_E) = _
    rw [up2_self]; rfl
  · exact mo_upV _ h1 h2 (by decide) rfl
theorem mo_gi_45 : gk_gi (me z D t u) 12 45 (some (z + 27)) = some (u.1 45) := ev_gi mo_at rfl
theorem mo_pf_45 {x : Int32} : gk_pf (me z D t u) 12 45 (some (z + 27)) (.int x) = some (me z D t (upd u.1 45 x, u.2)) := by
  rw [ev_pf mo_at (by show 45 < 57; decide)]
  exact congrArg some (mo_us rfl)
theorem mo_gr_46 : gk_gr (me z D t u) 12 46 (some (z + 27)) = some (some (z + 54)) := ev_gr mo_at rfl
theorem mo_ia_46 : gk_ia (me z D t u) 0 (some (z + 54)) = some (8, u.2.2 46) := gk_ia_of (me_mo (r := 27) (by decide))
theorem mo_il_46 {j : Nat} (h : j < 8) : gk_il (me z D t u) 0 (some (z + 54)) (nI j) = some (u.2.2 46 j) := ev_il (a := (z + 54)) (n := 8) (f := u.2.2 46) (me_mo (r := 27) (by decide)) h (by decide)
theorem mo_is_46 {j : Nat} {x : Int32} (h : j < 8) : gk_is (me z D t u) 0 .int (some (z + 54)) (nI j) x = some (me z D t (u.1, u.2.1, up2 u.2.2 46 j (vp_nar .int x))) := by
  refine (ev_is (t := 0) (a := (z + 54)) (n := 8) (f := u.2.2 46) (me_mo (r := 27) (by decide)) h (by decide)).trans ?_
  refine congrArg some (me_umo (r := 27) (by decide) ?_ (fun a h1 h2 => ?_))
  · show (Sum.inl (_, _, Sum.inl (up2 u.2.2 46 j (vp_nar .int x) 46)) : gk_E) = _
    rw [up2_self]; rfl
  · exact mo_upV _ h1 h2 (by decide) rfl
theorem mo_gi_47 : gk_gi (me z D t u) 12 47 (some (z + 27)) = some (u.1 47) := ev_gi mo_at rfl
theorem mo_pf_47 {x : Int32} : gk_pf (me z D t u) 12 47 (some (z + 27)) (.int x) = some (me z D t (upd u.1 47 x, u.2)) := by
  rw [ev_pf mo_at (by show 47 < 57; decide)]
  exact congrArg some (mo_us rfl)
theorem mo_gr_48 : gk_gr (me z D t u) 12 48 (some (z + 27)) = some (some (z + 55)) := ev_gr mo_at rfl
theorem mo_ia_48 : gk_ia (me z D t u) 0 (some (z + 55)) = some (24, u.2.2 48) := gk_ia_of (me_mo (r := 28) (by decide))
theorem mo_il_48 {j : Nat} (h : j < 24) : gk_il (me z D t u) 0 (some (z + 55)) (nI j) = some (u.2.2 48 j) := ev_il (a := (z + 55)) (n := 24) (f := u.2.2 48) (me_mo (r := 28) (by decide)) h (by decide)
theorem mo_is_48 {j : Nat} {x : Int32} (h : j < 24) : gk_is (me z D t u) 0 .int (some (z + 55)) (nI j) x = some (me z D t (u.1, u.2.1, up2 u.2.2 48 j (vp_nar .int x))) := by
  refine (ev_is (t := 0) (a := (z + 55)) (n := 24) (f := u.2.2 48) (me_mo (r := 28) (by decide)) h (by decide)).trans ?_
  refine congrArg some (me_umo (r := 28) (by decide) ?_ (fun a h1 h2 => ?_))
  · show (Sum.inl (_, _, Sum.inl (up2 u.2.2 48 j (vp_nar .int x) 48)) : gk_E) = _
    rw [up2_self]; rfl
  · exact mo_upV _ h1 h2 (by decide) rfl
theorem mo_gr_49 : gk_gr (me z D t u) 12 49 (some (z + 27)) = some (some (z + 56)) := ev_gr mo_at rfl
theorem mo_ia_49 : gk_ia (me z D t u) 2 (some (z + 56)) = some (625, u.2.2 49) := gk_ia_of (me_mo (r := 29) (by decide))
theorem mo_il_49 {j : Nat} (h : j < 625) : gk_il (me z D t u) 2 (some (z + 56)) (nI j) = some (u.2.2 49 j) := ev_il (a := (z + 56)) (n := 625) (f := u.2.2 49) (me_mo (r := 29) (by decide)) h (by decide)
theorem mo_is_49 {j : Nat} {x : Int32} (h : j < 625) : gk_is (me z D t u) 2 .boolean (some (z + 56)) (nI j) x = some (me z D t (u.1, u.2.1, up2 u.2.2 49 j (vp_nar .boolean x))) := by
  refine (ev_is (t := 2) (a := (z + 56)) (n := 625) (f := u.2.2 49) (me_mo (r := 29) (by decide)) h (by decide)).trans ?_
  refine congrArg some (me_umo (r := 29) (by decide) ?_ (fun a h1 h2 => ?_))
  · show (Sum.inl (_, _, Sum.inl (up2 u.2.2 49 j (vp_nar .boolean x) 49)) : gk_E) = _
    rw [up2_self]; rfl
  · exact mo_upV _ h1 h2 (by decide) rfl
theorem mo_gi_50 : gk_gi (me z D t u) 12 50 (some (z + 27)) = some (u.1 50) := ev_gi mo_at rfl
theorem mo_pf_50 {x : Int32} : gk_pf (me z D t u) 12 50 (some (z + 27)) (.int x) = some (me z D t (upd u.1 50 x, u.2)) := by
  rw [ev_pf mo_at (by show 50 < 57; decide)]
  exact congrArg some (mo_us rfl)
theorem mo_gr_51 : gk_gr (me z D t u) 12 51 (some (z + 27)) = some (some (z + 57)) := ev_gr mo_at rfl
theorem mo_ia_51 : gk_ia (me z D t u) 0 (some (z + 57)) = some (24, u.2.2 51) := gk_ia_of (me_mo (r := 30) (by decide))
theorem mo_il_51 {j : Nat} (h : j < 24) : gk_il (me z D t u) 0 (some (z + 57)) (nI j) = some (u.2.2 51 j) := ev_il (a := (z + 57)) (n := 24) (f := u.2.2 51) (me_mo (r := 30) (by decide)) h (by decide)
theorem mo_is_51 {j : Nat} {x : Int32} (h : j < 24) : gk_is (me z D t u) 0 .int (some (z + 57)) (nI j) x = some (me z D t (u.1, u.2.1, up2 u.2.2 51 j (vp_nar .int x))) := by
  refine (ev_is (t := 0) (a := (z + 57)) (n := 24) (f := u.2.2 51) (me_mo (r := 30) (by decide)) h (by decide)).trans ?_
  refine congrArg some (me_umo (r := 30) (by decide) ?_ (fun a h1 h2 => ?_))
  · show (Sum.inl (_, _, Sum.inl (up2 u.2.2 51 j (vp_nar .int x) 51)) : gk_E) = _
    rw [up2_self]; rfl
  · exact mo_upV _ h1 h2 (by decide) rfl
theorem mo_gr_52 : gk_gr (me z D t u) 12 52 (some (z + 27)) = some (some (z + 58)) := ev_gr mo_at rfl
theorem mo_ia_52 : gk_ia (me z D t u) 0 (some (z + 58)) = some (24, u.2.2 52) := gk_ia_of (me_mo (r := 31) (by decide))
theorem mo_il_52 {j : Nat} (h : j < 24) : gk_il (me z D t u) 0 (some (z + 58)) (nI j) = some (u.2.2 52 j) := ev_il (a := (z + 58)) (n := 24) (f := u.2.2 52) (me_mo (r := 31) (by decide)) h (by decide)
theorem mo_is_52 {j : Nat} {x : Int32} (h : j < 24) : gk_is (me z D t u) 0 .int (some (z + 58)) (nI j) x = some (me z D t (u.1, u.2.1, up2 u.2.2 52 j (vp_nar .int x))) := by
  refine (ev_is (t := 0) (a := (z + 58)) (n := 24) (f := u.2.2 52) (me_mo (r := 31) (by decide)) h (by decide)).trans ?_
  refine congrArg some (me_umo (r := 31) (by decide) ?_ (fun a h1 h2 => ?_))
  · show (Sum.inl (_, _, Sum.inl (up2 u.2.2 52 j (vp_nar .int x) 52)) : gk_E) = _
    rw [up2_self]; rfl
  · exact mo_upV _ h1 h2 (by decide) rfl
theorem mo_gr_53 : gk_gr (me z D t u) 12 53 (some (z + 27)) = some (some (z + 59)) := ev_gr mo_at rfl
theorem mo_ia_53 : gk_ia (me z D t u) 2 (some (z + 59)) = some (6, u.2.2 53) := gk_ia_of (me_mo (r := 32) (by decide))
theorem mo_il_53 {j : Nat} (h : j < 6) : gk_il (me z D t u) 2 (some (z + 59)) (nI j) = some (u.2.2 53 j) := ev_il (a := (z + 59)) (n := 6) (f := u.2.2 53) (me_mo (r := 32) (by decide)) h (by decide)
theorem mo_is_53 {j : Nat} {x : Int32} (h : j < 6) : gk_is (me z D t u) 2 .boolean (some (z + 59)) (nI j) x = some (me z D t (u.1, u.2.1, up2 u.2.2 53 j (vp_nar .boolean x))) := by
  refine (ev_is (t := 2) (a := (z + 59)) (n := 6) (f := u.2.2 53) (me_mo (r := 32) (by decide)) h (by decide)).trans ?_
  refine congrArg some (me_umo (r := 32) (by decide) ?_ (fun a h1 h2 => ?_))
  · show (Sum.inl (_, _, Sum.inl (up2 u.2.2 53 j (vp_nar .boolean x) 53)) : gk_E) = _
    rw [up2_self]; rfl
  · exact mo_upV _ h1 h2 (by decide) rfl
theorem mo_gr_54 : gk_gr (me z D t u) 12 54 (some (z + 27)) = some (some (z + 60)) := ev_gr mo_at rfl
theorem mo_ia_54 : gk_ia (me z D t u) 2 (some (z + 60)) = some (12, u.2.2 54) := gk_ia_of (me_mo (r := 33) (by decide))
theorem mo_il_54 {j : Nat} (h : j < 12) : gk_il (me z D t u) 2 (some (z + 60)) (nI j) = some (u.2.2 54 j) := ev_il (a := (z + 60)) (n := 12) (f := u.2.2 54) (me_mo (r := 33) (by decide)) h (by decide)
theorem mo_is_54 {j : Nat} {x : Int32} (h : j < 12) : gk_is (me z D t u) 2 .boolean (some (z + 60)) (nI j) x = some (me z D t (u.1, u.2.1, up2 u.2.2 54 j (vp_nar .boolean x))) := by
  refine (ev_is (t := 2) (a := (z + 60)) (n := 12) (f := u.2.2 54) (me_mo (r := 33) (by decide)) h (by decide)).trans ?_
  refine congrArg some (me_umo (r := 33) (by decide) ?_ (fun a h1 h2 => ?_))
  · show (Sum.inl (_, _, Sum.inl (up2 u.2.2 54 j (vp_nar .boolean x) 54)) : gk_E) = _
    rw [up2_self]; rfl
  · exact mo_upV _ h1 h2 (by decide) rfl
theorem mo_gl_55 : gk_gl (me z D t u) 12 55 (some (z + 27)) = some u.2.1 := by
  simp only [gk_gl, mo_ob, Option.bind_some]; rfl
theorem mo_pl_55 {x : Int64} : gk_pf (me z D t u) 12 55 (some (z + 27)) (.long x) = some (me z D t (u.1, x, u.2.2)) := by
  rw [ev_pf mo_at (by show 55 < 57; decide)]
  exact congrArg some (mo_us rfl)
theorem mo_gi_56 : gk_gi (me z D t u) 12 56 (some (z + 27)) = some (u.1 56) := ev_gi mo_at rfl
theorem mo_pf_56 {x : Int32} : gk_pf (me z D t u) 12 56 (some (z + 27)) (.int x) = some (me z D t (upd u.1 56 x, u.2)) := by
  rw [ev_pf mo_at (by show 56 < 57; decide)]
  exact congrArg some (mo_us rfl)
end MEM
