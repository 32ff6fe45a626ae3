/-! pure memory, evaluated -/
theorem ev_gi {M : gk_M} {ci k a : Nat} {fs : List Value} {x : Int32} (h : M.1 a = some (.inr (ci, fs))) (hk : fs[k]? = some (.int x)) : gk_gi M ci k (some a) = some x := by
  simp [gk_gi, gk_ob_of h, hk, gk_int]
theorem ev_gr {M : gk_M} {ci k a : Nat} {fs : List Value} {r : Option Nat} (h : M.1 a = some (.inr (ci, fs))) (hk : fs[k]? = some (va_rf r)) : gk_gr M ci k (some a) = some r := by
  simp only [gk_gr, gk_ob_of h, hk, Option.bind_some]
  cases r <;> rfl
theorem ev_pf {M : gk_M} {ci k a : Nat} {fs : List Value} {v : Value} (h : M.1 a = some (.inr (ci, fs))) (hk : k < fs.length) : gk_pf M ci k (some a) v = some (va_up M.1 a (some (.inr (ci, fs.set k v))), M.2) := by
  simp only [gk_pf, gk_ob_of h, Option.bind_some, if_pos hk, Option.map_some]
theorem ev_il {M : gk_M} {t a n j : Nat} {f : Nat → Int32} (h : M.1 a = some (.inl (t, n, .inl f))) (hj : j < n) (hn : n < 2 ^ 31) : gk_il M t (some a) (nI j) = some (f j) := by
  simp only [gk_il, gk_ia_of h, Option.bind_some]
  rw [if_pos (nI_in hj hn), nI_clamp (by omega)]
theorem ev_al {M : gk_M} {t a n j : Nat} {f : Nat → Option Nat} (h : M.1 a = some (.inl (t, n, .inr (.inr (.inr (.inr f)))))) (hj : j < n) (hn : n < 2 ^ 31) : gk_al M t (some a) (nI j) = some (f j) := by
  simp only [gk_al, gk_ra_of h, Option.bind_some]
  rw [if_pos (nI_in hj hn), nI_clamp (by omega)]
theorem ev_is {M : gk_M} {t a n j : Nat} {ty : FieldType} {f : Nat → Int32} {x : Int32} (h : M.1 a = some (.inl (t, n, .inl f))) (hj : j < n) (hn : n < 2 ^ 31) : gk_is M t ty (some a) (nI j) x = some (va_up M.1 a (some (.inl (t, n, .inl (upd f j (vp_nar ty x))))), M.2) := by
  simp only [gk_is, gk_ia_of h, Option.bind_some]
  rw [if_pos (nI_in hj hn), nI_clamp (by omega)]
  rfl
theorem ev_sr {M : gk_M} {t ci a n j : Nat} {f : Nat → Option Nat} {v : Option Nat} (h : M.1 a = some (.inl (t, n, .inr (.inr (.inr (.inr f)))))) (hj : j < n) (hn : n < 2 ^ 31) (hv : v = none ∨ (gk_ob M ci v).isSome = true) : gk_sr M t ci (some a) (nI j) v = some (va_up M.1 a (some (.inl (t, n, .inr (.inr (.inr (.inr (va_up f j v))))))), M.2) := by
  simp only [gk_sr, gk_ra_of h, Option.bind_some]
  rw [if_pos ⟨nI_in hj hn, hv⟩, nI_clamp (by omega)]
  rfl
theorem ev_ln {M : gk_M} {t a n : Nat} {x} (h : M.1 a = some (.inl (t, n, x))) : gk_ln M t (some a) = some (nI n) := by
  simp [gk_ln, h, nI]
theorem ev_na {M : gk_M} {t cap n : Nat} (hn : n ≤ cap) (hc : n < 2 ^ 31) : gk_na M t cap (nI n) = some (gk_nw M (.inl (t, n, .inl (fun _ => 0)))) := by
  unfold gk_na
  rw [if_pos ⟨nI_pos hc, by rw [nI_clamp hc]; exact hn⟩, nI_clamp hc]
theorem ev_nr {M : gk_M} {t cap n : Nat} (hn : n ≤ cap) (hc : n < 2 ^ 31) : gk_nr M t cap (nI n) = some (gk_nw M (.inl (t, n, .inr (.inr (.inr (.inr (fun _ => none))))))) := by
  unfold gk_nr
  rw [if_pos ⟨nI_pos hc, by rw [nI_clamp hc]; exact hn⟩, nI_clamp hc]
theorem ev_z0 : gk_z 0 = some 0 := rfl
theorem ev_z1 : gk_z 1 = some 1 := rfl
/-- a loop that comes to its end: an invariant, a measure, the answer from each state of the loop -/
theorem ev_loop {α β : Type} {body : (α → Option β) → α → Option β} (I : α → Prop) (μ : α → Nat) (F : α → β) (step : ∀ (kk : α → Option β) (a : α), I a → (∀ a', I a' → μ a' < μ a → F a' = F a → kk a' = some (F a')) → body kk a = some (F a)) : ∀ (n : Nat) (a : α), I a → μ a < n → gk_loop body n a = some (F a)
  | 0, _, _, h => absurd h (by omega)
  | n + 1, a, hI, h => step (gk_loop body n) a hI (fun a' hI' hμ _ => ev_loop I μ F step n a' hI' (by omega))
theorem ev_loopR {α β : Type} {body : (α → Option β) → α → Option β} (I : α → Prop) (μ : α → Nat) (R : α → β → Prop) (step : ∀ (kk : α → Option β) (a : α), I a → (∀ a', I a' → μ a' < μ a → ∃ y, kk a' = some y ∧ R a' y) → ∃ y, body kk a = some y ∧ R a y) : ∀ (n : Nat) (a : α), I a → μ a < n → ∃ y, gk_loop body n a = some y ∧ R a y
  | 0, _, _, h => absurd h (by omega)
  | n + 1, a, hI, h => step (gk_loop body n) a hI (fun a' hI' hμ => ev_loopR I μ R step n a' hI' (by omega))

