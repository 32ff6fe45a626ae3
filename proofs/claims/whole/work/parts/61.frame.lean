/-! The frame of the walk: ONE memory for the class, the reference and the law, by addresses; a pure memory M says what every cell holds that was made since the law began. An array names its type by its place in tyl, an object its class by its place in cl. -/
abbrev gk_G : Type := va_G × (Nat → ClassId) × Nat
/-- the classes, the types of arrays, the words of nest mates and arrays, the tables' words -/
abbrev gk_S : Type := List vw_C × List FieldType × List Cond × List Cond
def gk_cv (ids : Nat → ClassId) (x : gk_E) : va_E := match x with
  | .inl a => .inl (ids a.1, a.2)
  | .inr o => .inr o
def gk_ok (cl : List vw_C) (Γ : gk_G) (M : gk_M) (H : Heap) : Prop := H.size = M.2 ∧ ∀ (a : Nat) (x : gk_E), M.1 a = some x → Γ.2.2 ≤ a ∧ va_at Γ.1 cl (a, gk_cv Γ.2.1 x) H
/-- the words that no contract's head keeps: they stand in the knowledge -/
def gk_nk (w : Cond) : Prop := (∃ a i b n d h, w = .fieldLinkNest a i b n d h) ∨ (∃ a i x h, w = .methodLinkNest a i x h) ∨ (∃ C, w = .arrayOver (.object C)) ∨ ∃ C T, w = .castable C T
theorem gk_nk.moved {w : Cond} (hk : gk_nk w) {u U : State} (hW : u.WarmedH U.vm) (h : va_Nw w u) : va_Nw w U := by
  rcases hk with ⟨a, i, b, n, d, h', rfl⟩ | ⟨a, i, x, h', rfl⟩ | ⟨C, rfl⟩ | ⟨C, T, rfl⟩
  · exact va_Nw.warmF hW h
  · exact va_Nw.warmM hW h
  · exact va_AO.moved hW.alike h
  · exact va_Nw.warmC hW h
theorem gk_nk.same {w : Cond} (hk : gk_nk w) {u U : State} (he : u.vm = U.vm) (h : va_Nw w u) : va_Nw w U := by
  rcases hk with ⟨a, i, b, n, d, h', rfl⟩ | ⟨a, i, x, h', rfl⟩ | ⟨C, rfl⟩ | ⟨C, T, rfl⟩
  · exact va_Nw.same rfl he h
  · exact va_Nw.same rfl he h
  · exact va_AO.moved (by rw [he]; exact Vm.Alike.refl _) h
  · exact va_Nw.same rfl he h
def gk_K (Y : gk_S) (Γ : gk_G) (U : State) : Prop := (∀ (i : Nat) (q : vw_C), Y.1[i]? = some q → u_Kn U q.1 q.2.1 q.2.2 (Γ.1.1 i) (Γ.1.2 i)) ∧ (∀ (t : Nat) (ty : FieldType), Y.2.1[t]? = some ty → ArrOfT U (Γ.2.1 t) ty ∧ va_RA U (Γ.2.1 t) ty) ∧ ∀ w ∈ Y.2.2.1, gk_nk w ∧ va_Nw w U
theorem gk_K.moved {Y : gk_S} {Γ : gk_G} {u U : State} (hW : u.WarmedH U.vm) (h : gk_K Y Γ u) : gk_K Y Γ U := ⟨fun i q hq => u_Kn_moved hW.alike (h.1 i q hq), fun t ty ht => ⟨arrOfT_moved hW.alike (h.2.1 t ty ht).1, (h.2.1 t ty ht).2.moved hW.alike⟩, fun w hw => ⟨(h.2.2 w hw).1, (h.2.2 w hw).1.moved hW (h.2.2 w hw).2⟩⟩
theorem gk_K.same {Y : gk_S} {Γ : gk_G} {u U : State} (he : u.vm = U.vm) (h : gk_K Y Γ u) : gk_K Y Γ U := by
  have ha : u.vm.Alike U.vm := by rw [he]; exact Vm.Alike.refl _
  exact ⟨fun i q hq => u_Kn_moved ha (h.1 i q hq), fun t ty ht => ⟨arrOfT_moved ha (h.2.1 t ty ht).1, (h.2.1 t ty ht).2.moved ha⟩, fun w hw => ⟨(h.2.2 w hw).1, (h.2.2 w hw).1.same he (h.2.2 w hw).2⟩⟩
theorem gk_K.arr {Y : gk_S} {Γ : gk_G} {U : State} (h : gk_K Y Γ U) {t : Nat} {ty : FieldType} (ht : Y.2.1[t]? = some ty) : va_K Γ.1 Y.1 [(Γ.2.1 t, ty)] U := ⟨h.1, fun k q hk => by
  have hz : k < 1 := (List.getElem?_eq_some_iff.mp hk).1
  rw [show k = 0 by omega] at hk
  cases hk
  exact h.2.1 t ty ht⟩
theorem gk_K.obj {Y : gk_S} {Γ : gk_G} {U : State} (h : gk_K Y Γ U) : va_K Γ.1 Y.1 [] U := ⟨h.1, fun k q hk => by simp at hk⟩
theorem gk_ok.cel {cl : List vw_C} {Γ : gk_G} {M : gk_M} {H : Heap} (h : gk_ok cl Γ M H) {a : Nat} {x : gk_E} (ha : M.1 a = some x) : va_P Γ.1 cl [(a, gk_cv Γ.2.1 x)] H := fun k q hk => by
  have hz : k < 1 := (List.getElem?_eq_some_iff.mp hk).1
  rw [show k = 0 by omega] at hk
  cases hk
  exact (h.2 a x ha).2
theorem gk_at_lt {D : va_G} {cl : List vw_C} {a : Nat} {x : va_E} {H : Heap} (h : va_at D cl (a, x) H) : a < H.size := va_at.lt h
theorem gk_ok.lt {cl : List vw_C} {Γ : gk_G} {M : gk_M} {H : Heap} (h : gk_ok cl Γ M H) {a : Nat} {x : gk_E} (ha : M.1 a = some x) : a < M.2 := by
  rw [← h.1]; exact gk_at_lt (h.2 a x ha).2
/-- a cell is written -/
theorem gk_ok.set {cl : List vw_C} {Γ : gk_G} {M : gk_M} {H H1 : Heap} (h : gk_ok cl Γ M H) {a : Nat} {x y : gk_E} (ha : M.1 a = some x) (hy : va_at Γ.1 cl (a, gk_cv Γ.2.1 y) H1) (z : H1.size = H.size) (oq : ∀ q : Nat, q ≠ a → H1[q]? = H[q]?) : gk_ok cl Γ (va_up M.1 a (some y), M.2) H1 := by
  refine ⟨z.trans h.1, fun b w hb => ?_⟩
  by_cases hq : b = a
  · subst hq
    have hb : va_up M.1 b (some y) b = some w := hb
    rw [va_up_self] at hb
    cases hb
    exact ⟨(h.2 b x ha).1, hy⟩
  · have hb : va_up M.1 a (some y) b = some w := hb
    rw [va_up_ne _ _ hq] at hb
    exact ⟨(h.2 b w hb).1, (h.2 b w hb).2.kept (oq b hq)⟩
/-- a cell is made -/
theorem gk_ok.push {cl : List vw_C} {Γ : gk_G} {M : gk_M} {H H1 : Heap} (h : gk_ok cl Γ M H) {y : gk_E} (hlo : Γ.2.2 ≤ M.2) (hy : va_at Γ.1 cl (M.2, gk_cv Γ.2.1 y) H1) (z : H1.size = H.size + 1) (oq : ∀ q : Nat, q < H.size → H1[q]? = H[q]?) : gk_ok cl Γ (va_up M.1 M.2 (some y), M.2 + 1) H1 := by
  refine ⟨by rw [z, h.1], fun b w hb => ?_⟩
  by_cases hq : b = M.2
  · subst hq
    have hb : va_up M.1 M.2 (some y) M.2 = some w := hb
    rw [va_up_self] at hb
    cases hb
    exact ⟨hlo, hy⟩
  · have hb : va_up M.1 M.2 (some y) b = some w := hb
    rw [va_up_ne _ _ hq] at hb
    have hl := h.lt hb
    exact ⟨(h.2 b w hb).1, (h.2 b w hb).2.kept (oq b (by rw [h.1]; exact hl))⟩
/-! locals: a list of slots, none where nothing is said -/
def gk_as : List (Option Value) → Nat → List (Nat × Value)
  | [], _ => []
  | none :: t, i => gk_as t (i + 1)
  | some v :: t, i => (i, v) :: gk_as t (i + 1)
theorem gk_as_mem : ∀ (L : List (Option Value)) (i : Nat) (q : Nat × Value), q ∈ gk_as L i ↔ i ≤ q.1 ∧ L[q.1 - i]? = some (some q.2)
  | [], i, q => by simp [gk_as]
  | none :: t, i, q => by
    rw [gk_as, gk_as_mem t (i + 1) q]
    constructor
    · intro ⟨h1, h2⟩
      refine ⟨by omega, ?_⟩
      rw [show q.1 - i = (q.1 - (i + 1)) + 1 by omega, List.getElem?_cons_succ]
      exact h2
    · intro ⟨h1, h2⟩
      by_cases h : q.1 = i
      · rw [h, Nat.sub_self] at h2; simp at h2
      · rw [show q.1 - i = (q.1 - (i + 1)) + 1 by omega, List.getElem?_cons_succ] at h2
        exact ⟨by omega, h2⟩
  | some v :: t, i, q => by
    rw [gk_as, List.mem_cons, gk_as_mem t (i + 1) q]
    constructor
    · rintro (h | ⟨h1, h2⟩)
      · subst h
        exact ⟨Nat.le_refl _, by simp⟩
      · refine ⟨by omega, ?_⟩
        rw [show q.1 - i = (q.1 - (i + 1)) + 1 by omega, List.getElem?_cons_succ]
        exact h2
    · intro ⟨h1, h2⟩
      by_cases h : q.1 = i
      · left
        rw [h, Nat.sub_self, List.getElem?_cons_zero] at h2
        obtain ⟨q1, q2⟩ := q
        simp only [Option.some.injEq] at h2 h
        rw [h2]
        show (q1, q2) = (i, q2)
        rw [show q1 = i from h]
      · right
        rw [show q.1 - i = (q.1 - (i + 1)) + 1 by omega, List.getElem?_cons_succ] at h2
        exact ⟨by omega, h2⟩
def gk_lv (ls : Array Slot) (nL : Nat) (L : List (Option Value)) : Prop := lv_has ls nL (gk_as L 0)
theorem gk_lv.get {ls : Array Slot} {nL : Nat} {L : List (Option Value)} (h : gk_lv ls nL L) {i : Nat} {v : Value} (hi : L[i]? = some (some v)) : ls[i]? = some (.val v) := h.2.2 (i, v) ((gk_as_mem L 0 (i, v)).mpr ⟨Nat.zero_le _, hi⟩)
theorem gk_lv.of {ls : Array Slot} {nL : Nat} {L : List (Option Value)} {l : List (Nat × Value)} (h : lv_has ls nL l) (hs : ∀ (i : Nat) (v : Value), L[i]? = some (some v) → (i, v) ∈ l) : gk_lv ls nL L := ⟨h.1, h.2.1, fun q hq => h.2.2 q (hs q.1 q.2 ((gk_as_mem L 0 q).mp hq).2)⟩
/-- fewer locals are named -/
def gk_mask : List Bool → List (Option Value) → List (Option Value)
  | [], _ => []
  | _, [] => []
  | true :: b, v :: t => v :: gk_mask b t
  | false :: b, _ :: t => none :: gk_mask b t
theorem gk_mask_get : ∀ (b : List Bool) (L : List (Option Value)) (i : Nat) (v : Value), (gk_mask b L)[i]? = some (some v) → L[i]? = some (some v)
  | [], _, i, v, h => by simp [gk_mask] at h
  | _ :: _, [], i, v, h => by simp [gk_mask] at h
  | true :: b, w :: t, 0, v, h => by simpa [gk_mask] using h
  | true :: b, w :: t, i + 1, v, h => by
    rw [gk_mask, List.getElem?_cons_succ] at h
    rw [List.getElem?_cons_succ]
    exact gk_mask_get b t i v h
  | false :: b, w :: t, 0, v, h => by simp [gk_mask] at h
  | false :: b, w :: t, i + 1, v, h => by
    rw [gk_mask, List.getElem?_cons_succ] at h
    rw [List.getElem?_cons_succ]
    exact gk_mask_get b t i v h
theorem gk_lv.mask {ls : Array Slot} {nL : Nat} {L : List (Option Value)} (h : gk_lv ls nL L) (b : List Bool) : gk_lv ls nL (gk_mask b L) := gk_lv.of h (fun i v hi => (gk_as_mem L 0 (i, v)).mpr ⟨Nat.zero_le _, gk_mask_get b L i v hi⟩)
/-- what lies one slot below is no long -/
def gk_c1 (L : List (Option Value)) : Nat → Prop
  | 0 => True
  | j + 1 => ∀ v, L[j]? = some (some v) → v.category = 1
theorem gk_lv.set1 {ls' : Array Slot} {nL i : Nat} {L : List (Option Value)} {v : Value} (hc : gk_c1 L i) (h : lv_has ls' nL ((i, v) :: (gk_as L 0).filter (fun q => !(q.1 == i) && !(q.1 + 1 == i && q.2.category == 2)))) : gk_lv ls' nL (L.set i (some v)) := by
  refine gk_lv.of h (fun j w hj => ?_)
  by_cases hji : j = i
  · subst hji
    have hl : j < (L.set j (some v)).length := (List.getElem?_eq_some_iff.mp hj).1
    rw [List.length_set] at hl
    rw [List.getElem?_set_self hl] at hj
    cases hj
    exact List.mem_cons_self
  · rw [List.getElem?_set_ne (fun q => hji q.symm)] at hj
    refine List.mem_cons_of_mem _ (List.mem_filter.mpr ⟨(gk_as_mem L 0 (j, w)).mpr ⟨Nat.zero_le _, hj⟩, ?_⟩)
    by_cases h1 : j + 1 = i
    · subst h1
      have := hc w hj
      simp [this]
    · simp [hji, h1]
theorem gk_lv.set2 {ls' : Array Slot} {nL i : Nat} {L : List (Option Value)} {v : Value} (hc : gk_c1 L i) (h : lv_has ls' nL ((i, v) :: (gk_as L 0).filter (fun q => !(q.1 == i) && (!(q.1 == i + 1) && !(q.1 + 1 == i && q.2.category == 2))))) : gk_lv ls' nL ((L.set (i + 1) none).set i (some v)) := by
  refine gk_lv.of h (fun j w hj => ?_)
  by_cases hji : j = i
  · subst hji
    have hl : j < ((L.set (j + 1) none).set j (some v)).length := (List.getElem?_eq_some_iff.mp hj).1
    rw [List.length_set] at hl
    rw [List.getElem?_set_self hl] at hj
    cases hj
    exact List.mem_cons_self
  · rw [List.getElem?_set_ne (fun q => hji q.symm)] at hj
    by_cases h2 : j = i + 1
    · subst h2
      have hl : i + 1 < (L.set (i + 1) none).length := (List.getElem?_eq_some_iff.mp hj).1
      rw [List.length_set] at hl
      rw [List.getElem?_set_self hl] at hj
      cases hj
    · rw [List.getElem?_set_ne (fun q => h2 q.symm)] at hj
      refine List.mem_cons_of_mem _ (List.mem_filter.mpr ⟨(gk_as_mem L 0 (j, w)).mpr ⟨Nat.zero_le _, hj⟩, ?_⟩)
      by_cases h1 : j + 1 = i
      · subst h1
        have := hc w hj
        simp [this, h2]
      · simp [hji, h1, h2]
theorem gk_rc (r : Option Nat) : (va_rf r).category = 1 := by cases r <;> rfl
/-! the frame's judgement -/
def Gk (p : Program) (l : Launch) (e : Env) (R : Room) (s : State) (m : MethodId) (args : Array Value) (below : List Frame) (meth : Method) (c : Code) (Y : gk_S) (Γ : gk_G) (nL : Nat) (Q : State → Prop) (k n : Nat) (M : gk_M) (pc : Nat) (L : List (Option Value)) (st : List Value) : Prop :=
  ∀ (H : Heap) (locs : List Loc) (ls : Array Slot), gk_ok Y.1 Γ M H → va_S (fun q => Γ.2.2 ≤ q) s.heap H locs → gk_lv ls nL L → W p l e R s m args below meth c H locs k n Q (F0 m pc ls st)
/-- what stands at a method's entry, and stays -/
def gk_B (p : Program) (s : State) (m : MethodId) (args : Array Value) (meth : Method) (c : Code) (Y : gk_S) (Γ : gk_G) (cc : ByteArray) (nL : Nat) (own : String) : Prop :=
  p.tables.exec = Jvm.exec ∧ c.code = cc ∧ c.maxLocals = nL ∧ s.vm.findClass own = some m.cls ∧ (∀ w ∈ Y.2.2.2, w.before args s = true) ∧ gk_K Y Γ s ∧ meth.locks = false ∧ Γ.2.2 ≤ s.heap.size
/-- what a method's end says: the answer, the memory behind it -/
def gk_Q (Y : gk_S) (Γ : gk_G) (r : Option Value) (M' : gk_M) : Array Value → State → Outcome → State → Prop := fun _ st oc t => oc = .returned r ∧ gk_ok Y.1 Γ M' t.heap ∧ va_F (fun q => Γ.2.2 ≤ q) st t
def gk_Pc (Y : gk_S) (Γ : gk_G) (vs : List Value) (M : gk_M) : Array Value → State → Prop := va_Pc vs (fun U => gk_ok Y.1 Γ M U.heap ∧ gk_K Y Γ U ∧ Γ.2.2 ≤ U.heap.size)
theorem gk_Pc.blind {Y : gk_S} {Γ : gk_G} {vs : List Value} {M : gk_M} : FrameBlind (gk_Pc Y Γ vs M) := fun a U g mk h => ⟨h.1, h.2.1, gk_K.same (u := U) (U := U.calling g mk a) rfl h.2.2.1, h.2.2.2⟩
/-- a method's contract: from memory M it answers r and leaves M' -/
def gk_Met (l : Launch) (Y : gk_S) (Γ : gk_G) (y : MethodName) (ws : List Cond) (rm : Room) (vs : List Value) (M : gk_M) (r : Option Value) (M' : gk_M) : Prop :=
  Met l y ws rm (gk_Pc Y Γ vs M) (gk_Q Y Γ r M') rm.cells rm.slots (fun q => Γ.2.2 ≤ q)

