def F_SD : u_T := fun k => match k with
  | 0 => ("StageDispatcher", "buffer", "LStageDispatcher$Text;", true)
  | 1 => ("StageDispatcher", "catalog", "LStageDispatcher$Catalog;", true)
  | 2 => ("StageDispatcher", "chain", "LStageDispatcher$FilterChain;", true)
  | 3 => ("StageDispatcher", "accepted", "LStageDispatcher$Accepted;", true)
  | 4 => ("StageDispatcher", "route", "LStageDispatcher$Route;", true)
  | 5 => ("StageDispatcher", "latest", "LStageDispatcher$Outcome;", true)
  | _ => ("StageDispatcher", "mapped", "[I", true)
def t_SD : Nat → FieldType := fun k => match k with
  | 0 => (.object "StageDispatcher$Text")
  | 1 => (.object "StageDispatcher$Catalog")
  | 2 => (.object "StageDispatcher$FilterChain")
  | 3 => (.object "StageDispatcher$Accepted")
  | 4 => (.object "StageDispatcher$Route")
  | 5 => (.object "StageDispatcher$Outcome")
  | _ => (.array .int)
theorem n_SD : ∀ a, a < 7 → ∀ b, b < 7 → a ≠ b → (F_SD a).2.1 ≠ (F_SD b).2.1 := by decide +kernel
theorem t_SD_ok : ∀ k, k < 7 → parseFieldDescriptor (F_SD k).2.2.1 = some (t_SD k) := by decide +kernel
theorem df_SD_ok : ∀ j, j < 7 → defaultValue (t_SD j) = vp_V df_SD j
  | 0, _ => rfl
  | 1, _ => rfl
  | 2, _ => rfl
  | 3, _ => rfl
  | 4, _ => rfl
  | 5, _ => rfl
  | 6, _ => rfl
  | j + 7, h => absurd h (by omega)
def F_Text : u_T := fun k => match k with
  | 0 => ("StageDispatcher$Text", "chars", "[C", true)
  | _ => ("StageDispatcher$Text", "length", "I", false)
def t_Text : Nat → FieldType := fun k => match k with
  | 0 => (.array .char)
  | _ => .int
theorem n_Text : ∀ a, a < 2 → ∀ b, b < 2 → a ≠ b → (F_Text a).2.1 ≠ (F_Text b).2.1 := by decide +kernel
theorem t_Text_ok : ∀ k, k < 2 → parseFieldDescriptor (F_Text k).2.2.1 = some (t_Text k) := by decide +kernel
theorem df_Text_ok : ∀ j, j < 2 → defaultValue (t_Text j) = vp_V df_Text j
  | 0, _ => rfl
  | 1, _ => rfl
  | j + 2, h => absurd h (by omega)
def F_Template : u_T := fun k => match k with
  | 0 => ("StageDispatcher$Template", "pieces", "[I", true)
  | 1 => ("StageDispatcher$Template", "count", "I", true)
  | 2 => ("StageDispatcher$Template", "literals", "I", true)
  | 3 => ("StageDispatcher$Template", "groups", "I", true)
  | _ => ("StageDispatcher$Template", "narrowGroups", "I", true)
def t_Template : Nat → FieldType := fun k => match k with
  | 0 => (.array .int)
  | 1 => .int
  | 2 => .int
  | 3 => .int
  | _ => .int
theorem n_Template : ∀ a, a < 5 → ∀ b, b < 5 → a ≠ b → (F_Template a).2.1 ≠ (F_Template b).2.1 := by decide +kernel
theorem t_Template_ok : ∀ k, k < 5 → parseFieldDescriptor (F_Template k).2.2.1 = some (t_Template k) := by decide +kernel
theorem df_Template_ok : ∀ j, j < 5 → defaultValue (t_Template j) = vp_V df_Template j
  | 0, _ => rfl
  | 1, _ => rfl
  | 2, _ => rfl
  | 3, _ => rfl
  | 4, _ => rfl
  | j + 5, h => absurd h (by omega)
def F_Fit : u_T := fun k => match k with
  | 0 => ("StageDispatcher$Fit", "open", "[I", true)
  | 1 => ("StageDispatcher$Fit", "groupStart", "[I", true)
  | 2 => ("StageDispatcher$Fit", "groupEnd", "[I", true)
  | 3 => ("StageDispatcher$Fit", "groupCount", "I", false)
  | _ => ("StageDispatcher$Fit", "rest", "I", false)
def t_Fit : Nat → FieldType := fun k => match k with
  | 0 => (.array .int)
  | 1 => (.array .int)
  | 2 => (.array .int)
  | 3 => .int
  | _ => .int
theorem n_Fit : ∀ a, a < 5 → ∀ b, b < 5 → a ≠ b → (F_Fit a).2.1 ≠ (F_Fit b).2.1 := by decide +kernel
theorem t_Fit_ok : ∀ k, k < 5 → parseFieldDescriptor (F_Fit k).2.2.1 = some (t_Fit k) := by decide +kernel
theorem df_Fit_ok : ∀ j, j < 5 → defaultValue (t_Fit j) = vp_V df_Fit j
  | 0, _ => rfl
  | 1, _ => rfl
  | 2, _ => rfl
  | 3, _ => rfl
  | 4, _ => rfl
  | j + 5, h => absurd h (by omega)
def F_Method : u_T := fun k => match k with
  | 0 => ("StageDispatcher$Method", "owner", "I", true)
  | 1 => ("StageDispatcher$Method", "template", "LStageDispatcher$Template;", true)
  | 2 => ("StageDispatcher$Method", "verb", "I", true)
  | 3 => ("StageDispatcher$Method", "consumes", "I", true)
  | 4 => ("StageDispatcher$Method", "produces", "I", true)
  | 5 => ("StageDispatcher$Method", "quality", "I", true)
  | 6 => ("StageDispatcher$Method", "converts", "I", false)
  | 7 => ("StageDispatcher$Method", "name", "I", false)
  | _ => ("StageDispatcher$Method", "throwing", "I", false)
def t_Method : Nat → FieldType := fun k => match k with
  | 0 => .int
  | 1 => (.object "StageDispatcher$Template")
  | 2 => .int
  | 3 => .int
  | 4 => .int
  | 5 => .int
  | 6 => .int
  | 7 => .int
  | _ => .int
theorem n_Method : ∀ a, a < 9 → ∀ b, b < 9 → a ≠ b → (F_Method a).2.1 ≠ (F_Method b).2.1 := by decide +kernel
theorem t_Method_ok : ∀ k, k < 9 → parseFieldDescriptor (F_Method k).2.2.1 = some (t_Method k) := by decide +kernel
theorem df_Method_ok : ∀ j, j < 9 → defaultValue (t_Method j) = vp_V df_Method j
  | 0, _ => rfl
  | 1, _ => rfl
  | 2, _ => rfl
  | 3, _ => rfl
  | 4, _ => rfl
  | 5, _ => rfl
  | 6, _ => rfl
  | 7, _ => rfl
  | 8, _ => rfl
  | j + 9, h => absurd h (by omega)
def F_Locator : u_T := fun k => match k with
  | 0 => ("StageDispatcher$Locator", "owner", "I", true)
  | 1 => ("StageDispatcher$Locator", "template", "LStageDispatcher$Template;", true)
  | _ => ("StageDispatcher$Locator", "target", "I", true)
def t_Locator : Nat → FieldType := fun k => match k with
  | 0 => .int
  | 1 => (.object "StageDispatcher$Template")
  | _ => .int
theorem n_Locator : ∀ a, a < 3 → ∀ b, b < 3 → a ≠ b → (F_Locator a).2.1 ≠ (F_Locator b).2.1 := by decide +kernel
theorem t_Locator_ok : ∀ k, k < 3 → parseFieldDescriptor (F_Locator k).2.2.1 = some (t_Locator k) := by decide +kernel
theorem df_Locator_ok : ∀ j, j < 3 → defaultValue (t_Locator j) = vp_V df_Locator j
  | 0, _ => rfl
  | 1, _ => rfl
  | 2, _ => rfl
  | j + 3, h => absurd h (by omega)
def F_Filter : u_T := fun k => match k with
  | 0 => ("StageDispatcher$Filter", "priority", "I", true)
  | 1 => ("StageDispatcher$Filter", "name", "I", true)
  | 2 => ("StageDispatcher$Filter", "kind", "I", true)
  | 3 => ("StageDispatcher$Filter", "x", "I", true)
  | _ => ("StageDispatcher$Filter", "status", "I", true)
def t_Filter : Nat → FieldType := fun k => match k with
  | 0 => .int
  | 1 => .int
  | 2 => .int
  | 3 => .int
  | _ => .int
theorem n_Filter : ∀ a, a < 5 → ∀ b, b < 5 → a ≠ b → (F_Filter a).2.1 ≠ (F_Filter b).2.1 := by decide +kernel
theorem t_Filter_ok : ∀ k, k < 5 → parseFieldDescriptor (F_Filter k).2.2.1 = some (t_Filter k) := by decide +kernel
theorem df_Filter_ok : ∀ j, j < 5 → defaultValue (t_Filter j) = vp_V df_Filter j
  | 0, _ => rfl
  | 1, _ => rfl
  | 2, _ => rfl
  | 3, _ => rfl
  | 4, _ => rfl
  | j + 5, h => absurd h (by omega)
def F_Catalog : u_T := fun k => match k with
  | 0 => ("StageDispatcher$Catalog", "roots", "[LStageDispatcher$Template;", true)
  | 1 => ("StageDispatcher$Catalog", "methods", "[LStageDispatcher$Method;", true)
  | 2 => ("StageDispatcher$Catalog", "locators", "[LStageDispatcher$Locator;", true)
  | 3 => ("StageDispatcher$Catalog", "resourceCount", "I", false)
  | 4 => ("StageDispatcher$Catalog", "methodCount", "I", false)
  | _ => ("StageDispatcher$Catalog", "locatorCount", "I", false)
def t_Catalog : Nat → FieldType := fun k => match k with
  | 0 => (.array (.object "StageDispatcher$Template"))
  | 1 => (.array (.object "StageDispatcher$Method"))
  | 2 => (.array (.object "StageDispatcher$Locator"))
  | 3 => .int
  | 4 => .int
  | _ => .int
theorem n_Catalog : ∀ a, a < 6 → ∀ b, b < 6 → a ≠ b → (F_Catalog a).2.1 ≠ (F_Catalog b).2.1 := by decide +kernel
theorem t_Catalog_ok : ∀ k, k < 6 → parseFieldDescriptor (F_Catalog k).2.2.1 = some (t_Catalog k) := by decide +kernel
theorem df_Catalog_ok : ∀ j, j < 6 → defaultValue (t_Catalog j) = vp_V df_Catalog j
  | 0, _ => rfl
  | 1, _ => rfl
  | 2, _ => rfl
  | 3, _ => rfl
  | 4, _ => rfl
  | 5, _ => rfl
  | j + 6, h => absurd h (by omega)
def F_Route : u_T := fun k => match k with
  | 0 => ("StageDispatcher$Route", "fit", "LStageDispatcher$Fit;", true)
  | 1 => ("StageDispatcher$Route", "from", "I", false)
  | 2 => ("StageDispatcher$Route", "classes", "I", false)
  | _ => ("StageDispatcher$Route", "candidates", "I", false)
def t_Route : Nat → FieldType := fun k => match k with
  | 0 => (.object "StageDispatcher$Fit")
  | 1 => .int
  | 2 => .int
  | _ => .int
theorem n_Route : ∀ a, a < 4 → ∀ b, b < 4 → a ≠ b → (F_Route a).2.1 ≠ (F_Route b).2.1 := by decide +kernel
theorem t_Route_ok : ∀ k, k < 4 → parseFieldDescriptor (F_Route k).2.2.1 = some (t_Route k) := by decide +kernel
theorem df_Route_ok : ∀ j, j < 4 → defaultValue (t_Route j) = vp_V df_Route j
  | 0, _ => rfl
  | 1, _ => rfl
  | 2, _ => rfl
  | 3, _ => rfl
  | j + 4, h => absurd h (by omega)
def F_Accepted : u_T := fun k => match k with
  | 0 => ("StageDispatcher$Accepted", "types", "[I", true)
  | 1 => ("StageDispatcher$Accepted", "qs", "[I", true)
  | _ => ("StageDispatcher$Accepted", "count", "I", false)
def t_Accepted : Nat → FieldType := fun k => match k with
  | 0 => (.array .int)
  | 1 => (.array .int)
  | _ => .int
theorem n_Accepted : ∀ a, a < 3 → ∀ b, b < 3 → a ≠ b → (F_Accepted a).2.1 ≠ (F_Accepted b).2.1 := by decide +kernel
theorem t_Accepted_ok : ∀ k, k < 3 → parseFieldDescriptor (F_Accepted k).2.2.1 = some (t_Accepted k) := by decide +kernel
theorem df_Accepted_ok : ∀ j, j < 3 → defaultValue (t_Accepted j) = vp_V df_Accepted j
  | 0, _ => rfl
  | 1, _ => rfl
  | 2, _ => rfl
  | j + 3, h => absurd h (by omega)
def F_FilterChain : u_T := fun k => match k with
  | 0 => ("StageDispatcher$FilterChain", "filters", "[LStageDispatcher$Filter;", true)
  | 1 => ("StageDispatcher$FilterChain", "rising", "[I", true)
  | 2 => ("StageDispatcher$FilterChain", "falling", "[I", true)
  | _ => ("StageDispatcher$FilterChain", "count", "I", false)
def t_FilterChain : Nat → FieldType := fun k => match k with
  | 0 => (.array (.object "StageDispatcher$Filter"))
  | 1 => (.array .int)
  | 2 => (.array .int)
  | _ => .int
theorem n_FilterChain : ∀ a, a < 4 → ∀ b, b < 4 → a ≠ b → (F_FilterChain a).2.1 ≠ (F_FilterChain b).2.1 := by decide +kernel
theorem t_FilterChain_ok : ∀ k, k < 4 → parseFieldDescriptor (F_FilterChain k).2.2.1 = some (t_FilterChain k) := by decide +kernel
theorem df_FilterChain_ok : ∀ j, j < 4 → defaultValue (t_FilterChain j) = vp_V df_FilterChain j
  | 0, _ => rfl
  | 1, _ => rfl
  | 2, _ => rfl
  | 3, _ => rfl
  | j + 4, h => absurd h (by omega)
def F_Outcome : u_T := fun k => match k with
  | 0 => ("StageDispatcher$Outcome", "path", "LStageDispatcher$Text;", true)
  | 1 => ("StageDispatcher$Outcome", "hops", "[I", true)
  | 2 => ("StageDispatcher$Outcome", "parameterStart", "[I", true)
  | 3 => ("StageDispatcher$Outcome", "parameterEnd", "[I", true)
  | 4 => ("StageDispatcher$Outcome", "ran", "[I", true)
  | 5 => ("StageDispatcher$Outcome", "hopCount", "I", false)
  | 6 => ("StageDispatcher$Outcome", "parameterCount", "I", false)
  | 7 => ("StageDispatcher$Outcome", "ranCount", "I", false)
  | 8 => ("StageDispatcher$Outcome", "matched", "I", false)
  | 9 => ("StageDispatcher$Outcome", "invoked", "I", false)
  | 10 => ("StageDispatcher$Outcome", "argument", "I", false)
  | 11 => ("StageDispatcher$Outcome", "allowed", "I", false)
  | _ => ("StageDispatcher$Outcome", "produced", "I", false)
def t_Outcome : Nat → FieldType := fun k => match k with
  | 0 => (.object "StageDispatcher$Text")
  | 1 => (.array .int)
  | 2 => (.array .int)
  | 3 => (.array .int)
  | 4 => (.array .int)
  | 5 => .int
  | 6 => .int
  | 7 => .int
  | 8 => .int
  | 9 => .int
  | 10 => .int
  | 11 => .int
  | _ => .int
theorem n_Outcome : ∀ a, a < 13 → ∀ b, b < 13 → a ≠ b → (F_Outcome a).2.1 ≠ (F_Outcome b).2.1 := by decide +kernel
theorem t_Outcome_ok : ∀ k, k < 13 → parseFieldDescriptor (F_Outcome k).2.2.1 = some (t_Outcome k) := by decide +kernel
theorem df_Outcome_ok : ∀ j, j < 13 → defaultValue (t_Outcome j) = vp_V df_Outcome j
  | 0, _ => rfl
  | 1, _ => rfl
  | 2, _ => rfl
  | 3, _ => rfl
  | 4, _ => rfl
  | 5, _ => rfl
  | 6, _ => rfl
  | 7, _ => rfl
  | 8, _ => rfl
  | 9, _ => rfl
  | 10, _ => rfl
  | 11, _ => rfl
  | 12, _ => rfl
  | j + 13, h => absurd h (by omega)
def F_Mo : u_T := fun k => match k with
  | 0 => ("StageDispatcherModel", "buffer", "[C", true)
  | 1 => ("StageDispatcherModel", "typed", "I", false)
  | 2 => ("StageDispatcherModel", "template", "[C", true)
  | 3 => ("StageDispatcherModel", "size", "[I", true)
  | 4 => ("StageDispatcherModel", "resources", "I", false)
  | 5 => ("StageDispatcherModel", "methods", "I", false)
  | 6 => ("StageDispatcherModel", "mResource", "[I", true)
  | 7 => ("StageDispatcherModel", "mVerb", "[I", true)
  | 8 => ("StageDispatcherModel", "mConsumes", "[I", true)
  | 9 => ("StageDispatcherModel", "mProduces", "[I", true)
  | 10 => ("StageDispatcherModel", "mQuality", "[I", true)
  | 11 => ("StageDispatcherModel", "mConverts", "[I", true)
  | 12 => ("StageDispatcherModel", "mName", "[I", true)
  | 13 => ("StageDispatcherModel", "mThrows", "[I", true)
  | 14 => ("StageDispatcherModel", "locators", "I", false)
  | 15 => ("StageDispatcherModel", "lResource", "[I", true)
  | 16 => ("StageDispatcherModel", "lTarget", "[I", true)
  | 17 => ("StageDispatcherModel", "filters", "I", false)
  | 18 => ("StageDispatcherModel", "fPriority", "[I", true)
  | 19 => ("StageDispatcherModel", "fName", "[I", true)
  | 20 => ("StageDispatcherModel", "fKind", "[I", true)
  | 21 => ("StageDispatcherModel", "fHeader", "[I", true)
  | 22 => ("StageDispatcherModel", "fStatus", "[I", true)
  | 23 => ("StageDispatcherModel", "fDone", "[Z", true)
  | 24 => ("StageDispatcherModel", "mappers", "[I", true)
  | 25 => ("StageDispatcherModel", "accepts", "I", false)
  | 26 => ("StageDispatcherModel", "aType", "[I", true)
  | 27 => ("StageDispatcherModel", "aQ", "[I", true)
  | 28 => ("StageDispatcherModel", "path", "[C", true)
  | 29 => ("StageDispatcherModel", "length", "I", false)
  | 30 => ("StageDispatcherModel", "verb", "I", false)
  | 31 => ("StageDispatcherModel", "header", "I", false)
  | 32 => ("StageDispatcherModel", "status", "I", false)
  | 33 => ("StageDispatcherModel", "over", "Z", false)
  | 34 => ("StageDispatcherModel", "from", "I", false)
  | 35 => ("StageDispatcherModel", "method", "I", false)
  | 36 => ("StageDispatcherModel", "called", "Z", false)
  | 37 => ("StageDispatcherModel", "number", "I", false)
  | 38 => ("StageDispatcherModel", "verbs", "I", false)
  | 39 => ("StageDispatcherModel", "answer", "I", false)
  | 40 => ("StageDispatcherModel", "hops", "I", false)
  | 41 => ("StageDispatcherModel", "hopTo", "[I", true)
  | 42 => ("StageDispatcherModel", "parameters", "I", false)
  | 43 => ("StageDispatcherModel", "pStart", "[I", true)
  | 44 => ("StageDispatcherModel", "pLength", "[I", true)
  | 45 => ("StageDispatcherModel", "runs", "I", false)
  | 46 => ("StageDispatcherModel", "run", "[I", true)
  | 47 => ("StageDispatcherModel", "pieces", "I", false)
  | 48 => ("StageDispatcherModel", "piece", "[I", true)
  | 49 => ("StageDispatcherModel", "can", "[Z", true)
  | 50 => ("StageDispatcherModel", "groups", "I", false)
  | 51 => ("StageDispatcherModel", "gStart", "[I", true)
  | 52 => ("StageDispatcherModel", "gLength", "[I", true)
  | 53 => ("StageDispatcherModel", "classes", "[Z", true)
  | 54 => ("StageDispatcherModel", "candidate", "[Z", true)
  | 55 => ("StageDispatcherModel", "bestKey", "J", false)
  | _ => ("StageDispatcherModel", "bestType", "I", false)
def t_Mo : Nat → FieldType := fun k => match k with
  | 0 => (.array .char)
  | 1 => .int
  | 2 => (.array .char)
  | 3 => (.array .int)
  | 4 => .int
  | 5 => .int
  | 6 => (.array .int)
  | 7 => (.array .int)
  | 8 => (.array .int)
  | 9 => (.array .int)
  | 10 => (.array .int)
  | 11 => (.array .int)
  | 12 => (.array .int)
  | 13 => (.array .int)
  | 14 => .int
  | 15 => (.array .int)
  | 16 => (.array .int)
  | 17 => .int
  | 18 => (.array .int)
  | 19 => (.array .int)
  | 20 => (.array .int)
  | 21 => (.array .int)
  | 22 => (.array .int)
  | 23 => (.array .boolean)
  | 24 => (.array .int)
  | 25 => .int
  | 26 => (.array .int)
  | 27 => (.array .int)
  | 28 => (.array .char)
  | 29 => .int
  | 30 => .int
  | 31 => .int
  | 32 => .int
  | 33 => .boolean
  | 34 => .int
  | 35 => .int
  | 36 => .boolean
  | 37 => .int
  | 38 => .int
  | 39 => .int
  | 40 => .int
  | 41 => (.array .int)
  | 42 => .int
  | 43 => (.array .int)
  | 44 => (.array .int)
  | 45 => .int
  | 46 => (.array .int)
  | 47 => .int
  | 48 => (.array .int)
  | 49 => (.array .boolean)
  | 50 => .int
  | 51 => (.array .int)
  | 52 => (.array .int)
  | 53 => (.array .boolean)
  | 54 => (.array .boolean)
  | 55 => .long
  | _ => .int
theorem n_Mo : ∀ a, a < 57 → ∀ b, b < 57 → a ≠ b → (F_Mo a).2.1 ≠ (F_Mo b).2.1 := by decide +kernel
theorem t_Mo_ok : ∀ k, k < 57 → parseFieldDescriptor (F_Mo k).2.2.1 = some (t_Mo k) := by decide +kernel
theorem df_Mo_ok : ∀ j, j < 57 → defaultValue (t_Mo j) = vp_V df_Mo j
  | 0, _ => rfl
  | 1, _ => rfl
  | 2, _ => rfl
  | 3, _ => rfl
  | 4, _ => rfl
  | 5, _ => rfl
  | 6, _ => rfl
  | 7, _ => rfl
  | 8, _ => rfl
  | 9, _ => rfl
  | 10, _ => rfl
  | 11, _ => rfl
  | 12, _ => rfl
  | 13, _ => rfl
  | 14, _ => rfl
  | 15, _ => rfl
  | 16, _ => rfl
  | 17, _ => rfl
  | 18, _ => rfl
  | 19, _ => rfl
  | 20, _ => rfl
  | 21, _ => rfl
  | 22, _ => rfl
  | 23, _ => rfl
  | 24, _ => rfl
  | 25, _ => rfl
  | 26, _ => rfl
  | 27, _ => rfl
  | 28, _ => rfl
  | 29, _ => rfl
  | 30, _ => rfl
  | 31, _ => rfl
  | 32, _ => rfl
  | 33, _ => rfl
  | 34, _ => rfl
  | 35, _ => rfl
  | 36, _ => rfl
  | 37, _ => rfl
  | 38, _ => rfl
  | 39, _ => rfl
  | 40, _ => rfl
  | 41, _ => rfl
  | 42, _ => rfl
  | 43, _ => rfl
  | 44, _ => rfl
  | 45, _ => rfl
  | 46, _ => rfl
  | 47, _ => rfl
  | 48, _ => rfl
  | 49, _ => rfl
  | 50, _ => rfl
  | 51, _ => rfl
  | 52, _ => rfl
  | 53, _ => rfl
  | 54, _ => rfl
  | 55, _ => rfl
  | 56, _ => rfl
  | j + 57, h => absurd h (by omega)
def gk_cl : List vw_C := [("StageDispatcher", F_SD, 7), ("StageDispatcher$Text", F_Text, 2), ("StageDispatcher$Template", F_Template, 5), ("StageDispatcher$Fit", F_Fit, 5), ("StageDispatcher$Method", F_Method, 9), ("StageDispatcher$Locator", F_Locator, 3), ("StageDispatcher$Filter", F_Filter, 5), ("StageDispatcher$Catalog", F_Catalog, 6), ("StageDispatcher$Route", F_Route, 4), ("StageDispatcher$Accepted", F_Accepted, 3), ("StageDispatcher$FilterChain", F_FilterChain, 4), ("StageDispatcher$Outcome", F_Outcome, 13), ("StageDispatcherModel", F_Mo, 57)]
def gk_tyl : List FieldType := [.int, .char, .boolean, (.object "StageDispatcher$Template"), (.object "StageDispatcher$Method"), (.object "StageDispatcher$Locator"), (.object "StageDispatcher$Filter")]
def gk_gw (w : Cond) : Bool := (w.onTables && w.keeps) || (match w with
  | .arrayClass _ => true
  | _ => false)
def gk_nb (w : Cond) : Bool := match w with
  | .fieldLinkNest _ _ _ _ _ _ => true
  | .methodLinkNest _ _ _ _ => true
  | .arrayOver (.object _) => true
  | .castable _ _ => true
  | _ => false
def gk_Y : gk_S := (gk_cl, gk_tyl, lw_tbl.filter gk_nb, lw_tbl.filter gk_gw)
theorem gk_nb_ok {w : Cond} (h : gk_nb w = true) : gk_nk w := by
  unfold gk_nb at h
  split at h
  · exact Or.inl ⟨_, _, _, _, _, _, rfl⟩
  · exact Or.inr (Or.inl ⟨_, _, _, _, rfl⟩)
  · exact Or.inr (Or.inr (Or.inl ⟨_, rfl⟩))
  · exact Or.inr (Or.inr (Or.inr ⟨_, _, rfl⟩))
  · cases h
theorem gk_hG : gk_gT gk_Y := fun w hw => by
  have h := (List.mem_filter.mp (show w ∈ lw_tbl.filter gk_gw from hw)).2
  unfold gk_gw at h
  rcases Bool.or_eq_true_iff.mp h with h | h
  · exact Or.inl h
  · right
    split at h
    · exact ⟨_, rfl⟩
    · cases h
theorem gk_inT {w : Cond} (h : w ∈ lw_tbl) (hg : gk_gw w = true) : w ∈ gk_Y.2.2.2 := List.mem_filter.mpr ⟨h, hg⟩
theorem gk_inN {w : Cond} (h : w ∈ lw_tbl) (hg : gk_nb w = true) : w ∈ gk_Y.2.2.1 := List.mem_filter.mpr ⟨h, hg⟩
theorem cl_SD : gk_Y.1[0]? = some ("StageDispatcher", F_SD, 7) := rfl
theorem cl_Text : gk_Y.1[1]? = some ("StageDispatcher$Text", F_Text, 2) := rfl
theorem cl_Template : gk_Y.1[2]? = some ("StageDispatcher$Template", F_Template, 5) := rfl
theorem cl_Fit : gk_Y.1[3]? = some ("StageDispatcher$Fit", F_Fit, 5) := rfl
theorem cl_Method : gk_Y.1[4]? = some ("StageDispatcher$Method", F_Method, 9) := rfl
theorem cl_Locator : gk_Y.1[5]? = some ("StageDispatcher$Locator", F_Locator, 3) := rfl
theorem cl_Filter : gk_Y.1[6]? = some ("StageDispatcher$Filter", F_Filter, 5) := rfl
theorem cl_Catalog : gk_Y.1[7]? = some ("StageDispatcher$Catalog", F_Catalog, 6) := rfl
theorem cl_Route : gk_Y.1[8]? = some ("StageDispatcher$Route", F_Route, 4) := rfl
theorem cl_Accepted : gk_Y.1[9]? = some ("StageDispatcher$Accepted", F_Accepted, 3) := rfl
theorem cl_FilterChain : gk_Y.1[10]? = some ("StageDispatcher$FilterChain", F_FilterChain, 4) := rfl
theorem cl_Outcome : gk_Y.1[11]? = some ("StageDispatcher$Outcome", F_Outcome, 13) := rfl
theorem cl_Mo : gk_Y.1[12]? = some ("StageDispatcherModel", F_Mo, 57) := rfl
theorem ty_0 : gk_Y.2.1[0]? = some .int := rfl
theorem ty_1 : gk_Y.2.1[1]? = some .char := rfl
theorem ty_2 : gk_Y.2.1[2]? = some .boolean := rfl
theorem ty_3 : gk_Y.2.1[3]? = some (.object "StageDispatcher$Template") := rfl
theorem ty_4 : gk_Y.2.1[4]? = some (.object "StageDispatcher$Method") := rfl
theorem ty_5 : gk_Y.2.1[5]? = some (.object "StageDispatcher$Locator") := rfl
theorem ty_6 : gk_Y.2.1[6]? = some (.object "StageDispatcher$Filter") := rfl
abbrev y_Text_init : MethodName := ⟨"StageDispatcher$Text", "<init>", "()V"⟩
abbrev c_Text_init : ByteArray := prog_12_method_1_code
abbrev rm_Text_init : Room := { frames := 1, cells := 1, slots := 24, locals := 20 }
theorem nm_Text_init : gk_nm y_Text_init 0 := ⟨by decide +kernel, by decide +kernel, by decide +kernel⟩
abbrev y_Catalog_init : MethodName := ⟨"StageDispatcher$Catalog", "<init>", "()V"⟩
abbrev c_Catalog_init : ByteArray := prog_3_method_1_code
abbrev rm_Catalog_init : Room := { frames := 1, cells := 3, slots := 26, locals := 20 }
theorem nm_Catalog_init : gk_nm y_Catalog_init 0 := ⟨by decide +kernel, by decide +kernel, by decide +kernel⟩
abbrev y_FilterChain_init : MethodName := ⟨"StageDispatcher$FilterChain", "<init>", "()V"⟩
abbrev c_FilterChain_init : ByteArray := prog_5_method_1_code
abbrev rm_FilterChain_init : Room := { frames := 1, cells := 3, slots := 24, locals := 20 }
theorem nm_FilterChain_init : gk_nm y_FilterChain_init 0 := ⟨by decide +kernel, by decide +kernel, by decide +kernel⟩
abbrev y_Accepted_init : MethodName := ⟨"StageDispatcher$Accepted", "<init>", "()V"⟩
abbrev c_Accepted_init : ByteArray := prog_2_method_1_code
abbrev rm_Accepted_init : Room := { frames := 1, cells := 2, slots := 8, locals := 20 }
theorem nm_Accepted_init : gk_nm y_Accepted_init 0 := ⟨by decide +kernel, by decide +kernel, by decide +kernel⟩
abbrev y_Fit_init : MethodName := ⟨"StageDispatcher$Fit", "<init>", "()V"⟩
abbrev c_Fit_init : ByteArray := prog_6_method_1_code
abbrev rm_Fit_init : Room := { frames := 1, cells := 3, slots := 33, locals := 20 }
theorem nm_Fit_init : gk_nm y_Fit_init 0 := ⟨by decide +kernel, by decide +kernel, by decide +kernel⟩
abbrev y_Route_init : MethodName := ⟨"StageDispatcher$Route", "<init>", "()V"⟩
abbrev c_Route_init : ByteArray := prog_10_method_1_code
abbrev rm_Route_init : Room := { frames := 2, cells := 4, slots := 38, locals := 40 }
theorem nm_Route_init : gk_nm y_Route_init 0 := ⟨by decide +kernel, by decide +kernel, by decide +kernel⟩
abbrev y_Outcome_init : MethodName := ⟨"StageDispatcher$Outcome", "<init>", "()V"⟩
abbrev c_Outcome_init : ByteArray := prog_9_method_1_code
abbrev rm_Outcome_init : Room := { frames := 2, cells := 6, slots := 266, locals := 40 }
theorem nm_Outcome_init : gk_nm y_Outcome_init 0 := ⟨by decide +kernel, by decide +kernel, by decide +kernel⟩
abbrev y_SD_init : MethodName := ⟨"StageDispatcher", "<init>", "()V"⟩
abbrev c_SD_init : ByteArray := prog_1_method_1_code
abbrev rm_SD_init : Room := { frames := 3, cells := 26, slots := 434, locals := 60 }
theorem nm_SD_init : gk_nm y_SD_init 0 := ⟨by decide +kernel, by decide +kernel, by decide +kernel⟩
abbrev y_Mo_init : MethodName := ⟨"StageDispatcherModel", "<init>", "()V"⟩
abbrev c_Mo_init : ByteArray := prog_14_method_1_code
abbrev rm_Mo_init : Room := { frames := 1, cells := 33, slots := 1855, locals := 20 }
theorem nm_Mo_init : gk_nm y_Mo_init 0 := ⟨by decide +kernel, by decide +kernel, by decide +kernel⟩
abbrev y_Text_append : MethodName := ⟨"StageDispatcher$Text", "append", "(C)Z"⟩
abbrev c_Text_append : ByteArray := prog_12_method_2_code
abbrev rm_Text_append : Room := { frames := 0, cells := 0, slots := 0, locals := 0 }
theorem nm_Text_append : gk_nm y_Text_append 1 := ⟨by decide +kernel, by decide +kernel, by decide +kernel⟩
abbrev y_SD_put : MethodName := ⟨"StageDispatcher", "put", "(C)Z"⟩
abbrev c_SD_put : ByteArray := prog_1_method_2_code
abbrev rm_SD_put : Room := { frames := 1, cells := 0, slots := 0, locals := 22 }
theorem nm_SD_put : gk_nm y_SD_put 1 := ⟨by decide +kernel, by decide +kernel, by decide +kernel⟩
abbrev y_Mo_put : MethodName := ⟨"StageDispatcherModel", "put", "(C)Z"⟩
abbrev c_Mo_put : ByteArray := prog_14_method_3_code
abbrev rm_Mo_put : Room := { frames := 0, cells := 0, slots := 0, locals := 0 }
theorem nm_Mo_put : gk_nm y_Mo_put 1 := ⟨by decide +kernel, by decide +kernel, by decide +kernel⟩
abbrev y_Text_has : MethodName := ⟨"StageDispatcher$Text", "has", "(IC)Z"⟩
abbrev c_Text_has : ByteArray := prog_12_method_5_code
abbrev rm_Text_has : Room := { frames := 0, cells := 0, slots := 0, locals := 0 }
theorem nm_Text_has : gk_nm y_Text_has 2 := ⟨by decide +kernel, by decide +kernel, by decide +kernel⟩
abbrev y_Template_pieceSize : MethodName := ⟨"StageDispatcher$Template", "pieceSize", "(LStageDispatcher$Text;I)I"⟩
abbrev c_Template_pieceSize : ByteArray := prog_11_method_3_code
abbrev rm_Template_pieceSize : Room := { frames := 1, cells := 0, slots := 0, locals := 22 }
theorem nm_Template_pieceSize : gk_nm y_Template_pieceSize 2 := ⟨by decide +kernel, by decide +kernel, by decide +kernel⟩
abbrev y_Template_isGood : MethodName := ⟨"StageDispatcher$Template", "isGood", "(LStageDispatcher$Text;)Z"⟩
abbrev c_Template_isGood : ByteArray := prog_11_method_2_code
abbrev rm_Template_isGood : Room := { frames := 2, cells := 0, slots := 0, locals := 44 }
theorem nm_Template_isGood : gk_nm y_Template_isGood 1 := ⟨by decide +kernel, by decide +kernel, by decide +kernel⟩
abbrev y_Template_pieceAt : MethodName := ⟨"StageDispatcher$Template", "pieceAt", "(LStageDispatcher$Text;I)I"⟩
abbrev c_Template_pieceAt : ByteArray := prog_11_method_4_code
abbrev rm_Template_pieceAt : Room := { frames := 1, cells := 0, slots := 0, locals := 22 }
theorem nm_Template_pieceAt : gk_nm y_Template_pieceAt 2 := ⟨by decide +kernel, by decide +kernel, by decide +kernel⟩
abbrev y_Template_isGroup : MethodName := ⟨"StageDispatcher$Template", "isGroup", "(I)Z"⟩
abbrev c_Template_isGroup : ByteArray := prog_11_method_5_code
abbrev rm_Template_isGroup : Room := { frames := 0, cells := 0, slots := 0, locals := 0 }
theorem nm_Template_isGroup : gk_nm y_Template_isGroup 1 := ⟨by decide +kernel, by decide +kernel, by decide +kernel⟩
abbrev y_Template_init : MethodName := ⟨"StageDispatcher$Template", "<init>", "(LStageDispatcher$Text;)V"⟩
abbrev c_Template_init : ByteArray := prog_11_method_1_code
abbrev rm_Template_init : Room := { frames := 2, cells := 1, slots := 24, locals := 44 }
theorem nm_Template_init : gk_nm y_Template_init 1 := ⟨by decide +kernel, by decide +kernel, by decide +kernel⟩
abbrev y_Catalog_addResource : MethodName := ⟨"StageDispatcher$Catalog", "addResource", "(LStageDispatcher$Template;)I"⟩
abbrev c_Catalog_addResource : ByteArray := prog_3_method_2_code
abbrev rm_Catalog_addResource : Room := { frames := 0, cells := 0, slots := 0, locals := 0 }
theorem nm_Catalog_addResource : gk_nm y_Catalog_addResource 1 := ⟨by decide +kernel, by decide +kernel, by decide +kernel⟩
abbrev y_Text_clear : MethodName := ⟨"StageDispatcher$Text", "clear", "()V"⟩
abbrev c_Text_clear : ByteArray := prog_12_method_3_code
abbrev rm_Text_clear : Room := { frames := 0, cells := 0, slots := 0, locals := 0 }
theorem nm_Text_clear : gk_nm y_Text_clear 0 := ⟨by decide +kernel, by decide +kernel, by decide +kernel⟩
abbrev y_SD_resource : MethodName := ⟨"StageDispatcher", "resource", "(Z)I"⟩
abbrev c_SD_resource : ByteArray := prog_1_method_3_code
abbrev rm_SD_resource : Room := { frames := 3, cells := 2, slots := 29, locals := 71 }
theorem nm_SD_resource : gk_nm y_SD_resource 1 := ⟨by decide +kernel, by decide +kernel, by decide +kernel⟩
abbrev y_Mo_groupAt : MethodName := ⟨"StageDispatcherModel", "groupAt", "(I)I"⟩
abbrev c_Mo_groupAt : ByteArray := prog_14_method_4_code
abbrev rm_Mo_groupAt : Room := { frames := 0, cells := 0, slots := 0, locals := 0 }
theorem nm_Mo_groupAt : gk_nm y_Mo_groupAt 1 := ⟨by decide +kernel, by decide +kernel, by decide +kernel⟩
abbrev y_Mo_goodTemplate : MethodName := ⟨"StageDispatcherModel", "goodTemplate", "()Z"⟩
abbrev c_Mo_goodTemplate : ByteArray := prog_14_method_5_code
abbrev rm_Mo_goodTemplate : Room := { frames := 1, cells := 0, slots := 0, locals := 23 }
theorem nm_Mo_goodTemplate : gk_nm y_Mo_goodTemplate 0 := ⟨by decide +kernel, by decide +kernel, by decide +kernel⟩
abbrev y_Mo_keep : MethodName := ⟨"StageDispatcherModel", "keep", "(IZ)V"⟩
abbrev c_Mo_keep : ByteArray := prog_14_method_6_code
abbrev rm_Mo_keep : Room := { frames := 0, cells := 0, slots := 0, locals := 0 }
theorem nm_Mo_keep : gk_nm y_Mo_keep 2 := ⟨by decide +kernel, by decide +kernel, by decide +kernel⟩
abbrev y_Mo_resource : MethodName := ⟨"StageDispatcherModel", "resource", "(Z)I"⟩
abbrev c_Mo_resource : ByteArray := prog_14_method_19_code
abbrev rm_Mo_resource : Room := { frames := 2, cells := 0, slots := 0, locals := 47 }
theorem nm_Mo_resource : gk_nm y_Mo_resource 1 := ⟨by decide +kernel, by decide +kernel, by decide +kernel⟩
abbrev y_SD_isWithin : MethodName := ⟨"StageDispatcher", "isWithin", "(III)Z"⟩
abbrev c_SD_isWithin : ByteArray := prog_1_method_27_code
abbrev rm_SD_isWithin : Room := { frames := 0, cells := 0, slots := 0, locals := 0 }
theorem nm_SD_isWithin : gk_nm y_SD_isWithin 3 := ⟨by decide +kernel, by decide +kernel, by decide +kernel⟩
abbrev y_Catalog_isResource : MethodName := ⟨"StageDispatcher$Catalog", "isResource", "(I)Z"⟩
abbrev c_Catalog_isResource : ByteArray := prog_3_method_5_code
abbrev rm_Catalog_isResource : Room := { frames := 1, cells := 0, slots := 0, locals := 22 }
theorem nm_Catalog_isResource : gk_nm y_Catalog_isResource 1 := ⟨by decide +kernel, by decide +kernel, by decide +kernel⟩
abbrev y_SD_isVerb : MethodName := ⟨"StageDispatcher", "isVerb", "(I)Z"⟩
abbrev c_SD_isVerb : ByteArray := prog_1_method_28_code
abbrev rm_SD_isVerb : Room := { frames := 1, cells := 0, slots := 0, locals := 22 }
theorem nm_SD_isVerb : gk_nm y_SD_isVerb 1 := ⟨by decide +kernel, by decide +kernel, by decide +kernel⟩
abbrev y_SD_isType : MethodName := ⟨"StageDispatcher", "isType", "(I)Z"⟩
abbrev c_SD_isType : ByteArray := prog_1_method_31_code
abbrev rm_SD_isType : Room := { frames := 1, cells := 0, slots := 0, locals := 22 }
theorem nm_SD_isType : gk_nm y_SD_isType 1 := ⟨by decide +kernel, by decide +kernel, by decide +kernel⟩
abbrev y_Method_init : MethodName := ⟨"StageDispatcher$Method", "<init>", "(ILStageDispatcher$Template;IIII)V"⟩
abbrev c_Method_init : ByteArray := prog_8_method_1_code
abbrev rm_Method_init : Room := { frames := 1, cells := 0, slots := 0, locals := 20 }
theorem nm_Method_init : gk_nm y_Method_init 6 := ⟨by decide +kernel, by decide +kernel, by decide +kernel⟩
abbrev y_Catalog_addMethod : MethodName := ⟨"StageDispatcher$Catalog", "addMethod", "(LStageDispatcher$Method;)I"⟩
abbrev c_Catalog_addMethod : ByteArray := prog_3_method_3_code
abbrev rm_Catalog_addMethod : Room := { frames := 0, cells := 0, slots := 0, locals := 0 }
theorem nm_Catalog_addMethod : gk_nm y_Catalog_addMethod 1 := ⟨by decide +kernel, by decide +kernel, by decide +kernel⟩
abbrev y_SD_method : MethodName := ⟨"StageDispatcher", "method", "(IIIII)I"⟩
abbrev c_SD_method : ByteArray := prog_1_method_4_code
abbrev rm_SD_method : Room := { frames := 3, cells := 3, slots := 38, locals := 71 }
theorem nm_SD_method : gk_nm y_SD_method 5 := ⟨by decide +kernel, by decide +kernel, by decide +kernel⟩
abbrev y_Mo_outside : MethodName := ⟨"StageDispatcherModel", "outside", "(III)Z"⟩
abbrev c_Mo_outside : ByteArray := prog_14_method_2_code
abbrev rm_Mo_outside : Room := { frames := 0, cells := 0, slots := 0, locals := 0 }
theorem nm_Mo_outside : gk_nm y_Mo_outside 3 := ⟨by decide +kernel, by decide +kernel, by decide +kernel⟩
abbrev y_Mo_isType : MethodName := ⟨"StageDispatcherModel", "isType", "(I)Z"⟩
abbrev c_Mo_isType : ByteArray := prog_14_method_15_code
abbrev rm_Mo_isType : Room := { frames := 0, cells := 0, slots := 0, locals := 0 }
theorem nm_Mo_isType : gk_nm y_Mo_isType 1 := ⟨by decide +kernel, by decide +kernel, by decide +kernel⟩
abbrev y_Mo_method : MethodName := ⟨"StageDispatcherModel", "method", "(IIIII)I"⟩
abbrev c_Mo_method : ByteArray := prog_14_method_20_code
abbrev rm_Mo_method : Room := { frames := 2, cells := 0, slots := 0, locals := 47 }
theorem nm_Mo_method : gk_nm y_Mo_method 5 := ⟨by decide +kernel, by decide +kernel, by decide +kernel⟩
abbrev y_SD_isThrown : MethodName := ⟨"StageDispatcher", "isThrown", "(I)Z"⟩
abbrev c_SD_isThrown : ByteArray := prog_1_method_30_code
abbrev rm_SD_isThrown : Room := { frames := 1, cells := 0, slots := 0, locals := 22 }
theorem nm_SD_isThrown : gk_nm y_SD_isThrown 1 := ⟨by decide +kernel, by decide +kernel, by decide +kernel⟩
abbrev y_SD_detail : MethodName := ⟨"StageDispatcher", "detail", "(IIII)Z"⟩
abbrev c_SD_detail : ByteArray := prog_1_method_5_code
abbrev rm_SD_detail : Room := { frames := 2, cells := 0, slots := 0, locals := 42 }
theorem nm_SD_detail : gk_nm y_SD_detail 4 := ⟨by decide +kernel, by decide +kernel, by decide +kernel⟩
abbrev y_Mo_detail : MethodName := ⟨"StageDispatcherModel", "detail", "(IIII)Z"⟩
abbrev c_Mo_detail : ByteArray := prog_14_method_21_code
abbrev rm_Mo_detail : Room := { frames := 1, cells := 0, slots := 0, locals := 22 }
theorem nm_Mo_detail : gk_nm y_Mo_detail 4 := ⟨by decide +kernel, by decide +kernel, by decide +kernel⟩
abbrev y_Record_init : MethodName := ⟨"java/lang/Record", "<init>", "()V"⟩
abbrev c_Record_init : ByteArray := prog_16_method_1_code
abbrev rm_Record_init : Room := { frames := 1, cells := 0, slots := 0, locals := 20 }
theorem nm_Record_init : gk_nm y_Record_init 0 := ⟨by decide +kernel, by decide +kernel, by decide +kernel⟩
abbrev y_Locator_init : MethodName := ⟨"StageDispatcher$Locator", "<init>", "(ILStageDispatcher$Template;I)V"⟩
abbrev c_Locator_init : ByteArray := prog_7_method_1_code
abbrev rm_Locator_init : Room := { frames := 2, cells := 0, slots := 0, locals := 40 }
theorem nm_Locator_init : gk_nm y_Locator_init 3 := ⟨by decide +kernel, by decide +kernel, by decide +kernel⟩
abbrev y_Catalog_addLocator : MethodName := ⟨"StageDispatcher$Catalog", "addLocator", "(LStageDispatcher$Locator;)I"⟩
abbrev c_Catalog_addLocator : ByteArray := prog_3_method_4_code
abbrev rm_Catalog_addLocator : Room := { frames := 0, cells := 0, slots := 0, locals := 0 }
theorem nm_Catalog_addLocator : gk_nm y_Catalog_addLocator 1 := ⟨by decide +kernel, by decide +kernel, by decide +kernel⟩
abbrev y_SD_locator : MethodName := ⟨"StageDispatcher", "locator", "(II)I"⟩
abbrev c_SD_locator : ByteArray := prog_1_method_6_code
abbrev rm_SD_locator : Room := { frames := 3, cells := 3, slots := 32, locals := 71 }
theorem nm_SD_locator : gk_nm y_SD_locator 2 := ⟨by decide +kernel, by decide +kernel, by decide +kernel⟩
abbrev y_Mo_locator : MethodName := ⟨"StageDispatcherModel", "locator", "(II)I"⟩
abbrev c_Mo_locator : ByteArray := prog_14_method_22_code
abbrev rm_Mo_locator : Room := { frames := 2, cells := 0, slots := 0, locals := 47 }
theorem nm_Mo_locator : gk_nm y_Mo_locator 2 := ⟨by decide +kernel, by decide +kernel, by decide +kernel⟩
abbrev y_SD_isStatus : MethodName := ⟨"StageDispatcher", "isStatus", "(I)Z"⟩
abbrev c_SD_isStatus : ByteArray := prog_1_method_29_code
abbrev rm_SD_isStatus : Room := { frames := 1, cells := 0, slots := 0, locals := 22 }
theorem nm_SD_isStatus : gk_nm y_SD_isStatus 1 := ⟨by decide +kernel, by decide +kernel, by decide +kernel⟩
abbrev y_Filter_init : MethodName := ⟨"StageDispatcher$Filter", "<init>", "(IIIII)V"⟩
abbrev c_Filter_init : ByteArray := prog_4_method_1_code
abbrev rm_Filter_init : Room := { frames := 2, cells := 0, slots := 0, locals := 40 }
theorem nm_Filter_init : gk_nm y_Filter_init 5 := ⟨by decide +kernel, by decide +kernel, by decide +kernel⟩
abbrev y_FilterChain_add : MethodName := ⟨"StageDispatcher$FilterChain", "add", "(LStageDispatcher$Filter;)I"⟩
abbrev c_FilterChain_add : ByteArray := prog_5_method_2_code
abbrev rm_FilterChain_add : Room := { frames := 0, cells := 0, slots := 0, locals := 0 }
theorem nm_FilterChain_add : gk_nm y_FilterChain_add 1 := ⟨by decide +kernel, by decide +kernel, by decide +kernel⟩
abbrev y_SD_filter : MethodName := ⟨"StageDispatcher", "filter", "(IIIII)I"⟩
abbrev c_SD_filter : ByteArray := prog_1_method_7_code
abbrev rm_SD_filter : Room := { frames := 3, cells := 1, slots := 5, locals := 65 }
theorem nm_SD_filter : gk_nm y_SD_filter 5 := ⟨by decide +kernel, by decide +kernel, by decide +kernel⟩
abbrev y_Mo_filter : MethodName := ⟨"StageDispatcherModel", "filter", "(IIIII)I"⟩
abbrev c_Mo_filter : ByteArray := prog_14_method_23_code
abbrev rm_Mo_filter : Room := { frames := 1, cells := 0, slots := 0, locals := 22 }
theorem nm_Mo_filter : gk_nm y_Mo_filter 5 := ⟨by decide +kernel, by decide +kernel, by decide +kernel⟩
abbrev y_SD_mapper : MethodName := ⟨"StageDispatcher", "mapper", "(II)Z"⟩
abbrev c_SD_mapper : ByteArray := prog_1_method_8_code
abbrev rm_SD_mapper : Room := { frames := 2, cells := 0, slots := 0, locals := 42 }
theorem nm_SD_mapper : gk_nm y_SD_mapper 2 := ⟨by decide +kernel, by decide +kernel, by decide +kernel⟩
abbrev y_Mo_mapper : MethodName := ⟨"StageDispatcherModel", "mapper", "(II)Z"⟩
abbrev c_Mo_mapper : ByteArray := prog_14_method_24_code
abbrev rm_Mo_mapper : Room := { frames := 1, cells := 0, slots := 0, locals := 22 }
theorem nm_Mo_mapper : gk_nm y_Mo_mapper 2 := ⟨by decide +kernel, by decide +kernel, by decide +kernel⟩
abbrev y_Accepted_add : MethodName := ⟨"StageDispatcher$Accepted", "add", "(II)V"⟩
abbrev c_Accepted_add : ByteArray := prog_2_method_2_code
abbrev rm_Accepted_add : Room := { frames := 0, cells := 0, slots := 0, locals := 0 }
theorem nm_Accepted_add : gk_nm y_Accepted_add 2 := ⟨by decide +kernel, by decide +kernel, by decide +kernel⟩
abbrev y_SD_accept : MethodName := ⟨"StageDispatcher", "accept", "(II)Z"⟩
abbrev c_SD_accept : ByteArray := prog_1_method_9_code
abbrev rm_SD_accept : Room := { frames := 2, cells := 0, slots := 0, locals := 43 }
theorem nm_SD_accept : gk_nm y_SD_accept 2 := ⟨by decide +kernel, by decide +kernel, by decide +kernel⟩
abbrev y_Mo_accept : MethodName := ⟨"StageDispatcherModel", "accept", "(II)Z"⟩
abbrev c_Mo_accept : ByteArray := prog_14_method_25_code
abbrev rm_Mo_accept : Room := { frames := 1, cells := 0, slots := 0, locals := 22 }
theorem nm_Mo_accept : gk_nm y_Mo_accept 2 := ⟨by decide +kernel, by decide +kernel, by decide +kernel⟩
abbrev y_Text_isPath : MethodName := ⟨"StageDispatcher$Text", "isPath", "()Z"⟩
abbrev c_Text_isPath : ByteArray := prog_12_method_6_code
abbrev rm_Text_isPath : Room := { frames := 1, cells := 0, slots := 0, locals := 22 }
theorem nm_Text_isPath : gk_nm y_Text_isPath 0 := ⟨by decide +kernel, by decide +kernel, by decide +kernel⟩
abbrev y_SD_isConcrete : MethodName := ⟨"StageDispatcher", "isConcrete", "(I)Z"⟩
abbrev c_SD_isConcrete : ByteArray := prog_1_method_32_code
abbrev rm_SD_isConcrete : Room := { frames := 2, cells := 0, slots := 0, locals := 43 }
theorem nm_SD_isConcrete : gk_nm y_SD_isConcrete 1 := ⟨by decide +kernel, by decide +kernel, by decide +kernel⟩
abbrev y_Text_copyFrom : MethodName := ⟨"StageDispatcher$Text", "copyFrom", "(LStageDispatcher$Text;)V"⟩
abbrev c_Text_copyFrom : ByteArray := prog_12_method_4_code
abbrev rm_Text_copyFrom : Room := { frames := 1, cells := 0, slots := 0, locals := 100 }
theorem nm_Text_copyFrom : gk_nm y_Text_copyFrom 1 := ⟨by decide +kernel, by decide +kernel, by decide +kernel⟩
abbrev y_Outcome_begin : MethodName := ⟨"StageDispatcher$Outcome", "begin", "(LStageDispatcher$Text;)V"⟩
abbrev c_Outcome_begin : ByteArray := prog_9_method_2_code
abbrev rm_Outcome_begin : Room := { frames := 2, cells := 0, slots := 0, locals := 121 }
theorem nm_Outcome_begin : gk_nm y_Outcome_begin 1 := ⟨by decide +kernel, by decide +kernel, by decide +kernel⟩
abbrev y_Accepted_addDefault : MethodName := ⟨"StageDispatcher$Accepted", "addDefault", "()V"⟩
abbrev c_Accepted_addDefault : ByteArray := prog_2_method_3_code
abbrev rm_Accepted_addDefault : Room := { frames := 1, cells := 0, slots := 0, locals := 22 }
theorem nm_Accepted_addDefault : gk_nm y_Accepted_addDefault 0 := ⟨by decide +kernel, by decide +kernel, by decide +kernel⟩
abbrev y_SD_isBound : MethodName := ⟨"StageDispatcher", "isBound", "(LStageDispatcher$Filter;)Z"⟩
abbrev c_SD_isBound : ByteArray := prog_1_method_21_code
abbrev rm_SD_isBound : Room := { frames := 0, cells := 0, slots := 0, locals := 0 }
theorem nm_SD_isBound : gk_nm y_SD_isBound 1 := ⟨by decide +kernel, by decide +kernel, by decide +kernel⟩
abbrev y_Outcome_addRan : MethodName := ⟨"StageDispatcher$Outcome", "addRan", "(I)V"⟩
abbrev c_Outcome_addRan : ByteArray := prog_9_method_5_code
abbrev rm_Outcome_addRan : Room := { frames := 0, cells := 0, slots := 0, locals := 0 }
theorem nm_Outcome_addRan : gk_nm y_Outcome_addRan 1 := ⟨by decide +kernel, by decide +kernel, by decide +kernel⟩
abbrev y_SD_runFilters : MethodName := ⟨"StageDispatcher", "runFilters", "(III)I"⟩
abbrev c_SD_runFilters : ByteArray := prog_1_method_19_code
abbrev rm_SD_runFilters : Room := { frames := 1, cells := 0, slots := 0, locals := 22 }
theorem nm_SD_runFilters : gk_nm y_SD_runFilters 3 := ⟨by decide +kernel, by decide +kernel, by decide +kernel⟩
abbrev y_Template_isHeavierThan : MethodName := ⟨"StageDispatcher$Template", "isHeavierThan", "(LStageDispatcher$Template;)Z"⟩
abbrev c_Template_isHeavierThan : ByteArray := prog_11_method_7_code
abbrev rm_Template_isHeavierThan : Room := { frames := 0, cells := 0, slots := 0, locals := 0 }
theorem nm_Template_isHeavierThan : gk_nm y_Template_isHeavierThan 1 := ⟨by decide +kernel, by decide +kernel, by decide +kernel⟩
abbrev y_Fit_mayHold : MethodName := ⟨"StageDispatcher$Fit", "mayHold", "(IC)Z"⟩
abbrev c_Fit_mayHold : ByteArray := prog_6_method_5_code
abbrev rm_Fit_mayHold : Room := { frames := 0, cells := 0, slots := 0, locals := 0 }
theorem nm_Fit_mayHold : gk_nm y_Fit_mayHold 2 := ⟨by decide +kernel, by decide +kernel, by decide +kernel⟩
abbrev y_SD_holds : MethodName := ⟨"StageDispatcher", "holds", "(II)Z"⟩
abbrev c_SD_holds : ByteArray := prog_1_method_36_code
abbrev rm_SD_holds : Room := { frames := 0, cells := 0, slots := 0, locals := 0 }
theorem nm_SD_holds : gk_nm y_SD_holds 2 := ⟨by decide +kernel, by decide +kernel, by decide +kernel⟩
abbrev y_Fit_lastEnd : MethodName := ⟨"StageDispatcher$Fit", "lastEnd", "(ILStageDispatcher$Text;II)I"⟩
abbrev c_Fit_lastEnd : ByteArray := prog_6_method_4_code
abbrev rm_Fit_lastEnd : Room := { frames := 1, cells := 0, slots := 0, locals := 21 }
theorem nm_Fit_lastEnd : gk_nm y_Fit_lastEnd 4 := ⟨by decide +kernel, by decide +kernel, by decide +kernel⟩
abbrev y_Fit_openPlaces : MethodName := ⟨"StageDispatcher$Fit", "openPlaces", "(LStageDispatcher$Template;LStageDispatcher$Text;I)V"⟩
abbrev c_Fit_openPlaces : ByteArray := prog_6_method_3_code
abbrev rm_Fit_openPlaces : Room := { frames := 2, cells := 0, slots := 0, locals := 47 }
theorem nm_Fit_openPlaces : gk_nm y_Fit_openPlaces 3 := ⟨by decide +kernel, by decide +kernel, by decide +kernel⟩
abbrev y_Fit_find : MethodName := ⟨"StageDispatcher$Fit", "find", "(LStageDispatcher$Template;LStageDispatcher$Text;I)Z"⟩
abbrev c_Fit_find : ByteArray := prog_6_method_2_code
abbrev rm_Fit_find : Room := { frames := 3, cells := 0, slots := 0, locals := 74 }
theorem nm_Fit_find : gk_nm y_Fit_find 3 := ⟨by decide +kernel, by decide +kernel, by decide +kernel⟩
abbrev y_Text_endsAt : MethodName := ⟨"StageDispatcher$Text", "endsAt", "(I)Z"⟩
abbrev c_Text_endsAt : ByteArray := prog_12_method_7_code
abbrev rm_Text_endsAt : Room := { frames := 1, cells := 0, slots := 0, locals := 22 }
theorem nm_Text_endsAt : gk_nm y_Text_endsAt 1 := ⟨by decide +kernel, by decide +kernel, by decide +kernel⟩
abbrev y_Catalog_leadsDeeper : MethodName := ⟨"StageDispatcher$Catalog", "leadsDeeper", "(I)Z"⟩
abbrev c_Catalog_leadsDeeper : ByteArray := prog_3_method_6_code
abbrev rm_Catalog_leadsDeeper : Room := { frames := 0, cells := 0, slots := 0, locals := 0 }
theorem nm_Catalog_leadsDeeper : gk_nm y_Catalog_leadsDeeper 1 := ⟨by decide +kernel, by decide +kernel, by decide +kernel⟩
abbrev y_Outcome_addParameter : MethodName := ⟨"StageDispatcher$Outcome", "addParameter", "(II)V"⟩
abbrev c_Outcome_addParameter : ByteArray := prog_9_method_4_code
abbrev rm_Outcome_addParameter : Room := { frames := 0, cells := 0, slots := 0, locals := 0 }
theorem nm_Outcome_addParameter : gk_nm y_Outcome_addParameter 2 := ⟨by decide +kernel, by decide +kernel, by decide +kernel⟩
abbrev y_Route_follow : MethodName := ⟨"StageDispatcher$Route", "follow", "(LStageDispatcher$Template;LStageDispatcher$Outcome;)V"⟩
abbrev c_Route_follow : ByteArray := prog_10_method_6_code
abbrev rm_Route_follow : Room := { frames := 4, cells := 0, slots := 0, locals := 100 }
theorem nm_Route_follow : gk_nm y_Route_follow 2 := ⟨by decide +kernel, by decide +kernel, by decide +kernel⟩
abbrev y_Template_isSameAs : MethodName := ⟨"StageDispatcher$Template", "isSameAs", "(LStageDispatcher$Template;)Z"⟩
abbrev c_Template_isSameAs : ByteArray := prog_11_method_6_code
abbrev rm_Template_isSameAs : Room := { frames := 0, cells := 0, slots := 0, locals := 0 }
theorem nm_Template_isSameAs : gk_nm y_Template_isSameAs 1 := ⟨by decide +kernel, by decide +kernel, by decide +kernel⟩
abbrev y_Catalog_rootsWith : MethodName := ⟨"StageDispatcher$Catalog", "rootsWith", "(LStageDispatcher$Template;)I"⟩
abbrev c_Catalog_rootsWith : ByteArray := prog_3_method_7_code
abbrev rm_Catalog_rootsWith : Room := { frames := 1, cells := 0, slots := 0, locals := 22 }
theorem nm_Catalog_rootsWith : gk_nm y_Catalog_rootsWith 1 := ⟨by decide +kernel, by decide +kernel, by decide +kernel⟩
abbrev y_Route_findClasses : MethodName := ⟨"StageDispatcher$Route", "findClasses", "(LStageDispatcher$Catalog;LStageDispatcher$Outcome;)Z"⟩
abbrev c_Route_findClasses : ByteArray := prog_10_method_2_code
abbrev rm_Route_findClasses : Room := { frames := 5, cells := 0, slots := 0, locals := 123 }
theorem nm_Route_findClasses : gk_nm y_Route_findClasses 2 := ⟨by decide +kernel, by decide +kernel, by decide +kernel⟩
abbrev y_Catalog_bareMethods : MethodName := ⟨"StageDispatcher$Catalog", "bareMethods", "(I)I"⟩
abbrev c_Catalog_bareMethods : ByteArray := prog_3_method_8_code
abbrev rm_Catalog_bareMethods : Room := { frames := 1, cells := 0, slots := 0, locals := 21 }
theorem nm_Catalog_bareMethods : gk_nm y_Catalog_bareMethods 1 := ⟨by decide +kernel, by decide +kernel, by decide +kernel⟩
abbrev y_Route_heaviestOfMethods : MethodName := ⟨"StageDispatcher$Route", "heaviestOfMethods", "(LStageDispatcher$Catalog;LStageDispatcher$Text;)LStageDispatcher$Template;"⟩
abbrev c_Route_heaviestOfMethods : ByteArray := prog_10_method_4_code
abbrev rm_Route_heaviestOfMethods : Room := { frames := 4, cells := 0, slots := 0, locals := 100 }
theorem nm_Route_heaviestOfMethods : gk_nm y_Route_heaviestOfMethods 2 := ⟨by decide +kernel, by decide +kernel, by decide +kernel⟩
abbrev y_Route_heaviestLocator : MethodName := ⟨"StageDispatcher$Route", "heaviestLocator", "(LStageDispatcher$Catalog;LStageDispatcher$Text;)LStageDispatcher$Locator;"⟩
abbrev c_Route_heaviestLocator : ByteArray := prog_10_method_5_code
abbrev rm_Route_heaviestLocator : Room := { frames := 4, cells := 0, slots := 0, locals := 100 }
theorem nm_Route_heaviestLocator : gk_nm y_Route_heaviestLocator 2 := ⟨by decide +kernel, by decide +kernel, by decide +kernel⟩
abbrev y_Outcome_addHop : MethodName := ⟨"StageDispatcher$Outcome", "addHop", "(I)V"⟩
abbrev c_Outcome_addHop : ByteArray := prog_9_method_3_code
abbrev rm_Outcome_addHop : Room := { frames := 0, cells := 0, slots := 0, locals := 0 }
theorem nm_Outcome_addHop : gk_nm y_Outcome_addHop 1 := ⟨by decide +kernel, by decide +kernel, by decide +kernel⟩
abbrev y_Catalog_methodsWith : MethodName := ⟨"StageDispatcher$Catalog", "methodsWith", "(ILStageDispatcher$Template;)I"⟩
abbrev c_Catalog_methodsWith : ByteArray := prog_3_method_9_code
abbrev rm_Catalog_methodsWith : Room := { frames := 1, cells := 0, slots := 0, locals := 22 }
theorem nm_Catalog_methodsWith : gk_nm y_Catalog_methodsWith 2 := ⟨by decide +kernel, by decide +kernel, by decide +kernel⟩
abbrev y_Route_findCandidates : MethodName := ⟨"StageDispatcher$Route", "findCandidates", "(LStageDispatcher$Catalog;LStageDispatcher$Outcome;)Z"⟩
abbrev c_Route_findCandidates : ByteArray := prog_10_method_3_code
abbrev rm_Route_findCandidates : Room := { frames := 5, cells := 0, slots := 0, locals := 125 }
theorem nm_Route_findCandidates : gk_nm y_Route_findCandidates 2 := ⟨by decide +kernel, by decide +kernel, by decide +kernel⟩
abbrev y_Catalog_verbsAllowedBy : MethodName := ⟨"StageDispatcher$Catalog", "verbsAllowedBy", "(I)I"⟩
abbrev c_Catalog_verbsAllowedBy : ByteArray := prog_3_method_10_code
abbrev rm_Catalog_verbsAllowedBy : Room := { frames := 1, cells := 0, slots := 0, locals := 21 }
theorem nm_Catalog_verbsAllowedBy : gk_nm y_Catalog_verbsAllowedBy 1 := ⟨by decide +kernel, by decide +kernel, by decide +kernel⟩
abbrev y_Catalog_withVerb : MethodName := ⟨"StageDispatcher$Catalog", "withVerb", "(II)I"⟩
abbrev c_Catalog_withVerb : ByteArray := prog_3_method_11_code
abbrev rm_Catalog_withVerb : Room := { frames := 1, cells := 0, slots := 0, locals := 21 }
theorem nm_Catalog_withVerb : gk_nm y_Catalog_withVerb 2 := ⟨by decide +kernel, by decide +kernel, by decide +kernel⟩
abbrev y_SD_covers : MethodName := ⟨"StageDispatcher", "covers", "(II)Z"⟩
abbrev c_SD_covers : ByteArray := prog_1_method_34_code
abbrev rm_SD_covers : Room := { frames := 0, cells := 0, slots := 0, locals := 0 }
theorem nm_SD_covers : gk_nm y_SD_covers 2 := ⟨by decide +kernel, by decide +kernel, by decide +kernel⟩
abbrev y_Catalog_consuming : MethodName := ⟨"StageDispatcher$Catalog", "consuming", "(II)I"⟩
abbrev c_Catalog_consuming : ByteArray := prog_3_method_12_code
abbrev rm_Catalog_consuming : Room := { frames := 1, cells := 0, slots := 0, locals := 21 }
theorem nm_Catalog_consuming : gk_nm y_Catalog_consuming 2 := ⟨by decide +kernel, by decide +kernel, by decide +kernel⟩
abbrev y_SD_meeting : MethodName := ⟨"StageDispatcher", "meeting", "(II)I"⟩
abbrev c_SD_meeting : ByteArray := prog_1_method_35_code
abbrev rm_SD_meeting : Room := { frames := 1, cells := 0, slots := 0, locals := 21 }
theorem nm_SD_meeting : gk_nm y_SD_meeting 2 := ⟨by decide +kernel, by decide +kernel, by decide +kernel⟩
abbrev y_SD_rankOf : MethodName := ⟨"StageDispatcher", "rankOf", "(I)I"⟩
abbrev c_SD_rankOf : ByteArray := prog_1_method_33_code
abbrev rm_SD_rankOf : Room := { frames := 0, cells := 0, slots := 0, locals := 0 }
theorem nm_SD_rankOf : gk_nm y_SD_rankOf 1 := ⟨by decide +kernel, by decide +kernel, by decide +kernel⟩
abbrev y_Accepted_worth : MethodName := ⟨"StageDispatcher$Accepted", "worth", "(ILStageDispatcher$Method;)I"⟩
abbrev c_Accepted_worth : ByteArray := prog_2_method_6_code
abbrev rm_Accepted_worth : Room := { frames := 2, cells := 0, slots := 0, locals := 42 }
theorem nm_Accepted_worth : gk_nm y_Accepted_worth 2 := ⟨by decide +kernel, by decide +kernel, by decide +kernel⟩
abbrev y_Accepted_bestFor : MethodName := ⟨"StageDispatcher$Accepted", "bestFor", "(LStageDispatcher$Method;)I"⟩
abbrev c_Accepted_bestFor : ByteArray := prog_2_method_5_code
abbrev rm_Accepted_bestFor : Room := { frames := 3, cells := 0, slots := 0, locals := 67 }
theorem nm_Accepted_bestFor : gk_nm y_Accepted_bestFor 1 := ⟨by decide +kernel, by decide +kernel, by decide +kernel⟩
abbrev y_SD_bestOf : MethodName := ⟨"StageDispatcher", "bestOf", "(IZ)I"⟩
abbrev c_SD_bestOf : ByteArray := prog_1_method_23_code
abbrev rm_SD_bestOf : Room := { frames := 4, cells := 0, slots := 0, locals := 92 }
theorem nm_SD_bestOf : gk_nm y_SD_bestOf 2 := ⟨by decide +kernel, by decide +kernel, by decide +kernel⟩
abbrev y_SD_answeredType : MethodName := ⟨"StageDispatcher", "answeredType", "(LStageDispatcher$Method;)I"⟩
abbrev c_SD_answeredType : ByteArray := prog_1_method_24_code
abbrev rm_SD_answeredType : Room := { frames := 4, cells := 0, slots := 0, locals := 92 }
theorem nm_SD_answeredType : gk_nm y_SD_answeredType 1 := ⟨by decide +kernel, by decide +kernel, by decide +kernel⟩
abbrev y_SD_choose : MethodName := ⟨"StageDispatcher", "choose", "(III)I"⟩
abbrev c_SD_choose : ByteArray := prog_1_method_22_code
abbrev rm_SD_choose : Room := { frames := 5, cells := 0, slots := 0, locals := 121 }
theorem nm_SD_choose : gk_nm y_SD_choose 3 := ⟨by decide +kernel, by decide +kernel, by decide +kernel⟩
abbrev y_SD_statusOf : MethodName := ⟨"StageDispatcher", "statusOf", "(I)I"⟩
abbrev c_SD_statusOf : ByteArray := prog_1_method_26_code
abbrev rm_SD_statusOf : Room := { frames := 0, cells := 0, slots := 0, locals := 0 }
theorem nm_SD_statusOf : gk_nm y_SD_statusOf 1 := ⟨by decide +kernel, by decide +kernel, by decide +kernel⟩
abbrev y_Outcome_numberIn : MethodName := ⟨"StageDispatcher$Outcome", "numberIn", "(I)I"⟩
abbrev c_Outcome_numberIn : ByteArray := prog_9_method_6_code
abbrev rm_Outcome_numberIn : Room := { frames := 1, cells := 0, slots := 0, locals := 23 }
theorem nm_Outcome_numberIn : gk_nm y_Outcome_numberIn 1 := ⟨by decide +kernel, by decide +kernel, by decide +kernel⟩
abbrev y_SD_invoke : MethodName := ⟨"StageDispatcher", "invoke", "(LStageDispatcher$Method;)I"⟩
abbrev c_SD_invoke : ByteArray := prog_1_method_25_code
abbrev rm_SD_invoke : Room := { frames := 2, cells := 0, slots := 0, locals := 50 }
theorem nm_SD_invoke : gk_nm y_SD_invoke 1 := ⟨by decide +kernel, by decide +kernel, by decide +kernel⟩
abbrev y_SD_runSteps : MethodName := ⟨"StageDispatcher", "runSteps", "(III)I"⟩
abbrev c_SD_runSteps : ByteArray := prog_1_method_18_code
abbrev rm_SD_runSteps : Room := { frames := 6, cells := 0, slots := 0, locals := 150 }
theorem nm_SD_runSteps : gk_nm y_SD_runSteps 3 := ⟨by decide +kernel, by decide +kernel, by decide +kernel⟩
abbrev y_SD_runFiltersAtTheEnd : MethodName := ⟨"StageDispatcher", "runFiltersAtTheEnd", "()V"⟩
abbrev c_SD_runFiltersAtTheEnd : ByteArray := prog_1_method_20_code
abbrev rm_SD_runFiltersAtTheEnd : Room := { frames := 1, cells := 0, slots := 0, locals := 22 }
theorem nm_SD_runFiltersAtTheEnd : gk_nm y_SD_runFiltersAtTheEnd 0 := ⟨by decide +kernel, by decide +kernel, by decide +kernel⟩
abbrev y_Accepted_clear : MethodName := ⟨"StageDispatcher$Accepted", "clear", "()V"⟩
abbrev c_Accepted_clear : ByteArray := prog_2_method_4_code
abbrev rm_Accepted_clear : Room := { frames := 0, cells := 0, slots := 0, locals := 0 }
theorem nm_Accepted_clear : gk_nm y_Accepted_clear 0 := ⟨by decide +kernel, by decide +kernel, by decide +kernel⟩
abbrev y_SD_request : MethodName := ⟨"StageDispatcher", "request", "(III)I"⟩
abbrev c_SD_request : ByteArray := prog_1_method_10_code
abbrev rm_SD_request : Room := { frames := 7, cells := 0, slots := 0, locals := 176 }
theorem nm_SD_request : gk_nm y_SD_request 3 := ⟨by decide +kernel, by decide +kernel, by decide +kernel⟩
abbrev y_Mo_bound : MethodName := ⟨"StageDispatcherModel", "bound", "(II)Z"⟩
abbrev c_Mo_bound : ByteArray := prog_14_method_35_code
abbrev rm_Mo_bound : Room := { frames := 0, cells := 0, slots := 0, locals := 0 }
theorem nm_Mo_bound : gk_nm y_Mo_bound 2 := ⟨by decide +kernel, by decide +kernel, by decide +kernel⟩
abbrev y_Mo_meetHeader : MethodName := ⟨"StageDispatcherModel", "meetHeader", "(I)V"⟩
abbrev c_Mo_meetHeader : ByteArray := prog_14_method_37_code
abbrev rm_Mo_meetHeader : Room := { frames := 0, cells := 0, slots := 0, locals := 0 }
theorem nm_Mo_meetHeader : gk_nm y_Mo_meetHeader 1 := ⟨by decide +kernel, by decide +kernel, by decide +kernel⟩
abbrev y_Mo_filterAll : MethodName := ⟨"StageDispatcherModel", "filterAll", "(II)V"⟩
abbrev c_Mo_filterAll : ByteArray := prog_14_method_36_code
abbrev rm_Mo_filterAll : Room := { frames := 1, cells := 0, slots := 0, locals := 22 }
theorem nm_Mo_filterAll : gk_nm y_Mo_filterAll 2 := ⟨by decide +kernel, by decide +kernel, by decide +kernel⟩
abbrev y_Mo_cut : MethodName := ⟨"StageDispatcherModel", "cut", "(I)V"⟩
abbrev c_Mo_cut : ByteArray := prog_14_method_8_code
abbrev rm_Mo_cut : Room := { frames := 0, cells := 0, slots := 0, locals := 0 }
theorem nm_Mo_cut : gk_nm y_Mo_cut 1 := ⟨by decide +kernel, by decide +kernel, by decide +kernel⟩
abbrev y_Mo_fits : MethodName := ⟨"StageDispatcherModel", "fits", "(IC)Z"⟩
abbrev c_Mo_fits : ByteArray := prog_14_method_10_code
abbrev rm_Mo_fits : Room := { frames := 0, cells := 0, slots := 0, locals := 0 }
theorem nm_Mo_fits : gk_nm y_Mo_fits 2 := ⟨by decide +kernel, by decide +kernel, by decide +kernel⟩
abbrev y_Mo_longest : MethodName := ⟨"StageDispatcherModel", "longest", "(II)I"⟩
abbrev c_Mo_longest : ByteArray := prog_14_method_11_code
abbrev rm_Mo_longest : Room := { frames := 1, cells := 0, slots := 0, locals := 21 }
theorem nm_Mo_longest : gk_nm y_Mo_longest 2 := ⟨by decide +kernel, by decide +kernel, by decide +kernel⟩
abbrev y_Mo_match : MethodName := ⟨"StageDispatcherModel", "match", "(II)I"⟩
abbrev c_Mo_match : ByteArray := prog_14_method_12_code
abbrev rm_Mo_match : Room := { frames := 2, cells := 0, slots := 0, locals := 46 }
theorem nm_Mo_match : gk_nm y_Mo_match 2 := ⟨by decide +kernel, by decide +kernel, by decide +kernel⟩
abbrev y_Mo_ends : MethodName := ⟨"StageDispatcherModel", "ends", "(I)Z"⟩
abbrev c_Mo_ends : ByteArray := prog_14_method_13_code
abbrev rm_Mo_ends : Room := { frames := 0, cells := 0, slots := 0, locals := 0 }
theorem nm_Mo_ends : gk_nm y_Mo_ends 1 := ⟨by decide +kernel, by decide +kernel, by decide +kernel⟩
abbrev y_Mo_hasTemplates : MethodName := ⟨"StageDispatcherModel", "hasTemplates", "(I)Z"⟩
abbrev c_Mo_hasTemplates : ByteArray := prog_14_method_26_code
abbrev rm_Mo_hasTemplates : Room := { frames := 0, cells := 0, slots := 0, locals := 0 }
theorem nm_Mo_hasTemplates : gk_nm y_Mo_hasTemplates 1 := ⟨by decide +kernel, by decide +kernel, by decide +kernel⟩
abbrev y_Mo_weight : MethodName := ⟨"StageDispatcherModel", "weight", "(I)I"⟩
abbrev c_Mo_weight : ByteArray := prog_14_method_9_code
abbrev rm_Mo_weight : Room := { frames := 1, cells := 0, slots := 0, locals := 25 }
theorem nm_Mo_weight : gk_nm y_Mo_weight 1 := ⟨by decide +kernel, by decide +kernel, by decide +kernel⟩
abbrev y_Mo_same : MethodName := ⟨"StageDispatcherModel", "same", "(II)Z"⟩
abbrev c_Mo_same : ByteArray := prog_14_method_7_code
abbrev rm_Mo_same : Room := { frames := 0, cells := 0, slots := 0, locals := 0 }
theorem nm_Mo_same : gk_nm y_Mo_same 2 := ⟨by decide +kernel, by decide +kernel, by decide +kernel⟩
abbrev y_Mo_count : MethodName := ⟨"StageDispatcherModel", "count", "(II)I"⟩
abbrev c_Mo_count : ByteArray := prog_14_method_14_code
abbrev rm_Mo_count : Room := { frames := 3, cells := 0, slots := 0, locals := 71 }
theorem nm_Mo_count : gk_nm y_Mo_count 2 := ⟨by decide +kernel, by decide +kernel, by decide +kernel⟩
abbrev y_Mo_stageOne : MethodName := ⟨"StageDispatcherModel", "stageOne", "()I"⟩
abbrev c_Mo_stageOne : ByteArray := prog_14_method_27_code
abbrev rm_Mo_stageOne : Room := { frames := 4, cells := 0, slots := 0, locals := 95 }
theorem nm_Mo_stageOne : gk_nm y_Mo_stageOne 0 := ⟨by decide +kernel, by decide +kernel, by decide +kernel⟩
abbrev y_Mo_heaviest : MethodName := ⟨"StageDispatcherModel", "heaviest", "()I"⟩
abbrev c_Mo_heaviest : ByteArray := prog_14_method_28_code
abbrev rm_Mo_heaviest : Room := { frames := 3, cells := 0, slots := 0, locals := 71 }
theorem nm_Mo_heaviest : gk_nm y_Mo_heaviest 0 := ⟨by decide +kernel, by decide +kernel, by decide +kernel⟩
abbrev y_Mo_stageTwo : MethodName := ⟨"StageDispatcherModel", "stageTwo", "()I"⟩
abbrev c_Mo_stageTwo : ByteArray := prog_14_method_29_code
abbrev rm_Mo_stageTwo : Room := { frames := 4, cells := 0, slots := 0, locals := 95 }
theorem nm_Mo_stageTwo : gk_nm y_Mo_stageTwo 0 := ⟨by decide +kernel, by decide +kernel, by decide +kernel⟩
abbrev y_Mo_only : MethodName := ⟨"StageDispatcherModel", "only", "(I)Z"⟩
abbrev c_Mo_only : ByteArray := prog_14_method_30_code
abbrev rm_Mo_only : Room := { frames := 0, cells := 0, slots := 0, locals := 0 }
theorem nm_Mo_only : gk_nm y_Mo_only 1 := ⟨by decide +kernel, by decide +kernel, by decide +kernel⟩
abbrev y_Mo_covers : MethodName := ⟨"StageDispatcherModel", "covers", "(II)Z"⟩
abbrev c_Mo_covers : ByteArray := prog_14_method_17_code
abbrev rm_Mo_covers : Room := { frames := 0, cells := 0, slots := 0, locals := 0 }
theorem nm_Mo_covers : gk_nm y_Mo_covers 2 := ⟨by decide +kernel, by decide +kernel, by decide +kernel⟩
abbrev y_Mo_any : MethodName := ⟨"StageDispatcherModel", "any", "()Z"⟩
abbrev c_Mo_any : ByteArray := prog_14_method_31_code
abbrev rm_Mo_any : Room := { frames := 0, cells := 0, slots := 0, locals := 0 }
theorem nm_Mo_any : gk_nm y_Mo_any 0 := ⟨by decide +kernel, by decide +kernel, by decide +kernel⟩
abbrev y_Mo_meet : MethodName := ⟨"StageDispatcherModel", "meet", "(II)Z"⟩
abbrev c_Mo_meet : ByteArray := prog_14_method_18_code
abbrev rm_Mo_meet : Room := { frames := 1, cells := 0, slots := 0, locals := 21 }
theorem nm_Mo_meet : gk_nm y_Mo_meet 2 := ⟨by decide +kernel, by decide +kernel, by decide +kernel⟩
abbrev y_Mo_accepted : MethodName := ⟨"StageDispatcherModel", "accepted", "(I)Z"⟩
abbrev c_Mo_accepted : ByteArray := prog_14_method_33_code
abbrev rm_Mo_accepted : Room := { frames := 2, cells := 0, slots := 0, locals := 42 }
theorem nm_Mo_accepted : gk_nm y_Mo_accepted 1 := ⟨by decide +kernel, by decide +kernel, by decide +kernel⟩
abbrev y_Mo_rank : MethodName := ⟨"StageDispatcherModel", "rank", "(I)I"⟩
abbrev c_Mo_rank : ByteArray := prog_14_method_16_code
abbrev rm_Mo_rank : Room := { frames := 0, cells := 0, slots := 0, locals := 0 }
theorem nm_Mo_rank : gk_nm y_Mo_rank 1 := ⟨by decide +kernel, by decide +kernel, by decide +kernel⟩
abbrev y_Mo_weigh : MethodName := ⟨"StageDispatcherModel", "weigh", "(IIII)V"⟩
abbrev c_Mo_weigh : ByteArray := prog_14_method_32_code
abbrev rm_Mo_weigh : Room := { frames := 2, cells := 0, slots := 0, locals := 42 }
theorem nm_Mo_weigh : gk_nm y_Mo_weigh 4 := ⟨by decide +kernel, by decide +kernel, by decide +kernel⟩
abbrev y_Mo_stageThree : MethodName := ⟨"StageDispatcherModel", "stageThree", "(I)I"⟩
abbrev c_Mo_stageThree : ByteArray := prog_14_method_34_code
abbrev rm_Mo_stageThree : Room := { frames := 3, cells := 0, slots := 0, locals := 71 }
theorem nm_Mo_stageThree : gk_nm y_Mo_stageThree 1 := ⟨by decide +kernel, by decide +kernel, by decide +kernel⟩
abbrev y_Mo_raise : MethodName := ⟨"StageDispatcherModel", "raise", "(I)V"⟩
abbrev c_Mo_raise : ByteArray := prog_14_method_38_code
abbrev rm_Mo_raise : Room := { frames := 0, cells := 0, slots := 0, locals := 0 }
theorem nm_Mo_raise : gk_nm y_Mo_raise 1 := ⟨by decide +kernel, by decide +kernel, by decide +kernel⟩
abbrev y_Mo_matching : MethodName := ⟨"StageDispatcherModel", "matching", "(I)V"⟩
abbrev c_Mo_matching : ByteArray := prog_14_method_39_code
abbrev rm_Mo_matching : Room := { frames := 5, cells := 0, slots := 0, locals := 120 }
theorem nm_Mo_matching : gk_nm y_Mo_matching 1 := ⟨by decide +kernel, by decide +kernel, by decide +kernel⟩
abbrev y_Mo_numberOf : MethodName := ⟨"StageDispatcherModel", "numberOf", "(I)I"⟩
abbrev c_Mo_numberOf : ByteArray := prog_14_method_40_code
abbrev rm_Mo_numberOf : Room := { frames := 0, cells := 0, slots := 0, locals := 0 }
theorem nm_Mo_numberOf : gk_nm y_Mo_numberOf 1 := ⟨by decide +kernel, by decide +kernel, by decide +kernel⟩
abbrev y_Mo_invoke : MethodName := ⟨"StageDispatcherModel", "invoke", "()V"⟩
abbrev c_Mo_invoke : ByteArray := prog_14_method_41_code
abbrev rm_Mo_invoke : Room := { frames := 1, cells := 0, slots := 0, locals := 25 }
theorem nm_Mo_invoke : gk_nm y_Mo_invoke 0 := ⟨by decide +kernel, by decide +kernel, by decide +kernel⟩
abbrev y_Mo_request : MethodName := ⟨"StageDispatcherModel", "request", "(III)I"⟩
abbrev c_Mo_request : ByteArray := prog_14_method_42_code
abbrev rm_Mo_request : Room := { frames := 6, cells := 0, slots := 0, locals := 142 }
theorem nm_Mo_request : gk_nm y_Mo_request 3 := ⟨by decide +kernel, by decide +kernel, by decide +kernel⟩
abbrev y_SD_invoked : MethodName := ⟨"StageDispatcher", "invoked", "()I"⟩
abbrev c_SD_invoked : ByteArray := prog_1_method_11_code
abbrev rm_SD_invoked : Room := { frames := 0, cells := 0, slots := 0, locals := 0 }
theorem nm_SD_invoked : gk_nm y_SD_invoked 0 := ⟨by decide +kernel, by decide +kernel, by decide +kernel⟩
abbrev y_Mo_invoked : MethodName := ⟨"StageDispatcherModel", "invoked", "()I"⟩
abbrev c_Mo_invoked : ByteArray := prog_14_method_43_code
abbrev rm_Mo_invoked : Room := { frames := 0, cells := 0, slots := 0, locals := 0 }
theorem nm_Mo_invoked : gk_nm y_Mo_invoked 0 := ⟨by decide +kernel, by decide +kernel, by decide +kernel⟩
abbrev y_SD_argument : MethodName := ⟨"StageDispatcher", "argument", "()I"⟩
abbrev c_SD_argument : ByteArray := prog_1_method_12_code
abbrev rm_SD_argument : Room := { frames := 0, cells := 0, slots := 0, locals := 0 }
theorem nm_SD_argument : gk_nm y_SD_argument 0 := ⟨by decide +kernel, by decide +kernel, by decide +kernel⟩
abbrev y_Mo_argument : MethodName := ⟨"StageDispatcherModel", "argument", "()I"⟩
abbrev c_Mo_argument : ByteArray := prog_14_method_44_code
abbrev rm_Mo_argument : Room := { frames := 0, cells := 0, slots := 0, locals := 0 }
theorem nm_Mo_argument : gk_nm y_Mo_argument 0 := ⟨by decide +kernel, by decide +kernel, by decide +kernel⟩
abbrev y_SD_hop : MethodName := ⟨"StageDispatcher", "hop", "(I)I"⟩
abbrev c_SD_hop : ByteArray := prog_1_method_13_code
abbrev rm_SD_hop : Room := { frames := 1, cells := 0, slots := 0, locals := 22 }
theorem nm_SD_hop : gk_nm y_SD_hop 1 := ⟨by decide +kernel, by decide +kernel, by decide +kernel⟩
abbrev y_Mo_hop : MethodName := ⟨"StageDispatcherModel", "hop", "(I)I"⟩
abbrev c_Mo_hop : ByteArray := prog_14_method_45_code
abbrev rm_Mo_hop : Room := { frames := 1, cells := 0, slots := 0, locals := 22 }
theorem nm_Mo_hop : gk_nm y_Mo_hop 1 := ⟨by decide +kernel, by decide +kernel, by decide +kernel⟩
abbrev y_SD_parameter : MethodName := ⟨"StageDispatcher", "parameter", "(II)I"⟩
abbrev c_SD_parameter : ByteArray := prog_1_method_14_code
abbrev rm_SD_parameter : Room := { frames := 1, cells := 0, slots := 0, locals := 22 }
theorem nm_SD_parameter : gk_nm y_SD_parameter 2 := ⟨by decide +kernel, by decide +kernel, by decide +kernel⟩
abbrev y_Mo_parameter : MethodName := ⟨"StageDispatcherModel", "parameter", "(II)I"⟩
abbrev c_Mo_parameter : ByteArray := prog_14_method_46_code
abbrev rm_Mo_parameter : Room := { frames := 1, cells := 0, slots := 0, locals := 22 }
theorem nm_Mo_parameter : gk_nm y_Mo_parameter 2 := ⟨by decide +kernel, by decide +kernel, by decide +kernel⟩
abbrev y_SD_allowed : MethodName := ⟨"StageDispatcher", "allowed", "()I"⟩
abbrev c_SD_allowed : ByteArray := prog_1_method_15_code
abbrev rm_SD_allowed : Room := { frames := 0, cells := 0, slots := 0, locals := 0 }
theorem nm_SD_allowed : gk_nm y_SD_allowed 0 := ⟨by decide +kernel, by decide +kernel, by decide +kernel⟩
abbrev y_Mo_allowed : MethodName := ⟨"StageDispatcherModel", "allowed", "()I"⟩
abbrev c_Mo_allowed : ByteArray := prog_14_method_47_code
abbrev rm_Mo_allowed : Room := { frames := 0, cells := 0, slots := 0, locals := 0 }
theorem nm_Mo_allowed : gk_nm y_Mo_allowed 0 := ⟨by decide +kernel, by decide +kernel, by decide +kernel⟩
abbrev y_SD_produced : MethodName := ⟨"StageDispatcher", "produced", "()I"⟩
abbrev c_SD_produced : ByteArray := prog_1_method_16_code
abbrev rm_SD_produced : Room := { frames := 0, cells := 0, slots := 0, locals := 0 }
theorem nm_SD_produced : gk_nm y_SD_produced 0 := ⟨by decide +kernel, by decide +kernel, by decide +kernel⟩
abbrev y_Mo_produced : MethodName := ⟨"StageDispatcherModel", "produced", "()I"⟩
abbrev c_Mo_produced : ByteArray := prog_14_method_48_code
abbrev rm_Mo_produced : Room := { frames := 0, cells := 0, slots := 0, locals := 0 }
theorem nm_Mo_produced : gk_nm y_Mo_produced 0 := ⟨by decide +kernel, by decide +kernel, by decide +kernel⟩
abbrev y_SD_ran : MethodName := ⟨"StageDispatcher", "ran", "(I)I"⟩
abbrev c_SD_ran : ByteArray := prog_1_method_17_code
abbrev rm_SD_ran : Room := { frames := 1, cells := 0, slots := 0, locals := 22 }
theorem nm_SD_ran : gk_nm y_SD_ran 1 := ⟨by decide +kernel, by decide +kernel, by decide +kernel⟩
abbrev y_Mo_ran : MethodName := ⟨"StageDispatcherModel", "ran", "(I)I"⟩
abbrev c_Mo_ran : ByteArray := prog_14_method_49_code
abbrev rm_Mo_ran : Room := { frames := 1, cells := 0, slots := 0, locals := 22 }
theorem nm_Mo_ran : gk_nm y_Mo_ran 1 := ⟨by decide +kernel, by decide +kernel, by decide +kernel⟩
