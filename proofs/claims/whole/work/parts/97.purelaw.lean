theorem pure_law : ∀ (xs : Nat → Int32) (ln sz : Nat), ln ≤ 3072 → fn_Law_law xs ln (fun _ => none, sz) = some () := sorry
